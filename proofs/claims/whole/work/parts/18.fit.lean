/-! BellPlate$Fit.<init>(LBellPlate$Tower;LBellPlate$Book;)V -/
abbrev y_Ft_init : MethodName := ⟨"BellPlate$Fit", "<init>", "(LBellPlate$Tower;LBellPlate$Book;)V"⟩
theorem k_Ft_init : y_Ft_init.cls ≠ "java/lang/invoke/MethodHandle" ∧ y_Ft_init.cls ≠ "java/lang/invoke/VarHandle" ∧ (parseMethodDescriptor y_Ft_init.desc).map (fun d => d.parameters.length) = some 2 := by decide +kernel
theorem d_Ft_init_0 : decode prog_5_method_1_code 0 = .ok (.aload_n 0, 1) := by decide +kernel
theorem d_Ft_init_1 : decode prog_5_method_1_code 1 = .ok (.invokespecial 3, 3) := by decide +kernel
theorem d_Ft_init_4 : decode prog_5_method_1_code 4 = .ok (.aload_n 0, 1) := by decide +kernel
theorem d_Ft_init_5 : decode prog_5_method_1_code 5 = .ok (.aload_n 1, 1) := by decide +kernel
theorem d_Ft_init_6 : decode prog_5_method_1_code 6 = .ok (.putfield 9, 3) := by decide +kernel
theorem d_Ft_init_9 : decode prog_5_method_1_code 9 = .ok (.aload_n 0, 1) := by decide +kernel
theorem d_Ft_init_10 : decode prog_5_method_1_code 10 = .ok (.aload_n 2, 1) := by decide +kernel
theorem d_Ft_init_11 : decode prog_5_method_1_code 11 = .ok (.putfield 15, 3) := by decide +kernel
theorem d_Ft_init_14 : decode prog_5_method_1_code 14 = .ok (.aload_n 0, 1) := by decide +kernel
theorem d_Ft_init_15 : decode prog_5_method_1_code 15 = .ok (.bipush 6, 2) := by decide +kernel
theorem d_Ft_init_17 : decode prog_5_method_1_code 17 = .ok (.newarray .int, 2) := by decide +kernel
theorem d_Ft_init_19 : decode prog_5_method_1_code 19 = .ok (.putfield 21, 3) := by decide +kernel
theorem d_Ft_init_22 : decode prog_5_method_1_code 22 = .ok (.aload_n 0, 1) := by decide +kernel
theorem d_Ft_init_23 : decode prog_5_method_1_code 23 = .ok (.bipush 64, 2) := by decide +kernel
theorem d_Ft_init_25 : decode prog_5_method_1_code 25 = .ok (.newarray .int, 2) := by decide +kernel
theorem d_Ft_init_27 : decode prog_5_method_1_code 27 = .ok (.putfield 27, 3) := by decide +kernel
theorem d_Ft_init_30 : decode prog_5_method_1_code 30 = .ok (.aload_n 0, 1) := by decide +kernel
theorem d_Ft_init_31 : decode prog_5_method_1_code 31 = .ok (.bipush 64, 2) := by decide +kernel
theorem d_Ft_init_33 : decode prog_5_method_1_code 33 = .ok (.newarray .int, 2) := by decide +kernel
theorem d_Ft_init_35 : decode prog_5_method_1_code 35 = .ok (.putfield 30, 3) := by decide +kernel
theorem d_Ft_init_38 : decode prog_5_method_1_code 38 = .ok (.aload_n 0, 1) := by decide +kernel
theorem d_Ft_init_39 : decode prog_5_method_1_code 39 = .ok (.bipush 64, 2) := by decide +kernel
theorem d_Ft_init_41 : decode prog_5_method_1_code 41 = .ok (.newarray .long, 2) := by decide +kernel
theorem d_Ft_init_43 : decode prog_5_method_1_code 43 = .ok (.putfield 33, 3) := by decide +kernel
theorem d_Ft_init_46 : decode prog_5_method_1_code 46 = .ok (.aload_n 0, 1) := by decide +kernel
theorem d_Ft_init_47 : decode prog_5_method_1_code 47 = .ok (.bipush 60, 2) := by decide +kernel
theorem d_Ft_init_49 : decode prog_5_method_1_code 49 = .ok (.newarray .int, 2) := by decide +kernel
theorem d_Ft_init_51 : decode prog_5_method_1_code 51 = .ok (.putfield 39, 3) := by decide +kernel
theorem d_Ft_init_54 : decode prog_5_method_1_code 54 = .ok (.aload_n 0, 1) := by decide +kernel
theorem d_Ft_init_55 : decode prog_5_method_1_code 55 = .ok (.bipush 6, 2) := by decide +kernel
theorem d_Ft_init_57 : decode prog_5_method_1_code 57 = .ok (.newarray .int, 2) := by decide +kernel
theorem d_Ft_init_59 : decode prog_5_method_1_code 59 = .ok (.putfield 42, 3) := by decide +kernel
theorem d_Ft_init_62 : decode prog_5_method_1_code 62 = .ok (.return_, 1) := by decide +kernel
abbrev S_Ft_init : Type := Nat × Nat × Nat × Nat × AM
noncomputable def T_Ft_init_0 (v0R : Nat) (v1R : Nat) (v2R : Nat) (σ : AM) : S_Ft_init ⊕ Option (Unit × AM) :=
  gdT (okO σ v0R 8) <| gdT (okO σ v1R 1) <| letT (sR σ v0R 0 v1R) fun σ3 => gdT (okO σ3 v2R 4) <| letT (sR σ3 v0R 1 v2R) fun σ6 => letT (nw σ6 101 (6 : Int32).toNatClampNeg) fun σ8 => gdT (okO σ8 v0R 8) <| letT (sR σ8 v0R 2 (aZ σ6)) fun σ11 => letT (nw σ11 101 (64 : Int32).toNatClampNeg) fun σ13 => gdT (okO σ13 v0R 8) <| letT (sR σ13 v0R 3 (aZ σ11)) fun σ16 => letT (nw σ16 101 (64 : Int32).toNatClampNeg) fun σ18 => gdT (okO σ18 v0R 8) <| letT (sR σ18 v0R 4 (aZ σ16)) fun σ21 => letT (nw σ21 102 (64 : Int32).toNatClampNeg) fun σ23 => gdT (okO σ23 v0R 8) <| letT (sR σ23 v0R 11 (aZ σ21)) fun σ26 => letT (nw σ26 101 (60 : Int32).toNatClampNeg) fun σ28 => gdT (okO σ28 v0R 8) <| letT (sR σ28 v0R 12 (aZ σ26)) fun σ31 => letT (nw σ31 101 (6 : Int32).toNatClampNeg) fun σ33 => gdT (okO σ33 v0R 8) <| letT (sR σ33 v0R 13 (aZ σ31)) fun σ36 => .inr (some ((), σ36))
noncomputable def F_Ft_init : S_Ft_init → S_Ft_init ⊕ Option (Unit × AM) := fun s => match s.1 with
  | _ => T_Ft_init_0 (s.2.1) (s.2.2.1) (s.2.2.2.1) (s.2.2.2.2)
noncomputable def L_Ft_init_0 (v0R : Nat) (v1R : Nat) (v2R : Nat) (σ : AM) : Option (Unit × AM) := lp F_Ft_init (0, v0R, v1R, v2R, σ)
set_option maxRecDepth 20000 in
theorem E_Ft_init_0 (v0R : Nat) (v1R : Nat) (v2R : Nat) (σ : AM) : L_Ft_init_0 v0R v1R v2R σ = (gd (okO σ v0R 8) <| gd (okO σ v1R 1) <| letT (sR σ v0R 0 v1R) fun σ3 => gd (okO σ3 v2R 4) <| letT (sR σ3 v0R 1 v2R) fun σ6 => letT (nw σ6 101 (6 : Int32).toNatClampNeg) fun σ8 => gd (okO σ8 v0R 8) <| letT (sR σ8 v0R 2 (aZ σ6)) fun σ11 => letT (nw σ11 101 (64 : Int32).toNatClampNeg) fun σ13 => gd (okO σ13 v0R 8) <| letT (sR σ13 v0R 3 (aZ σ11)) fun σ16 => letT (nw σ16 101 (64 : Int32).toNatClampNeg) fun σ18 => gd (okO σ18 v0R 8) <| letT (sR σ18 v0R 4 (aZ σ16)) fun σ21 => letT (nw σ21 102 (64 : Int32).toNatClampNeg) fun σ23 => gd (okO σ23 v0R 8) <| letT (sR σ23 v0R 11 (aZ σ21)) fun σ26 => letT (nw σ26 101 (60 : Int32).toNatClampNeg) fun σ28 => gd (okO σ28 v0R 8) <| letT (sR σ28 v0R 12 (aZ σ26)) fun σ31 => letT (nw σ31 101 (6 : Int32).toNatClampNeg) fun σ33 => gd (okO σ33 v0R 8) <| letT (sR σ33 v0R 13 (aZ σ31)) fun σ36 => (some ((), σ36))) := by
  unfold L_Ft_init_0
  rw [lp_eq]
  show lpK (lp F_Ft_init) (T_Ft_init_0 v0R v1R v2R σ) = _
  unfold T_Ft_init_0
  simp only [lpK_ite, lq_inl, lq_inr, lpK_bnd, lpK_gd, lq_let]
  try rfl
noncomputable def M_Ft_init (v0R : Nat) (v1R : Nat) (v2R : Nat) (σ : AM) : Option (Unit × AM) := mw σ (L_Ft_init_0 v0R v1R v2R σ)
def I_Ft_init (G : GX) (p : Program) (l : Launch) (e : Env) (s : State) (m : MethodId) (args : Array Value) (below : List Frame) (meth : Method) (c : Code) (z0 u0 n : Nat) : Prop :=
  (∀ (v0R : Nat) (v1R : Nat) (v2R : Nat) (σ : AM), VX (QM eV G args s below z0 u0) G p l e s m args below meth c 1 z0 u0 3 (lpn F_Ft_init n (0, v0R, v1R, v2R, σ)) 0 [(0, .ref v0R), (1, .ref v1R), (2, .ref v2R)] [] σ)
set_option maxRecDepth 20000 in
theorem s_Ft_init_0 {G : GX} {p : Program} {l : Launch} {e : Env} {s : State} {m : MethodId} {args : Array Value} {below : List Frame} {meth : Method} {c : Code} {z0 u0 n : Nat} (C : Cx G p s m args meth c prog_5_method_1_code 3 "BellPlate$Fit" ((none))) (hin : meth.name = "<init>") (IH : I_Ft_init G p l e s m args below meth c z0 u0 n) (v0R : Nat) (v1R : Nat) (v2R : Nat) (σ : AM) : VX (QM eV G args s below z0 u0) G p l e s m args below meth c 1 z0 u0 3 (lpK (lpn F_Ft_init n) (T_Ft_init_0 v0R v1R v2R σ)) 0 [(0, .ref v0R), (1, .ref v1R), (2, .ref v2R)] [] σ := by
  unfold T_Ft_init_0
  refine x_aload_n C d_Ft_init_0 0 rfl ?_
  refine x_gd (fun h1 => ?_)
  refine x_obj C (okO_iff.mp h1) w480 w153 w154 (by decide) (Nat.le_of_ble_eq_true rfl) d_Ft_init_1 ?_
  refine x_aload_n C d_Ft_init_4 0 rfl ?_
  refine x_aload_n C d_Ft_init_5 1 rfl ?_
  refine x_gd (fun h2 => ?_)
  refine x_putRF (k := 0) (kv := 1) C (okO_iff.mp h1) rfl j7_ok y7_ok n7_ok (by decide) rfl (okO_iff.mp h2) (by decide) rfl hin rfl rfl rfl w481 d_Ft_init_6 ?_
  refine x_letS (fun σ3 e4 => ?_)
  refine x_aload_n C d_Ft_init_9 0 rfl ?_
  refine x_aload_n C d_Ft_init_10 2 rfl ?_
  refine x_gd (fun h5 => ?_)
  refine x_putRF (k := 1) (kv := 4) C (by first | exact (okO_iff.mp h1) | (rw [e4]; exact (okO_iff.mp h1))) rfl j7_ok y7_ok n7_ok (by decide) rfl (okO_iff.mp h5) (by decide) rfl hin rfl rfl rfl w482 d_Ft_init_11 ?_
  refine x_letS (fun σ6 e7 => ?_)
  refine x_aload_n C d_Ft_init_14 0 rfl ?_
  refine x_bipush (v := (6 : Int32)) C d_Ft_init_15 (by decide) ?_
  refine x_newaI C w203 (by decide) (by decide) d_Ft_init_17 ?_
  refine x_letS (fun σ8 e9 => ?_)
  refine x_gd (fun h10 => ?_)
  refine x_putRF (k := 2) (kv := 101) C (okO_iff.mp h10) rfl j7_ok y7_ok n7_ok (by decide) rfl (fr_K e9) (by decide) rfl hin rfl rfl rfl w483 d_Ft_init_19 ?_
  refine x_letS (fun σ11 e12 => ?_)
  refine x_aload_n C d_Ft_init_22 0 rfl ?_
  refine x_bipush (v := (64 : Int32)) C d_Ft_init_23 (by decide) ?_
  refine x_newaI C w203 (by decide) (by decide) d_Ft_init_25 ?_
  refine x_letS (fun σ13 e14 => ?_)
  refine x_gd (fun h15 => ?_)
  refine x_putRF (k := 3) (kv := 101) C (okO_iff.mp h15) rfl j7_ok y7_ok n7_ok (by decide) rfl (fr_K e14) (by decide) rfl hin rfl rfl rfl w484 d_Ft_init_27 ?_
  refine x_letS (fun σ16 e17 => ?_)
  refine x_aload_n C d_Ft_init_30 0 rfl ?_
  refine x_bipush (v := (64 : Int32)) C d_Ft_init_31 (by decide) ?_
  refine x_newaI C w203 (by decide) (by decide) d_Ft_init_33 ?_
  refine x_letS (fun σ18 e19 => ?_)
  refine x_gd (fun h20 => ?_)
  refine x_putRF (k := 4) (kv := 101) C (okO_iff.mp h20) rfl j7_ok y7_ok n7_ok (by decide) rfl (fr_K e19) (by decide) rfl hin rfl rfl rfl w485 d_Ft_init_35 ?_
  refine x_letS (fun σ21 e22 => ?_)
  refine x_aload_n C d_Ft_init_38 0 rfl ?_
  refine x_bipush (v := (64 : Int32)) C d_Ft_init_39 (by decide) ?_
  refine x_newaJ C w202 (by decide) (by decide) d_Ft_init_41 ?_
  refine x_letS (fun σ23 e24 => ?_)
  refine x_gd (fun h25 => ?_)
  refine x_putRF (k := 11) (kv := 102) C (okO_iff.mp h25) rfl j7_ok y7_ok n7_ok (by decide) rfl (fr_K e24) (by decide) rfl hin rfl rfl rfl w492 d_Ft_init_43 ?_
  refine x_letS (fun σ26 e27 => ?_)
  refine x_aload_n C d_Ft_init_46 0 rfl ?_
  refine x_bipush (v := (60 : Int32)) C d_Ft_init_47 (by decide) ?_
  refine x_newaI C w203 (by decide) (by decide) d_Ft_init_49 ?_
  refine x_letS (fun σ28 e29 => ?_)
  refine x_gd (fun h30 => ?_)
  refine x_putRF (k := 12) (kv := 101) C (okO_iff.mp h30) rfl j7_ok y7_ok n7_ok (by decide) rfl (fr_K e29) (by decide) rfl hin rfl rfl rfl w493 d_Ft_init_51 ?_
  refine x_letS (fun σ31 e32 => ?_)
  refine x_aload_n C d_Ft_init_54 0 rfl ?_
  refine x_bipush (v := (6 : Int32)) C d_Ft_init_55 (by decide) ?_
  refine x_newaI C w203 (by decide) (by decide) d_Ft_init_57 ?_
  refine x_letS (fun σ33 e34 => ?_)
  refine x_gd (fun h35 => ?_)
  refine x_putRF (k := 13) (kv := 101) C (okO_iff.mp h35) rfl j7_ok y7_ok n7_ok (by decide) rfl (fr_K e34) (by decide) rfl hin rfl rfl rfl w494 d_Ft_init_59 ?_
  refine x_letS (fun σ36 e37 => ?_)
  exact x_vret C d_Ft_init_62
theorem i_Ft_init {G : GX} {p : Program} {l : Launch} {e : Env} {s : State} {m : MethodId} {args : Array Value} {below : List Frame} {meth : Method} {c : Code} {z0 u0 : Nat} (C : Cx G p s m args meth c prog_5_method_1_code 3 "BellPlate$Fit" ((none))) (hin : meth.name = "<init>") (n : Nat) : I_Ft_init G p l e s m args below meth c z0 u0 n := by
  induction n with
  | zero => exact fun _ _ _ _ => x_none
  | succ n IH => exact fun v0R v1R v2R σ => s_Ft_init_0 C hin IH v0R v1R v2R σ
theorem c_Ft_init (G : GX) (l : Launch) (v0R : Nat) (v1R : Nat) (v2R : Nat) (σ : AM) : CT eV G l 1 y_Ft_init prog_5_method_1_code 3 (none) [.ref v0R, .ref v1R, .ref v2R] σ (M_Ft_init v0R v1R v2R σ) := by
  refine ct_of (by decide +kernel) (Nat.le_of_ble_eq_true rfl) (fun p e s m args below meth c C hin => ?_)
  refine x_lve (lv' := [(0, .ref v0R), (1, .ref v1R), (2, .ref v2R)]) rfl ?_
  intro r σ' h
  obtain ⟨n, hn⟩ := (lp_iff _ _ _).mp h
  exact (i_Ft_init C hin n) v0R v1R v2R σ r σ' hn
/-! BellPlate$Fit.leastBarOfRow()I -/
abbrev y_Ft_leastBarOfRow : MethodName := ⟨"BellPlate$Fit", "leastBarOfRow", "()I"⟩
theorem k_Ft_leastBarOfRow : y_Ft_leastBarOfRow.cls ≠ "java/lang/invoke/MethodHandle" ∧ y_Ft_leastBarOfRow.cls ≠ "java/lang/invoke/VarHandle" ∧ (parseMethodDescriptor y_Ft_leastBarOfRow.desc).map (fun d => d.parameters.length) = some 0 := by decide +kernel
theorem d_Ft_leastBarOfRow_0 : decode prog_5_method_4_code 0 = .ok (.iconst 0, 1) := by decide +kernel
theorem d_Ft_leastBarOfRow_1 : decode prog_5_method_4_code 1 = .ok (.istore_n 1, 1) := by decide +kernel
theorem d_Ft_leastBarOfRow_2 : decode prog_5_method_4_code 2 = .ok (.iconst 0, 1) := by decide +kernel
theorem d_Ft_leastBarOfRow_3 : decode prog_5_method_4_code 3 = .ok (.istore_n 2, 1) := by decide +kernel
theorem d_Ft_leastBarOfRow_4 : decode prog_5_method_4_code 4 = .ok (.iload_n 2, 1) := by decide +kernel
theorem d_Ft_leastBarOfRow_5 : decode prog_5_method_4_code 5 = .ok (.aload_n 0, 1) := by decide +kernel
theorem d_Ft_leastBarOfRow_6 : decode prog_5_method_4_code 6 = .ok (.getfield 60, 3) := by decide +kernel
theorem d_Ft_leastBarOfRow_9 : decode prog_5_method_4_code 9 = .ok (.if_icmp .ge 27, 3) := by decide +kernel
theorem d_Ft_leastBarOfRow_12 : decode prog_5_method_4_code 12 = .ok (.iload_n 1, 1) := by decide +kernel
theorem d_Ft_leastBarOfRow_13 : decode prog_5_method_4_code 13 = .ok (.aload_n 0, 1) := by decide +kernel
theorem d_Ft_leastBarOfRow_14 : decode prog_5_method_4_code 14 = .ok (.getfield 30, 3) := by decide +kernel
theorem d_Ft_leastBarOfRow_17 : decode prog_5_method_4_code 17 = .ok (.iload_n 2, 1) := by decide +kernel
theorem d_Ft_leastBarOfRow_18 : decode prog_5_method_4_code 18 = .ok (.iaload, 1) := by decide +kernel
theorem d_Ft_leastBarOfRow_19 : decode prog_5_method_4_code 19 = .ok (.aload_n 0, 1) := by decide +kernel
theorem d_Ft_leastBarOfRow_20 : decode prog_5_method_4_code 20 = .ok (.getfield 21, 3) := by decide +kernel
theorem d_Ft_leastBarOfRow_23 : decode prog_5_method_4_code 23 = .ok (.invokestatic 97, 3) := by decide +kernel
theorem d_Ft_leastBarOfRow_26 : decode prog_5_method_4_code 26 = .ok (.invokestatic 101, 3) := by decide +kernel
theorem d_Ft_leastBarOfRow_29 : decode prog_5_method_4_code 29 = .ok (.istore_n 1, 1) := by decide +kernel
theorem d_Ft_leastBarOfRow_30 : decode prog_5_method_4_code 30 = .ok (.iinc 2 1, 3) := by decide +kernel
theorem d_Ft_leastBarOfRow_33 : decode prog_5_method_4_code 33 = .ok (.goto (-29), 3) := by decide +kernel
theorem d_Ft_leastBarOfRow_36 : decode prog_5_method_4_code 36 = .ok (.iconst 0, 1) := by decide +kernel
theorem d_Ft_leastBarOfRow_37 : decode prog_5_method_4_code 37 = .ok (.istore_n 2, 1) := by decide +kernel
theorem d_Ft_leastBarOfRow_38 : decode prog_5_method_4_code 38 = .ok (.iload_n 2, 1) := by decide +kernel
theorem d_Ft_leastBarOfRow_39 : decode prog_5_method_4_code 39 = .ok (.aload_n 0, 1) := by decide +kernel
theorem d_Ft_leastBarOfRow_40 : decode prog_5_method_4_code 40 = .ok (.getfield 53, 3) := by decide +kernel
theorem d_Ft_leastBarOfRow_43 : decode prog_5_method_4_code 43 = .ok (.if_icmp .ge 28, 3) := by decide +kernel
theorem d_Ft_leastBarOfRow_46 : decode prog_5_method_4_code 46 = .ok (.aload_n 0, 1) := by decide +kernel
theorem d_Ft_leastBarOfRow_47 : decode prog_5_method_4_code 47 = .ok (.getfield 27, 3) := by decide +kernel
theorem d_Ft_leastBarOfRow_50 : decode prog_5_method_4_code 50 = .ok (.iload_n 2, 1) := by decide +kernel
theorem d_Ft_leastBarOfRow_51 : decode prog_5_method_4_code 51 = .ok (.iaload, 1) := by decide +kernel
theorem d_Ft_leastBarOfRow_52 : decode prog_5_method_4_code 52 = .ok (.aload_n 0, 1) := by decide +kernel
theorem d_Ft_leastBarOfRow_53 : decode prog_5_method_4_code 53 = .ok (.getfield 21, 3) := by decide +kernel
theorem d_Ft_leastBarOfRow_56 : decode prog_5_method_4_code 56 = .ok (.invokestatic 97, 3) := by decide +kernel
theorem d_Ft_leastBarOfRow_59 : decode prog_5_method_4_code 59 = .ok (.iload_n 1, 1) := by decide +kernel
theorem d_Ft_leastBarOfRow_60 : decode prog_5_method_4_code 60 = .ok (.if_icmp .gt 5, 3) := by decide +kernel
theorem d_Ft_leastBarOfRow_63 : decode prog_5_method_4_code 63 = .ok (.iconst (-1), 1) := by decide +kernel
theorem d_Ft_leastBarOfRow_64 : decode prog_5_method_4_code 64 = .ok (.ireturn, 1) := by decide +kernel
theorem d_Ft_leastBarOfRow_65 : decode prog_5_method_4_code 65 = .ok (.iinc 2 1, 3) := by decide +kernel
theorem d_Ft_leastBarOfRow_68 : decode prog_5_method_4_code 68 = .ok (.goto (-30), 3) := by decide +kernel
theorem d_Ft_leastBarOfRow_71 : decode prog_5_method_4_code 71 = .ok (.iload_n 1, 1) := by decide +kernel
theorem d_Ft_leastBarOfRow_72 : decode prog_5_method_4_code 72 = .ok (.iconst 1, 1) := by decide +kernel
theorem d_Ft_leastBarOfRow_73 : decode prog_5_method_4_code 73 = .ok (.iadd, 1) := by decide +kernel
theorem d_Ft_leastBarOfRow_74 : decode prog_5_method_4_code 74 = .ok (.ireturn, 1) := by decide +kernel
abbrev S_Ft_leastBarOfRow : Type := Nat × Nat × Int32 × Int32 × AM
noncomputable def T_Ft_leastBarOfRow_0 (v0R : Nat) (σ : AM) : S_Ft_leastBarOfRow ⊕ Option (Int32 × AM) :=
  .inl (1, v0R, (0 : Int32), (0 : Int32), σ)
noncomputable def T_Ft_leastBarOfRow_1 (v0R : Nat) (v1I : Int32) (v2I : Int32) (σ : AM) : S_Ft_leastBarOfRow ⊕ Option (Int32 × AM) :=
  gdT (okO σ v0R 8) <| if v2I < (aI σ v0R 6) then (gdT (okO σ (aR σ v0R 4) 101) <| gdT (inB v2I (aN σ (aR σ v0R 4))) <| gdT (okO σ (aR σ v0R 2) 101) <| bndT (M_Tw_sumOf (aI σ (aR σ v0R 4) v2I.toNatClampNeg) (aR σ v0R 2) σ) fun r5 σ6 => letT (mxI v1I r5) fun x7 => .inl (1, v0R, x7, v2I + (1 : Int32), σ6)) else (.inl (2, v0R, v1I, (0 : Int32), σ))
noncomputable def T_Ft_leastBarOfRow_2 (v0R : Nat) (v1I : Int32) (v2I : Int32) (σ : AM) : S_Ft_leastBarOfRow ⊕ Option (Int32 × AM) :=
  gdT (okO σ v0R 8) <| if v2I < (aI σ v0R 5) then (gdT (okO σ (aR σ v0R 3) 101) <| gdT (inB v2I (aN σ (aR σ v0R 3))) <| gdT (okO σ (aR σ v0R 2) 101) <| bndT (M_Tw_sumOf (aI σ (aR σ v0R 3) v2I.toNatClampNeg) (aR σ v0R 2) σ) fun r5 σ6 => if v1I < r5 then (.inl (2, v0R, v1I, v2I + (1 : Int32), σ6)) else (.inr (some (((-1) : Int32), σ6)))) else (.inr (some ((v1I + (1 : Int32)), σ)))
noncomputable def F_Ft_leastBarOfRow : S_Ft_leastBarOfRow → S_Ft_leastBarOfRow ⊕ Option (Int32 × AM) := fun s => match s.1 with
  | 0 => T_Ft_leastBarOfRow_0 (s.2.1) (s.2.2.2.2)
  | 1 => T_Ft_leastBarOfRow_1 (s.2.1) (s.2.2.1) (s.2.2.2.1) (s.2.2.2.2)
  | _ => T_Ft_leastBarOfRow_2 (s.2.1) (s.2.2.1) (s.2.2.2.1) (s.2.2.2.2)
noncomputable def L_Ft_leastBarOfRow_0 (v0R : Nat) (σ : AM) : Option (Int32 × AM) := lp F_Ft_leastBarOfRow (0, v0R, 0, 0, σ)
noncomputable def L_Ft_leastBarOfRow_1 (v0R : Nat) (v1I : Int32) (v2I : Int32) (σ : AM) : Option (Int32 × AM) := lp F_Ft_leastBarOfRow (1, v0R, v1I, v2I, σ)
noncomputable def L_Ft_leastBarOfRow_2 (v0R : Nat) (v1I : Int32) (v2I : Int32) (σ : AM) : Option (Int32 × AM) := lp F_Ft_leastBarOfRow (2, v0R, v1I, v2I, σ)
set_option maxRecDepth 20000 in
theorem E_Ft_leastBarOfRow_0 (v0R : Nat) (σ : AM) : L_Ft_leastBarOfRow_0 v0R σ = (L_Ft_leastBarOfRow_1 v0R ((0 : Int32)) ((0 : Int32)) σ) := by
  unfold L_Ft_leastBarOfRow_0
  rw [lp_eq]
  show lpK (lp F_Ft_leastBarOfRow) (T_Ft_leastBarOfRow_0 v0R σ) = _
  unfold T_Ft_leastBarOfRow_0
  simp only [lpK_ite, lq_inl, lq_inr, lpK_bnd, lpK_gd, lq_let]
  try rfl
set_option maxRecDepth 20000 in
theorem E_Ft_leastBarOfRow_1 (v0R : Nat) (v1I : Int32) (v2I : Int32) (σ : AM) : L_Ft_leastBarOfRow_1 v0R v1I v2I σ = (gd (okO σ v0R 8) <| if v2I < (aI σ v0R 6) then (gd (okO σ (aR σ v0R 4) 101) <| gd (inB v2I (aN σ (aR σ v0R 4))) <| gd (okO σ (aR σ v0R 2) 101) <| bnd (M_Tw_sumOf (aI σ (aR σ v0R 4) v2I.toNatClampNeg) (aR σ v0R 2) σ) fun r5 σ6 => letT (mxI v1I r5) fun x7 => L_Ft_leastBarOfRow_1 v0R x7 (v2I + (1 : Int32)) σ6) else (L_Ft_leastBarOfRow_2 v0R v1I ((0 : Int32)) σ)) := by
  unfold L_Ft_leastBarOfRow_1
  rw [lp_eq]
  show lpK (lp F_Ft_leastBarOfRow) (T_Ft_leastBarOfRow_1 v0R v1I v2I σ) = _
  unfold T_Ft_leastBarOfRow_1
  simp only [lpK_ite, lq_inl, lq_inr, lpK_bnd, lpK_gd, lq_let]
  try rfl
set_option maxRecDepth 20000 in
theorem E_Ft_leastBarOfRow_2 (v0R : Nat) (v1I : Int32) (v2I : Int32) (σ : AM) : L_Ft_leastBarOfRow_2 v0R v1I v2I σ = (gd (okO σ v0R 8) <| if v2I < (aI σ v0R 5) then (gd (okO σ (aR σ v0R 3) 101) <| gd (inB v2I (aN σ (aR σ v0R 3))) <| gd (okO σ (aR σ v0R 2) 101) <| bnd (M_Tw_sumOf (aI σ (aR σ v0R 3) v2I.toNatClampNeg) (aR σ v0R 2) σ) fun r5 σ6 => if v1I < r5 then (L_Ft_leastBarOfRow_2 v0R v1I (v2I + (1 : Int32)) σ6) else ((some (((-1) : Int32), σ6)))) else ((some ((v1I + (1 : Int32)), σ)))) := by
  unfold L_Ft_leastBarOfRow_2
  rw [lp_eq]
  show lpK (lp F_Ft_leastBarOfRow) (T_Ft_leastBarOfRow_2 v0R v1I v2I σ) = _
  unfold T_Ft_leastBarOfRow_2
  simp only [lpK_ite, lq_inl, lq_inr, lpK_bnd, lpK_gd, lq_let]
  try rfl
noncomputable def M_Ft_leastBarOfRow (v0R : Nat) (σ : AM) : Option (Int32 × AM) := mw σ (L_Ft_leastBarOfRow_0 v0R σ)
def I_Ft_leastBarOfRow (G : GX) (p : Program) (l : Launch) (e : Env) (s : State) (m : MethodId) (args : Array Value) (below : List Frame) (meth : Method) (c : Code) (z0 u0 n : Nat) : Prop :=
  (∀ (v0R : Nat) (σ : AM), VX (QM eI G args s below z0 u0) G p l e s m args below meth c 1 z0 u0 3 (lpn F_Ft_leastBarOfRow n (0, v0R, 0, 0, σ)) 0 [(0, .ref v0R)] [] σ) ∧
  (∀ (v0R : Nat) (v1I : Int32) (v2I : Int32) (σ : AM), VX (QM eI G args s below z0 u0) G p l e s m args below meth c 1 z0 u0 3 (lpn F_Ft_leastBarOfRow n (1, v0R, v1I, v2I, σ)) 4 [(0, .ref v0R), (1, .int v1I), (2, .int v2I)] [] σ) ∧
  (∀ (v0R : Nat) (v1I : Int32) (v2I : Int32) (σ : AM), VX (QM eI G args s below z0 u0) G p l e s m args below meth c 1 z0 u0 3 (lpn F_Ft_leastBarOfRow n (2, v0R, v1I, v2I, σ)) 38 [(0, .ref v0R), (1, .int v1I), (2, .int v2I)] [] σ)
set_option maxRecDepth 20000 in
theorem s_Ft_leastBarOfRow_0 {G : GX} {p : Program} {l : Launch} {e : Env} {s : State} {m : MethodId} {args : Array Value} {below : List Frame} {meth : Method} {c : Code} {z0 u0 n : Nat} (C : Cx G p s m args meth c prog_5_method_4_code 3 "BellPlate$Fit" ((some FieldType.int))) (IH : I_Ft_leastBarOfRow G p l e s m args below meth c z0 u0 n) (v0R : Nat) (σ : AM) : VX (QM eI G args s below z0 u0) G p l e s m args below meth c 1 z0 u0 3 (lpK (lpn F_Ft_leastBarOfRow n) (T_Ft_leastBarOfRow_0 v0R σ)) 0 [(0, .ref v0R)] [] σ := by
  unfold T_Ft_leastBarOfRow_0
  refine x_iconst (v := (0 : Int32)) C d_Ft_leastBarOfRow_0 (by decide) ?_
  refine x_istore_n (lv' := [(1, .int (0 : Int32)), (0, .ref v0R)]) C d_Ft_leastBarOfRow_1 (by decide) rfl rfl ?_
  refine x_iconst (v := (0 : Int32)) C d_Ft_leastBarOfRow_2 (by decide) ?_
  refine x_istore_n (lv' := [(2, .int (0 : Int32)), (1, .int (0 : Int32)), (0, .ref v0R)]) C d_Ft_leastBarOfRow_3 (by decide) rfl rfl ?_
  refine x_lv [2, 1, 0] rfl ?_
  exact IH.2.1 v0R ((0 : Int32)) ((0 : Int32)) (σ)
set_option maxRecDepth 20000 in
theorem s_Ft_leastBarOfRow_1 {G : GX} {p : Program} {l : Launch} {e : Env} {s : State} {m : MethodId} {args : Array Value} {below : List Frame} {meth : Method} {c : Code} {z0 u0 n : Nat} (C : Cx G p s m args meth c prog_5_method_4_code 3 "BellPlate$Fit" ((some FieldType.int))) (IH : I_Ft_leastBarOfRow G p l e s m args below meth c z0 u0 n) (v0R : Nat) (v1I : Int32) (v2I : Int32) (σ : AM) : VX (QM eI G args s below z0 u0) G p l e s m args below meth c 1 z0 u0 3 (lpK (lpn F_Ft_leastBarOfRow n) (T_Ft_leastBarOfRow_1 v0R v1I v2I σ)) 4 [(0, .ref v0R), (1, .int v1I), (2, .int v2I)] [] σ := by
  unfold T_Ft_leastBarOfRow_1
  refine x_iload_n C d_Ft_leastBarOfRow_4 2 rfl ?_
  refine x_aload_n C d_Ft_leastBarOfRow_5 0 rfl ?_
  refine x_gd (fun h1 => ?_)
  refine x_getI (k := 6) C (okO_iff.mp h1) rfl j7_ok (by decide) rfl w487 d_Ft_leastBarOfRow_6 ?_
  refine x_icmp_ge (tgt := 36) C d_Ft_leastBarOfRow_9 (by decide) (fun _ => ?_) (fun _ => ?_)
  · refine x_iload_n C d_Ft_leastBarOfRow_12 1 rfl ?_
    refine x_aload_n C d_Ft_leastBarOfRow_13 0 rfl ?_
    refine x_gd (fun h2 => ?_)
    refine x_getR (k := 4) (kv := 101) C (okO_iff.mp h1) rfl j7_ok (by decide) rfl (okO_iff.mp h2) (by decide) w485 d_Ft_leastBarOfRow_14 ?_
    refine x_iload_n C d_Ft_leastBarOfRow_17 2 rfl ?_
    refine x_gd (fun h3 => ?_)
    refine x_aldI C (okO_iff.mp h2) (inB_iff.mp h3) d_Ft_leastBarOfRow_18 ?_
    refine x_aload_n C d_Ft_leastBarOfRow_19 0 rfl ?_
    refine x_gd (fun h4 => ?_)
    refine x_getR (k := 2) (kv := 101) C (okO_iff.mp h1) rfl j7_ok (by decide) rfl (okO_iff.mp h4) (by decide) w483 d_Ft_leastBarOfRow_20 ?_
    refine x_callSI (As := [.int (aI σ (aR σ v0R 4) v2I.toNatClampNeg), .ref (aR σ v0R 2)]) C (c_Tw_sumOf G l (aI σ (aR σ v0R 4) v2I.toNatClampNeg) (aR σ v0R 2) σ) w671 w1346 w672 w122 k_Tw_sumOf rfl (by decide) (by decide) rfl (Nat.le_of_ble_eq_true rfl) d_Ft_leastBarOfRow_23 (fun r5 σ6 => ?_)
    refine x_mmax C w1347 (by decide) (Nat.le_of_ble_eq_true rfl) d_Ft_leastBarOfRow_26 ?_
    refine x_letI (fun x7 _ => ?_)
    refine x_istore_n (lv' := [(1, .int x7), (0, .ref v0R), (2, .int v2I)]) C d_Ft_leastBarOfRow_29 (by decide) rfl rfl ?_
    refine x_iinc (v := v2I + (1 : Int32)) (lv' := [(2, .int (v2I + (1 : Int32))), (1, .int x7), (0, .ref v0R)]) C d_Ft_leastBarOfRow_30 2 rfl rfl (by decide) rfl ?_
    refine x_goto (tgt := 4) C d_Ft_leastBarOfRow_33 (by decide) ?_
    refine x_lv [2, 1, 0] rfl ?_
    exact IH.2.1 v0R x7 (v2I + (1 : Int32)) (σ6)
  · refine x_iconst (v := (0 : Int32)) C d_Ft_leastBarOfRow_36 (by decide) ?_
    refine x_istore_n (lv' := [(2, .int (0 : Int32)), (0, .ref v0R), (1, .int v1I)]) C d_Ft_leastBarOfRow_37 (by decide) rfl rfl ?_
    refine x_lv [1, 2, 0] rfl ?_
    exact IH.2.2 v0R v1I ((0 : Int32)) (σ)
set_option maxRecDepth 20000 in
theorem s_Ft_leastBarOfRow_2 {G : GX} {p : Program} {l : Launch} {e : Env} {s : State} {m : MethodId} {args : Array Value} {below : List Frame} {meth : Method} {c : Code} {z0 u0 n : Nat} (C : Cx G p s m args meth c prog_5_method_4_code 3 "BellPlate$Fit" ((some FieldType.int))) (IH : I_Ft_leastBarOfRow G p l e s m args below meth c z0 u0 n) (v0R : Nat) (v1I : Int32) (v2I : Int32) (σ : AM) : VX (QM eI G args s below z0 u0) G p l e s m args below meth c 1 z0 u0 3 (lpK (lpn F_Ft_leastBarOfRow n) (T_Ft_leastBarOfRow_2 v0R v1I v2I σ)) 38 [(0, .ref v0R), (1, .int v1I), (2, .int v2I)] [] σ := by
  unfold T_Ft_leastBarOfRow_2
  refine x_iload_n C d_Ft_leastBarOfRow_38 2 rfl ?_
  refine x_aload_n C d_Ft_leastBarOfRow_39 0 rfl ?_
  refine x_gd (fun h1 => ?_)
  refine x_getI (k := 5) C (okO_iff.mp h1) rfl j7_ok (by decide) rfl w486 d_Ft_leastBarOfRow_40 ?_
  refine x_icmp_ge (tgt := 71) C d_Ft_leastBarOfRow_43 (by decide) (fun _ => ?_) (fun _ => ?_)
  · refine x_aload_n C d_Ft_leastBarOfRow_46 0 rfl ?_
    refine x_gd (fun h2 => ?_)
    refine x_getR (k := 3) (kv := 101) C (okO_iff.mp h1) rfl j7_ok (by decide) rfl (okO_iff.mp h2) (by decide) w484 d_Ft_leastBarOfRow_47 ?_
    refine x_iload_n C d_Ft_leastBarOfRow_50 2 rfl ?_
    refine x_gd (fun h3 => ?_)
    refine x_aldI C (okO_iff.mp h2) (inB_iff.mp h3) d_Ft_leastBarOfRow_51 ?_
    refine x_aload_n C d_Ft_leastBarOfRow_52 0 rfl ?_
    refine x_gd (fun h4 => ?_)
    refine x_getR (k := 2) (kv := 101) C (okO_iff.mp h1) rfl j7_ok (by decide) rfl (okO_iff.mp h4) (by decide) w483 d_Ft_leastBarOfRow_53 ?_
    refine x_callSI (As := [.int (aI σ (aR σ v0R 3) v2I.toNatClampNeg), .ref (aR σ v0R 2)]) C (c_Tw_sumOf G l (aI σ (aR σ v0R 3) v2I.toNatClampNeg) (aR σ v0R 2) σ) w671 w1346 w672 w122 k_Tw_sumOf rfl (by decide) (by decide) rfl (Nat.le_of_ble_eq_true rfl) d_Ft_leastBarOfRow_56 (fun r5 σ6 => ?_)
    refine x_iload_n C d_Ft_leastBarOfRow_59 1 rfl ?_
    refine x_icmp_gt (tgt := 65) C d_Ft_leastBarOfRow_60 (by decide) (fun _ => ?_) (fun _ => ?_)
    · refine x_iinc (v := v2I + (1 : Int32)) (lv' := [(2, .int (v2I + (1 : Int32))), (0, .ref v0R), (1, .int v1I)]) C d_Ft_leastBarOfRow_65 2 rfl rfl (by decide) rfl ?_
      refine x_goto (tgt := 38) C d_Ft_leastBarOfRow_68 (by decide) ?_
      refine x_lv [1, 2, 0] rfl ?_
      exact IH.2.2 v0R v1I (v2I + (1 : Int32)) (σ6)
    · refine x_iconst (v := ((-1) : Int32)) C d_Ft_leastBarOfRow_63 (by decide) ?_
      exact x_iret C d_Ft_leastBarOfRow_64
  · refine x_iload_n C d_Ft_leastBarOfRow_71 1 rfl ?_
    refine x_iconst (v := (1 : Int32)) C d_Ft_leastBarOfRow_72 (by decide) ?_
    refine x_iadd C d_Ft_leastBarOfRow_73 ?_
    exact x_iret C d_Ft_leastBarOfRow_74
theorem i_Ft_leastBarOfRow {G : GX} {p : Program} {l : Launch} {e : Env} {s : State} {m : MethodId} {args : Array Value} {below : List Frame} {meth : Method} {c : Code} {z0 u0 : Nat} (C : Cx G p s m args meth c prog_5_method_4_code 3 "BellPlate$Fit" ((some FieldType.int))) (n : Nat) : I_Ft_leastBarOfRow G p l e s m args below meth c z0 u0 n := by
  induction n with
  | zero => exact ⟨fun _ _ => x_none, fun _ _ _ _ => x_none, fun _ _ _ _ => x_none⟩
  | succ n IH => exact ⟨fun v0R σ => s_Ft_leastBarOfRow_0 C IH v0R σ, fun v0R v1I v2I σ => s_Ft_leastBarOfRow_1 C IH v0R v1I v2I σ, fun v0R v1I v2I σ => s_Ft_leastBarOfRow_2 C IH v0R v1I v2I σ⟩
theorem c_Ft_leastBarOfRow (G : GX) (l : Launch) (v0R : Nat) (σ : AM) : CT eI G l 1 y_Ft_leastBarOfRow prog_5_method_4_code 3 ((some FieldType.int)) [.ref v0R] σ (M_Ft_leastBarOfRow v0R σ) := by
  refine ct_of (by decide +kernel) (Nat.le_of_ble_eq_true rfl) (fun p e s m args below meth c C hin => ?_)
  refine x_lve (lv' := [(0, .ref v0R)]) rfl ?_
  intro r σ' h
  obtain ⟨n, hn⟩ := (lp_iff _ _ _).mp h
  exact (i_Ft_leastBarOfRow C n).1 v0R σ r σ' hn
/-! BellPlate$Fit.tryRow(II)V -/
abbrev y_Ft_tryRow : MethodName := ⟨"BellPlate$Fit", "tryRow", "(II)V"⟩
theorem k_Ft_tryRow : y_Ft_tryRow.cls ≠ "java/lang/invoke/MethodHandle" ∧ y_Ft_tryRow.cls ≠ "java/lang/invoke/VarHandle" ∧ (parseMethodDescriptor y_Ft_tryRow.desc).map (fun d => d.parameters.length) = some 2 := by decide +kernel
theorem d_Ft_tryRow_0 : decode prog_5_method_3_code 0 = .ok (.aload_n 0, 1) := by decide +kernel
theorem d_Ft_tryRow_1 : decode prog_5_method_3_code 1 = .ok (.invokevirtual 88, 3) := by decide +kernel
theorem d_Ft_tryRow_4 : decode prog_5_method_3_code 4 = .ok (.istore_n 3, 1) := by decide +kernel
theorem d_Ft_tryRow_5 : decode prog_5_method_3_code 5 = .ok (.iload_n 3, 1) := by decide +kernel
theorem d_Ft_tryRow_6 : decode prog_5_method_3_code 6 = .ok (.iconst (-1), 1) := by decide +kernel
theorem d_Ft_tryRow_7 : decode prog_5_method_3_code 7 = .ok (.if_icmp .ne 4, 3) := by decide +kernel
theorem d_Ft_tryRow_10 : decode prog_5_method_3_code 10 = .ok (.return_, 1) := by decide +kernel
theorem d_Ft_tryRow_11 : decode prog_5_method_3_code 11 = .ok (.aload_n 0, 1) := by decide +kernel
theorem d_Ft_tryRow_12 : decode prog_5_method_3_code 12 = .ok (.getfield 63, 3) := by decide +kernel
theorem d_Ft_tryRow_15 : decode prog_5_method_3_code 15 = .ok (.ifCond .eq 19, 3) := by decide +kernel
theorem d_Ft_tryRow_18 : decode prog_5_method_3_code 18 = .ok (.iload_n 2, 1) := by decide +kernel
theorem d_Ft_tryRow_19 : decode prog_5_method_3_code 19 = .ok (.aload_n 0, 1) := by decide +kernel
theorem d_Ft_tryRow_20 : decode prog_5_method_3_code 20 = .ok (.getfield 77, 3) := by decide +kernel
theorem d_Ft_tryRow_23 : decode prog_5_method_3_code 23 = .ok (.if_icmp .lt 11, 3) := by decide +kernel
theorem d_Ft_tryRow_26 : decode prog_5_method_3_code 26 = .ok (.iload_n 3, 1) := by decide +kernel
theorem d_Ft_tryRow_27 : decode prog_5_method_3_code 27 = .ok (.aload_n 0, 1) := by decide +kernel
theorem d_Ft_tryRow_28 : decode prog_5_method_3_code 28 = .ok (.getfield 91, 3) := by decide +kernel
theorem d_Ft_tryRow_31 : decode prog_5_method_3_code 31 = .ok (.if_icmp .ge 23, 3) := by decide +kernel
theorem d_Ft_tryRow_34 : decode prog_5_method_3_code 34 = .ok (.aload_n 0, 1) := by decide +kernel
theorem d_Ft_tryRow_35 : decode prog_5_method_3_code 35 = .ok (.iconst 1, 1) := by decide +kernel
theorem d_Ft_tryRow_36 : decode prog_5_method_3_code 36 = .ok (.putfield 63, 3) := by decide +kernel
theorem d_Ft_tryRow_39 : decode prog_5_method_3_code 39 = .ok (.aload_n 0, 1) := by decide +kernel
theorem d_Ft_tryRow_40 : decode prog_5_method_3_code 40 = .ok (.iload_n 2, 1) := by decide +kernel
theorem d_Ft_tryRow_41 : decode prog_5_method_3_code 41 = .ok (.putfield 77, 3) := by decide +kernel
theorem d_Ft_tryRow_44 : decode prog_5_method_3_code 44 = .ok (.aload_n 0, 1) := by decide +kernel
theorem d_Ft_tryRow_45 : decode prog_5_method_3_code 45 = .ok (.iload_n 3, 1) := by decide +kernel
theorem d_Ft_tryRow_46 : decode prog_5_method_3_code 46 = .ok (.putfield 91, 3) := by decide +kernel
theorem d_Ft_tryRow_49 : decode prog_5_method_3_code 49 = .ok (.aload_n 0, 1) := by decide +kernel
theorem d_Ft_tryRow_50 : decode prog_5_method_3_code 50 = .ok (.iload_n 1, 1) := by decide +kernel
theorem d_Ft_tryRow_51 : decode prog_5_method_3_code 51 = .ok (.putfield 94, 3) := by decide +kernel
theorem d_Ft_tryRow_54 : decode prog_5_method_3_code 54 = .ok (.return_, 1) := by decide +kernel
abbrev S_Ft_tryRow : Type := Nat × Nat × Int32 × Int32 × Int32 × AM
noncomputable def T_Ft_tryRow_0 (v0R : Nat) (v1I : Int32) (v2I : Int32) (σ : AM) : S_Ft_tryRow ⊕ Option (Unit × AM) :=
  gdT (okO σ v0R 8) <| bndT (M_Ft_leastBarOfRow v0R σ) fun r1 σ2 => if r1 = ((-1) : Int32) then (.inr (some ((), σ2))) else (gdT (okO σ2 v0R 8) <| if (aI σ2 v0R 7) = 0 then (.inl (1, v0R, v1I, v2I, r1, σ2)) else (if v2I < (aI σ2 v0R 8) then (.inl (1, v0R, v1I, v2I, r1, σ2)) else (if r1 < (aI σ2 v0R 9) then (.inl (1, v0R, v1I, v2I, r1, σ2)) else (.inl (2, 0, 0, 0, 0, σ2)))))
noncomputable def T_Ft_tryRow_1 (v0R : Nat) (v1I : Int32) (v2I : Int32) (v3I : Int32) (σ : AM) : S_Ft_tryRow ⊕ Option (Unit × AM) :=
  gdT (okO σ v0R 8) <| letT (sI σ v0R 7 (1 : Int32)) fun σ2 => letT (sI σ2 v0R 8 v2I) fun σ4 => letT (sI σ4 v0R 9 v3I) fun σ6 => letT (sI σ6 v0R 10 v1I) fun σ8 => .inl (2, 0, 0, 0, 0, σ8)
noncomputable def T_Ft_tryRow_2  (σ : AM) : S_Ft_tryRow ⊕ Option (Unit × AM) :=
  .inr (some ((), σ))
noncomputable def F_Ft_tryRow : S_Ft_tryRow → S_Ft_tryRow ⊕ Option (Unit × AM) := fun s => match s.1 with
  | 0 => T_Ft_tryRow_0 (s.2.1) (s.2.2.1) (s.2.2.2.1) (s.2.2.2.2.2)
  | 1 => T_Ft_tryRow_1 (s.2.1) (s.2.2.1) (s.2.2.2.1) (s.2.2.2.2.1) (s.2.2.2.2.2)
  | _ => T_Ft_tryRow_2  (s.2.2.2.2.2)
noncomputable def L_Ft_tryRow_0 (v0R : Nat) (v1I : Int32) (v2I : Int32) (σ : AM) : Option (Unit × AM) := lp F_Ft_tryRow (0, v0R, v1I, v2I, 0, σ)
noncomputable def L_Ft_tryRow_1 (v0R : Nat) (v1I : Int32) (v2I : Int32) (v3I : Int32) (σ : AM) : Option (Unit × AM) := lp F_Ft_tryRow (1, v0R, v1I, v2I, v3I, σ)
noncomputable def L_Ft_tryRow_2  (σ : AM) : Option (Unit × AM) := lp F_Ft_tryRow (2, 0, 0, 0, 0, σ)
set_option maxRecDepth 20000 in
theorem E_Ft_tryRow_0 (v0R : Nat) (v1I : Int32) (v2I : Int32) (σ : AM) : L_Ft_tryRow_0 v0R v1I v2I σ = (gd (okO σ v0R 8) <| bnd (M_Ft_leastBarOfRow v0R σ) fun r1 σ2 => if r1 = ((-1) : Int32) then ((some ((), σ2))) else (gd (okO σ2 v0R 8) <| if (aI σ2 v0R 7) = 0 then (L_Ft_tryRow_1 v0R v1I v2I r1 σ2) else (if v2I < (aI σ2 v0R 8) then (L_Ft_tryRow_1 v0R v1I v2I r1 σ2) else (if r1 < (aI σ2 v0R 9) then (L_Ft_tryRow_1 v0R v1I v2I r1 σ2) else (L_Ft_tryRow_2 σ2))))) := by
  unfold L_Ft_tryRow_0
  rw [lp_eq]
  show lpK (lp F_Ft_tryRow) (T_Ft_tryRow_0 v0R v1I v2I σ) = _
  unfold T_Ft_tryRow_0
  simp only [lpK_ite, lq_inl, lq_inr, lpK_bnd, lpK_gd, lq_let]
  try rfl
set_option maxRecDepth 20000 in
theorem E_Ft_tryRow_1 (v0R : Nat) (v1I : Int32) (v2I : Int32) (v3I : Int32) (σ : AM) : L_Ft_tryRow_1 v0R v1I v2I v3I σ = (gd (okO σ v0R 8) <| letT (sI σ v0R 7 (1 : Int32)) fun σ2 => letT (sI σ2 v0R 8 v2I) fun σ4 => letT (sI σ4 v0R 9 v3I) fun σ6 => letT (sI σ6 v0R 10 v1I) fun σ8 => L_Ft_tryRow_2 σ8) := by
  unfold L_Ft_tryRow_1
  rw [lp_eq]
  show lpK (lp F_Ft_tryRow) (T_Ft_tryRow_1 v0R v1I v2I v3I σ) = _
  unfold T_Ft_tryRow_1
  simp only [lpK_ite, lq_inl, lq_inr, lpK_bnd, lpK_gd, lq_let]
  try rfl
set_option maxRecDepth 20000 in
theorem E_Ft_tryRow_2  (σ : AM) : L_Ft_tryRow_2  σ = ((some ((), σ))) := by
  unfold L_Ft_tryRow_2
  rw [lp_eq]
  show lpK (lp F_Ft_tryRow) (T_Ft_tryRow_2  σ) = _
  unfold T_Ft_tryRow_2
  simp only [lpK_ite, lq_inl, lq_inr, lpK_bnd, lpK_gd, lq_let]
  try rfl
noncomputable def M_Ft_tryRow (v0R : Nat) (v1I : Int32) (v2I : Int32) (σ : AM) : Option (Unit × AM) := mw σ (L_Ft_tryRow_0 v0R v1I v2I σ)
def I_Ft_tryRow (G : GX) (p : Program) (l : Launch) (e : Env) (s : State) (m : MethodId) (args : Array Value) (below : List Frame) (meth : Method) (c : Code) (z0 u0 n : Nat) : Prop :=
  (∀ (v0R : Nat) (v1I : Int32) (v2I : Int32) (σ : AM), VX (QM eV G args s below z0 u0) G p l e s m args below meth c 2 z0 u0 4 (lpn F_Ft_tryRow n (0, v0R, v1I, v2I, 0, σ)) 0 [(0, .ref v0R), (1, .int v1I), (2, .int v2I)] [] σ) ∧
  (∀ (v0R : Nat) (v1I : Int32) (v2I : Int32) (v3I : Int32) (σ : AM), VX (QM eV G args s below z0 u0) G p l e s m args below meth c 2 z0 u0 4 (lpn F_Ft_tryRow n (1, v0R, v1I, v2I, v3I, σ)) 34 [(0, .ref v0R), (1, .int v1I), (2, .int v2I), (3, .int v3I)] [] σ) ∧
  (∀ (σ : AM), VX (QM eV G args s below z0 u0) G p l e s m args below meth c 2 z0 u0 4 (lpn F_Ft_tryRow n (2, 0, 0, 0, 0, σ)) 54 [] [] σ)
set_option maxRecDepth 20000 in
theorem s_Ft_tryRow_0 {G : GX} {p : Program} {l : Launch} {e : Env} {s : State} {m : MethodId} {args : Array Value} {below : List Frame} {meth : Method} {c : Code} {z0 u0 n : Nat} (C : Cx G p s m args meth c prog_5_method_3_code 4 "BellPlate$Fit" ((none))) (IH : I_Ft_tryRow G p l e s m args below meth c z0 u0 n) (v0R : Nat) (v1I : Int32) (v2I : Int32) (σ : AM) : VX (QM eV G args s below z0 u0) G p l e s m args below meth c 2 z0 u0 4 (lpK (lpn F_Ft_tryRow n) (T_Ft_tryRow_0 v0R v1I v2I σ)) 0 [(0, .ref v0R), (1, .int v1I), (2, .int v2I)] [] σ := by
  unfold T_Ft_tryRow_0
  refine x_aload_n C d_Ft_tryRow_0 0 rfl ?_
  refine x_gd (fun h3 => ?_)
  refine x_callVI (As := []) C (c_Ft_leastBarOfRow G l v0R  σ) (okO_iff.mp h3) rfl w1344 w40 w1342 w1345 w129 k_Ft_leastBarOfRow rfl (by decide) (by decide) rfl (Nat.le_of_ble_eq_true rfl) d_Ft_tryRow_1 (fun r1 σ2 => ?_)
  refine x_istore_n (lv' := [(3, .int r1), (0, .ref v0R), (1, .int v1I), (2, .int v2I)]) C d_Ft_tryRow_4 (by decide) rfl rfl ?_
  refine x_iload_n C d_Ft_tryRow_5 0 rfl ?_
  refine x_iconst (v := ((-1) : Int32)) C d_Ft_tryRow_6 (by decide) ?_
  refine x_icmp_ne (tgt := 11) C d_Ft_tryRow_7 (by decide) (fun _ => ?_) (fun _ => ?_)
  · exact x_vret C d_Ft_tryRow_10
  · refine x_aload_n C d_Ft_tryRow_11 1 rfl ?_
    refine x_gd (fun h4 => ?_)
    refine x_getI (k := 7) C (okO_iff.mp h4) rfl j7_ok (by decide) rfl w488 d_Ft_tryRow_12 ?_
    refine x_if_eq (tgt := 34) C d_Ft_tryRow_15 (by decide) (fun _ => ?_) (fun _ => ?_)
    · refine x_lv [1, 2, 3, 0] rfl ?_
      exact IH.2.1 v0R v1I v2I r1 (σ2)
    · refine x_iload_n C d_Ft_tryRow_18 3 rfl ?_
      refine x_aload_n C d_Ft_tryRow_19 1 rfl ?_
      refine x_getI (k := 8) C (okO_iff.mp h4) rfl j7_ok (by decide) rfl w489 d_Ft_tryRow_20 ?_
      refine x_icmp_lt (tgt := 34) C d_Ft_tryRow_23 (by decide) (fun _ => ?_) (fun _ => ?_)
      · refine x_lv [1, 2, 3, 0] rfl ?_
        exact IH.2.1 v0R v1I v2I r1 (σ2)
      · refine x_iload_n C d_Ft_tryRow_26 0 rfl ?_
        refine x_aload_n C d_Ft_tryRow_27 1 rfl ?_
        refine x_getI (k := 9) C (okO_iff.mp h4) rfl j7_ok (by decide) rfl w490 d_Ft_tryRow_28 ?_
        refine x_icmp_ge (tgt := 54) C d_Ft_tryRow_31 (by decide) (fun _ => ?_) (fun _ => ?_)
        · refine x_lv [1, 2, 3, 0] rfl ?_
          exact IH.2.1 v0R v1I v2I r1 (σ2)
        · refine x_lv [] rfl ?_
          exact IH.2.2  (σ2)
set_option maxRecDepth 20000 in
theorem s_Ft_tryRow_1 {G : GX} {p : Program} {l : Launch} {e : Env} {s : State} {m : MethodId} {args : Array Value} {below : List Frame} {meth : Method} {c : Code} {z0 u0 n : Nat} (C : Cx G p s m args meth c prog_5_method_3_code 4 "BellPlate$Fit" ((none))) (IH : I_Ft_tryRow G p l e s m args below meth c z0 u0 n) (v0R : Nat) (v1I : Int32) (v2I : Int32) (v3I : Int32) (σ : AM) : VX (QM eV G args s below z0 u0) G p l e s m args below meth c 2 z0 u0 4 (lpK (lpn F_Ft_tryRow n) (T_Ft_tryRow_1 v0R v1I v2I v3I σ)) 34 [(0, .ref v0R), (1, .int v1I), (2, .int v2I), (3, .int v3I)] [] σ := by
  unfold T_Ft_tryRow_1
  refine x_aload_n C d_Ft_tryRow_34 0 rfl ?_
  refine x_iconst (v := (1 : Int32)) C d_Ft_tryRow_35 (by decide) ?_
  refine x_gd (fun h1 => ?_)
  refine x_putI (k := 7) C (okO_iff.mp h1) rfl j7_ok y7_ok n7_ok (by decide) rfl rfl (by decide) (by decide) w488 d_Ft_tryRow_36 ?_
  refine x_letS (fun σ2 e3 => ?_)
  refine x_aload_n C d_Ft_tryRow_39 0 rfl ?_
  refine x_iload_n C d_Ft_tryRow_40 2 rfl ?_
  refine x_putI (k := 8) C (by first | exact (okO_iff.mp h1) | (rw [e3]; exact (okO_iff.mp h1))) rfl j7_ok y7_ok n7_ok (by decide) rfl rfl rfl rfl w489 d_Ft_tryRow_41 ?_
  refine x_letS (fun σ4 e5 => ?_)
  refine x_aload_n C d_Ft_tryRow_44 0 rfl ?_
  refine x_iload_n C d_Ft_tryRow_45 3 rfl ?_
  refine x_putI (k := 9) C (by first | exact (okO_iff.mp h1) | (rw [e5, e3]; exact (okO_iff.mp h1))) rfl j7_ok y7_ok n7_ok (by decide) rfl rfl rfl rfl w490 d_Ft_tryRow_46 ?_
  refine x_letS (fun σ6 e7 => ?_)
  refine x_aload_n C d_Ft_tryRow_49 0 rfl ?_
  refine x_iload_n C d_Ft_tryRow_50 1 rfl ?_
  refine x_putI (k := 10) C (by first | exact (okO_iff.mp h1) | (rw [e7, e5, e3]; exact (okO_iff.mp h1))) rfl j7_ok y7_ok n7_ok (by decide) rfl rfl rfl rfl w491 d_Ft_tryRow_51 ?_
  refine x_letS (fun σ8 e9 => ?_)
  refine x_lv [] rfl ?_
  exact IH.2.2  (σ8)
set_option maxRecDepth 20000 in
theorem s_Ft_tryRow_2 {G : GX} {p : Program} {l : Launch} {e : Env} {s : State} {m : MethodId} {args : Array Value} {below : List Frame} {meth : Method} {c : Code} {z0 u0 n : Nat} (C : Cx G p s m args meth c prog_5_method_3_code 4 "BellPlate$Fit" ((none))) (IH : I_Ft_tryRow G p l e s m args below meth c z0 u0 n)  (σ : AM) : VX (QM eV G args s below z0 u0) G p l e s m args below meth c 2 z0 u0 4 (lpK (lpn F_Ft_tryRow n) (T_Ft_tryRow_2  σ)) 54 [] [] σ := by
  unfold T_Ft_tryRow_2
  exact x_vret C d_Ft_tryRow_54
theorem i_Ft_tryRow {G : GX} {p : Program} {l : Launch} {e : Env} {s : State} {m : MethodId} {args : Array Value} {below : List Frame} {meth : Method} {c : Code} {z0 u0 : Nat} (C : Cx G p s m args meth c prog_5_method_3_code 4 "BellPlate$Fit" ((none))) (n : Nat) : I_Ft_tryRow G p l e s m args below meth c z0 u0 n := by
  induction n with
  | zero => exact ⟨fun _ _ _ _ => x_none, fun _ _ _ _ _ => x_none, fun _ => x_none⟩
  | succ n IH => exact ⟨fun v0R v1I v2I σ => s_Ft_tryRow_0 C IH v0R v1I v2I σ, fun v0R v1I v2I v3I σ => s_Ft_tryRow_1 C IH v0R v1I v2I v3I σ, fun σ => s_Ft_tryRow_2 C IH σ⟩
theorem c_Ft_tryRow (G : GX) (l : Launch) (v0R : Nat) (v1I : Int32) (v2I : Int32) (σ : AM) : CT eV G l 2 y_Ft_tryRow prog_5_method_3_code 4 (none) [.ref v0R, .int v1I, .int v2I] σ (M_Ft_tryRow v0R v1I v2I σ) := by
  refine ct_of (by decide +kernel) (Nat.le_of_ble_eq_true rfl) (fun p e s m args below meth c C hin => ?_)
  refine x_lve (lv' := [(0, .ref v0R), (1, .int v1I), (2, .int v2I)]) rfl ?_
  intro r σ' h
  obtain ⟨n, hn⟩ := (lp_iff _ _ _).mp h
  exact (i_Ft_tryRow C n).1 v0R v1I v2I σ r σ' hn
/-! BellPlate$Fit.seek(JJ)V -/
abbrev y_Ft_seek : MethodName := ⟨"BellPlate$Fit", "seek", "(JJ)V"⟩
theorem k_Ft_seek : y_Ft_seek.cls ≠ "java/lang/invoke/MethodHandle" ∧ y_Ft_seek.cls ≠ "java/lang/invoke/VarHandle" ∧ (parseMethodDescriptor y_Ft_seek.desc).map (fun d => d.parameters.length) = some 2 := by decide +kernel
theorem d_Ft_seek_0 : decode prog_5_method_2_code 0 = .ok (.aload_n 0, 1) := by decide +kernel
theorem d_Ft_seek_1 : decode prog_5_method_2_code 1 = .ok (.lload_n 1, 1) := by decide +kernel
theorem d_Ft_seek_2 : decode prog_5_method_2_code 2 = .ok (.invokestatic 45, 3) := by decide +kernel
theorem d_Ft_seek_5 : decode prog_5_method_2_code 5 = .ok (.aload_n 0, 1) := by decide +kernel
theorem d_Ft_seek_6 : decode prog_5_method_2_code 6 = .ok (.getfield 27, 3) := by decide +kernel
theorem d_Ft_seek_9 : decode prog_5_method_2_code 9 = .ok (.invokestatic 49, 3) := by decide +kernel
theorem d_Ft_seek_12 : decode prog_5_method_2_code 12 = .ok (.putfield 53, 3) := by decide +kernel
theorem d_Ft_seek_15 : decode prog_5_method_2_code 15 = .ok (.aload_n 0, 1) := by decide +kernel
theorem d_Ft_seek_16 : decode prog_5_method_2_code 16 = .ok (.lload_n 3, 1) := by decide +kernel
theorem d_Ft_seek_17 : decode prog_5_method_2_code 17 = .ok (.invokestatic 57, 3) := by decide +kernel
theorem d_Ft_seek_20 : decode prog_5_method_2_code 20 = .ok (.aload_n 0, 1) := by decide +kernel
theorem d_Ft_seek_21 : decode prog_5_method_2_code 21 = .ok (.getfield 30, 3) := by decide +kernel
theorem d_Ft_seek_24 : decode prog_5_method_2_code 24 = .ok (.invokestatic 49, 3) := by decide +kernel
theorem d_Ft_seek_27 : decode prog_5_method_2_code 27 = .ok (.putfield 60, 3) := by decide +kernel
theorem d_Ft_seek_30 : decode prog_5_method_2_code 30 = .ok (.aload_n 0, 1) := by decide +kernel
theorem d_Ft_seek_31 : decode prog_5_method_2_code 31 = .ok (.iconst 0, 1) := by decide +kernel
theorem d_Ft_seek_32 : decode prog_5_method_2_code 32 = .ok (.putfield 63, 3) := by decide +kernel
theorem d_Ft_seek_35 : decode prog_5_method_2_code 35 = .ok (.aload_n 0, 1) := by decide +kernel
theorem d_Ft_seek_36 : decode prog_5_method_2_code 36 = .ok (.getfield 21, 3) := by decide +kernel
theorem d_Ft_seek_39 : decode prog_5_method_2_code 39 = .ok (.iconst 0, 1) := by decide +kernel
theorem d_Ft_seek_40 : decode prog_5_method_2_code 40 = .ok (.invokestatic 67, 3) := by decide +kernel
theorem d_Ft_seek_43 : decode prog_5_method_2_code 43 = .ok (.iconst 0, 1) := by decide +kernel
theorem d_Ft_seek_44 : decode prog_5_method_2_code 44 = .ok (.istore 5, 2) := by decide +kernel
theorem d_Ft_seek_46 : decode prog_5_method_2_code 46 = .ok (.aload_n 0, 1) := by decide +kernel
theorem d_Ft_seek_47 : decode prog_5_method_2_code 47 = .ok (.getfield 9, 3) := by decide +kernel
theorem d_Ft_seek_50 : decode prog_5_method_2_code 50 = .ok (.invokevirtual 73, 3) := by decide +kernel
theorem d_Ft_seek_53 : decode prog_5_method_2_code 53 = .ok (.istore 6, 2) := by decide +kernel
theorem d_Ft_seek_55 : decode prog_5_method_2_code 55 = .ok (.iconst 0, 1) := by decide +kernel
theorem d_Ft_seek_56 : decode prog_5_method_2_code 56 = .ok (.istore 7, 2) := by decide +kernel
theorem d_Ft_seek_58 : decode prog_5_method_2_code 58 = .ok (.iload 7, 2) := by decide +kernel
theorem d_Ft_seek_60 : decode prog_5_method_2_code 60 = .ok (.iload 6, 2) := by decide +kernel
theorem d_Ft_seek_62 : decode prog_5_method_2_code 62 = .ok (.if_icmp .ge 49, 3) := by decide +kernel
theorem d_Ft_seek_65 : decode prog_5_method_2_code 65 = .ok (.aload_n 0, 1) := by decide +kernel
theorem d_Ft_seek_66 : decode prog_5_method_2_code 66 = .ok (.getfield 63, 3) := by decide +kernel
theorem d_Ft_seek_69 : decode prog_5_method_2_code 69 = .ok (.ifCond .eq 12, 3) := by decide +kernel
theorem d_Ft_seek_72 : decode prog_5_method_2_code 72 = .ok (.iload 5, 2) := by decide +kernel
theorem d_Ft_seek_74 : decode prog_5_method_2_code 74 = .ok (.aload_n 0, 1) := by decide +kernel
theorem d_Ft_seek_75 : decode prog_5_method_2_code 75 = .ok (.getfield 77, 3) := by decide +kernel
theorem d_Ft_seek_78 : decode prog_5_method_2_code 78 = .ok (.if_icmp .gt 11, 3) := by decide +kernel
theorem d_Ft_seek_81 : decode prog_5_method_2_code 81 = .ok (.aload_n 0, 1) := by decide +kernel
theorem d_Ft_seek_82 : decode prog_5_method_2_code 82 = .ok (.iload 7, 2) := by decide +kernel
theorem d_Ft_seek_84 : decode prog_5_method_2_code 84 = .ok (.iload 5, 2) := by decide +kernel
theorem d_Ft_seek_86 : decode prog_5_method_2_code 86 = .ok (.invokevirtual 80, 3) := by decide +kernel
theorem d_Ft_seek_89 : decode prog_5_method_2_code 89 = .ok (.iload 5, 2) := by decide +kernel
theorem d_Ft_seek_91 : decode prog_5_method_2_code 91 = .ok (.aload_n 0, 1) := by decide +kernel
theorem d_Ft_seek_92 : decode prog_5_method_2_code 92 = .ok (.getfield 9, 3) := by decide +kernel
theorem d_Ft_seek_95 : decode prog_5_method_2_code 95 = .ok (.aload_n 0, 1) := by decide +kernel
theorem d_Ft_seek_96 : decode prog_5_method_2_code 96 = .ok (.getfield 21, 3) := by decide +kernel
theorem d_Ft_seek_99 : decode prog_5_method_2_code 99 = .ok (.invokevirtual 84, 3) := by decide +kernel
theorem d_Ft_seek_102 : decode prog_5_method_2_code 102 = .ok (.iadd, 1) := by decide +kernel
theorem d_Ft_seek_103 : decode prog_5_method_2_code 103 = .ok (.istore 5, 2) := by decide +kernel
theorem d_Ft_seek_105 : decode prog_5_method_2_code 105 = .ok (.iinc 7 1, 3) := by decide +kernel
theorem d_Ft_seek_108 : decode prog_5_method_2_code 108 = .ok (.goto (-50), 3) := by decide +kernel
theorem d_Ft_seek_111 : decode prog_5_method_2_code 111 = .ok (.return_, 1) := by decide +kernel
abbrev S_Ft_seek : Type := Nat × Nat × Int64 × Int64 × Int32 × Int32 × Int32 × AM
noncomputable def T_Ft_seek_0 (v0R : Nat) (v1J : Int64) (v3J : Int64) (σ : AM) : S_Ft_seek ⊕ Option (Unit × AM) :=
  bndT (M_St_leastOf v1J σ) fun r1 σ2 => gdT (okO σ2 v0R 8) <| gdT (okO σ2 (aR σ2 v0R 3) 101) <| bndT (M_St_spread r1 (aR σ2 v0R 3) σ2) fun r5 σ6 => gdT (okO σ6 v0R 8) <| letT (sI σ6 v0R 5 r5) fun σ8 => bndT (M_St_greatestOf v3J σ8) fun r10 σ11 => gdT (okO σ11 v0R 8) <| gdT (okO σ11 (aR σ11 v0R 4) 101) <| bndT (M_St_spread r10 (aR σ11 v0R 4) σ11) fun r14 σ15 => gdT (okO σ15 v0R 8) <| letT (sI σ15 v0R 6 r14) fun σ17 => letT (sI σ17 v0R 7 (0 : Int32)) fun σ19 => gdT (okO σ19 (aR σ19 v0R 2) 101) <| bndT (M_JArr_fill2 (aR σ19 v0R 2) (0 : Int32) σ19) fun _ σ23 => gdT (okO σ23 v0R 8) <| gdT (okO σ23 (aR σ23 v0R 0) 1) <| bndT (M_Tw_all (aR σ23 v0R 0) σ23) fun r26 σ27 => .inl (1, v0R, 0, 0, (0 : Int32), r26, (0 : Int32), σ27)
noncomputable def T_Ft_seek_1 (v0R : Nat) (v5I : Int32) (v6I : Int32) (v7I : Int32) (σ : AM) : S_Ft_seek ⊕ Option (Unit × AM) :=
  if v7I < v6I then (gdT (okO σ v0R 8) <| if (aI σ v0R 7) = 0 then (.inl (2, v0R, 0, 0, v5I, v6I, v7I, σ)) else (if (aI σ v0R 8) < v5I then (.inl (3, v0R, 0, 0, v5I, v6I, v7I, σ)) else (.inl (2, v0R, 0, 0, v5I, v6I, v7I, σ)))) else (.inr (some ((), σ)))
noncomputable def T_Ft_seek_2 (v0R : Nat) (v5I : Int32) (v6I : Int32) (v7I : Int32) (σ : AM) : S_Ft_seek ⊕ Option (Unit × AM) :=
  gdT (okO σ v0R 8) <| bndT (M_Ft_tryRow v0R v7I v5I σ) fun _ σ2 => .inl (3, v0R, 0, 0, v5I, v6I, v7I, σ2)
noncomputable def T_Ft_seek_3 (v0R : Nat) (v5I : Int32) (v6I : Int32) (v7I : Int32) (σ : AM) : S_Ft_seek ⊕ Option (Unit × AM) :=
  gdT (okO σ v0R 8) <| gdT (okO σ (aR σ v0R 0) 1) <| gdT (okO σ (aR σ v0R 2) 101) <| bndT (M_Tw_step (aR σ v0R 0) (aR σ v0R 2) σ) fun r4 σ5 => letT (v5I + r4) fun x6 => .inl (1, v0R, 0, 0, x6, v6I, v7I + (1 : Int32), σ5)
noncomputable def F_Ft_seek : S_Ft_seek → S_Ft_seek ⊕ Option (Unit × AM) := fun s => match s.1 with
  | 0 => T_Ft_seek_0 (s.2.1) (s.2.2.1) (s.2.2.2.1) (s.2.2.2.2.2.2.2)
  | 1 => T_Ft_seek_1 (s.2.1) (s.2.2.2.2.1) (s.2.2.2.2.2.1) (s.2.2.2.2.2.2.1) (s.2.2.2.2.2.2.2)
  | 2 => T_Ft_seek_2 (s.2.1) (s.2.2.2.2.1) (s.2.2.2.2.2.1) (s.2.2.2.2.2.2.1) (s.2.2.2.2.2.2.2)
  | _ => T_Ft_seek_3 (s.2.1) (s.2.2.2.2.1) (s.2.2.2.2.2.1) (s.2.2.2.2.2.2.1) (s.2.2.2.2.2.2.2)
noncomputable def L_Ft_seek_0 (v0R : Nat) (v1J : Int64) (v3J : Int64) (σ : AM) : Option (Unit × AM) := lp F_Ft_seek (0, v0R, v1J, v3J, 0, 0, 0, σ)
noncomputable def L_Ft_seek_1 (v0R : Nat) (v5I : Int32) (v6I : Int32) (v7I : Int32) (σ : AM) : Option (Unit × AM) := lp F_Ft_seek (1, v0R, 0, 0, v5I, v6I, v7I, σ)
noncomputable def L_Ft_seek_2 (v0R : Nat) (v5I : Int32) (v6I : Int32) (v7I : Int32) (σ : AM) : Option (Unit × AM) := lp F_Ft_seek (2, v0R, 0, 0, v5I, v6I, v7I, σ)
noncomputable def L_Ft_seek_3 (v0R : Nat) (v5I : Int32) (v6I : Int32) (v7I : Int32) (σ : AM) : Option (Unit × AM) := lp F_Ft_seek (3, v0R, 0, 0, v5I, v6I, v7I, σ)
set_option maxRecDepth 20000 in
theorem E_Ft_seek_0 (v0R : Nat) (v1J : Int64) (v3J : Int64) (σ : AM) : L_Ft_seek_0 v0R v1J v3J σ = (bnd (M_St_leastOf v1J σ) fun r1 σ2 => gd (okO σ2 v0R 8) <| gd (okO σ2 (aR σ2 v0R 3) 101) <| bnd (M_St_spread r1 (aR σ2 v0R 3) σ2) fun r5 σ6 => gd (okO σ6 v0R 8) <| letT (sI σ6 v0R 5 r5) fun σ8 => bnd (M_St_greatestOf v3J σ8) fun r10 σ11 => gd (okO σ11 v0R 8) <| gd (okO σ11 (aR σ11 v0R 4) 101) <| bnd (M_St_spread r10 (aR σ11 v0R 4) σ11) fun r14 σ15 => gd (okO σ15 v0R 8) <| letT (sI σ15 v0R 6 r14) fun σ17 => letT (sI σ17 v0R 7 (0 : Int32)) fun σ19 => gd (okO σ19 (aR σ19 v0R 2) 101) <| bnd (M_JArr_fill2 (aR σ19 v0R 2) (0 : Int32) σ19) fun _ σ23 => gd (okO σ23 v0R 8) <| gd (okO σ23 (aR σ23 v0R 0) 1) <| bnd (M_Tw_all (aR σ23 v0R 0) σ23) fun r26 σ27 => L_Ft_seek_1 v0R ((0 : Int32)) r26 ((0 : Int32)) σ27) := by
  unfold L_Ft_seek_0
  rw [lp_eq]
  show lpK (lp F_Ft_seek) (T_Ft_seek_0 v0R v1J v3J σ) = _
  unfold T_Ft_seek_0
  simp only [lpK_ite, lq_inl, lq_inr, lpK_bnd, lpK_gd, lq_let]
  try rfl
set_option maxRecDepth 20000 in
theorem E_Ft_seek_1 (v0R : Nat) (v5I : Int32) (v6I : Int32) (v7I : Int32) (σ : AM) : L_Ft_seek_1 v0R v5I v6I v7I σ = (if v7I < v6I then (gd (okO σ v0R 8) <| if (aI σ v0R 7) = 0 then (L_Ft_seek_2 v0R v5I v6I v7I σ) else (if (aI σ v0R 8) < v5I then (L_Ft_seek_3 v0R v5I v6I v7I σ) else (L_Ft_seek_2 v0R v5I v6I v7I σ))) else ((some ((), σ)))) := by
  unfold L_Ft_seek_1
  rw [lp_eq]
  show lpK (lp F_Ft_seek) (T_Ft_seek_1 v0R v5I v6I v7I σ) = _
  unfold T_Ft_seek_1
  simp only [lpK_ite, lq_inl, lq_inr, lpK_bnd, lpK_gd, lq_let]
  try rfl
set_option maxRecDepth 20000 in
theorem E_Ft_seek_2 (v0R : Nat) (v5I : Int32) (v6I : Int32) (v7I : Int32) (σ : AM) : L_Ft_seek_2 v0R v5I v6I v7I σ = (gd (okO σ v0R 8) <| bnd (M_Ft_tryRow v0R v7I v5I σ) fun _ σ2 => L_Ft_seek_3 v0R v5I v6I v7I σ2) := by
  unfold L_Ft_seek_2
  rw [lp_eq]
  show lpK (lp F_Ft_seek) (T_Ft_seek_2 v0R v5I v6I v7I σ) = _
  unfold T_Ft_seek_2
  simp only [lpK_ite, lq_inl, lq_inr, lpK_bnd, lpK_gd, lq_let]
  try rfl
set_option maxRecDepth 20000 in
theorem E_Ft_seek_3 (v0R : Nat) (v5I : Int32) (v6I : Int32) (v7I : Int32) (σ : AM) : L_Ft_seek_3 v0R v5I v6I v7I σ = (gd (okO σ v0R 8) <| gd (okO σ (aR σ v0R 0) 1) <| gd (okO σ (aR σ v0R 2) 101) <| bnd (M_Tw_step (aR σ v0R 0) (aR σ v0R 2) σ) fun r4 σ5 => letT (v5I + r4) fun x6 => L_Ft_seek_1 v0R x6 v6I (v7I + (1 : Int32)) σ5) := by
  unfold L_Ft_seek_3
  rw [lp_eq]
  show lpK (lp F_Ft_seek) (T_Ft_seek_3 v0R v5I v6I v7I σ) = _
  unfold T_Ft_seek_3
  simp only [lpK_ite, lq_inl, lq_inr, lpK_bnd, lpK_gd, lq_let]
  try rfl
noncomputable def M_Ft_seek (v0R : Nat) (v1J : Int64) (v3J : Int64) (σ : AM) : Option (Unit × AM) := mw σ (L_Ft_seek_0 v0R v1J v3J σ)
def I_Ft_seek (G : GX) (p : Program) (l : Launch) (e : Env) (s : State) (m : MethodId) (args : Array Value) (below : List Frame) (meth : Method) (c : Code) (z0 u0 n : Nat) : Prop :=
  (∀ (v0R : Nat) (v1J : Int64) (v3J : Int64) (σ : AM), VX (QM eV G args s below z0 u0) G p l e s m args below meth c 3 z0 u0 8 (lpn F_Ft_seek n (0, v0R, v1J, v3J, 0, 0, 0, σ)) 0 [(0, .ref v0R), (1, .long v1J), (3, .long v3J)] [] σ) ∧
  (∀ (v0R : Nat) (v5I : Int32) (v6I : Int32) (v7I : Int32) (σ : AM), VX (QM eV G args s below z0 u0) G p l e s m args below meth c 3 z0 u0 8 (lpn F_Ft_seek n (1, v0R, 0, 0, v5I, v6I, v7I, σ)) 58 [(0, .ref v0R), (5, .int v5I), (6, .int v6I), (7, .int v7I)] [] σ) ∧
  (∀ (v0R : Nat) (v5I : Int32) (v6I : Int32) (v7I : Int32) (σ : AM), VX (QM eV G args s below z0 u0) G p l e s m args below meth c 3 z0 u0 8 (lpn F_Ft_seek n (2, v0R, 0, 0, v5I, v6I, v7I, σ)) 81 [(0, .ref v0R), (5, .int v5I), (6, .int v6I), (7, .int v7I)] [] σ) ∧
  (∀ (v0R : Nat) (v5I : Int32) (v6I : Int32) (v7I : Int32) (σ : AM), VX (QM eV G args s below z0 u0) G p l e s m args below meth c 3 z0 u0 8 (lpn F_Ft_seek n (3, v0R, 0, 0, v5I, v6I, v7I, σ)) 89 [(0, .ref v0R), (5, .int v5I), (6, .int v6I), (7, .int v7I)] [] σ)
set_option maxRecDepth 20000 in
theorem s_Ft_seek_0 {G : GX} {p : Program} {l : Launch} {e : Env} {s : State} {m : MethodId} {args : Array Value} {below : List Frame} {meth : Method} {c : Code} {z0 u0 n : Nat} (C : Cx G p s m args meth c prog_5_method_2_code 8 "BellPlate$Fit" ((none))) (IH : I_Ft_seek G p l e s m args below meth c z0 u0 n) (v0R : Nat) (v1J : Int64) (v3J : Int64) (σ : AM) : VX (QM eV G args s below z0 u0) G p l e s m args below meth c 3 z0 u0 8 (lpK (lpn F_Ft_seek n) (T_Ft_seek_0 v0R v1J v3J σ)) 0 [(0, .ref v0R), (1, .long v1J), (3, .long v3J)] [] σ := by
  unfold T_Ft_seek_0
  refine x_aload_n C d_Ft_seek_0 0 rfl ?_
  refine x_lload_n C d_Ft_seek_1 1 rfl ?_
  refine x_callSJ (As := [.long v1J]) C (c_St_leastOf G l v1J σ) w1327 w1326 w1328 w141 k_St_leastOf rfl (by decide) (by decide) rfl (Nat.le_of_ble_eq_true rfl) d_Ft_seek_2 (fun r1 σ2 => ?_)
  refine x_aload_n C d_Ft_seek_5 0 rfl ?_
  refine x_gd (fun h3 => ?_)
  refine x_gd (fun h4 => ?_)
  refine x_getR (k := 3) (kv := 101) C (okO_iff.mp h3) rfl j7_ok (by decide) rfl (okO_iff.mp h4) (by decide) w484 d_Ft_seek_6 ?_
  refine x_callSI (As := [.long r1, .ref (aR σ2 v0R 3)]) C (c_St_spread G l r1 (aR σ2 v0R 3) σ2) w1330 w1329 w1331 w141 k_St_spread rfl (by decide) (by decide) rfl (Nat.le_of_ble_eq_true rfl) d_Ft_seek_9 (fun r5 σ6 => ?_)
  refine x_gd (fun h7 => ?_)
  refine x_putI (k := 5) C (okO_iff.mp h7) rfl j7_ok y7_ok n7_ok (by decide) rfl rfl rfl rfl w486 d_Ft_seek_12 ?_
  refine x_letS (fun σ8 e9 => ?_)
  refine x_aload_n C d_Ft_seek_15 0 rfl ?_
  refine x_lload_n C d_Ft_seek_16 2 rfl ?_
  refine x_callSJ (As := [.long v3J]) C (c_St_greatestOf G l v3J σ8) w1334 w1333 w1335 w141 k_St_greatestOf rfl (by decide) (by decide) rfl (Nat.le_of_ble_eq_true rfl) d_Ft_seek_17 (fun r10 σ11 => ?_)
  refine x_aload_n C d_Ft_seek_20 0 rfl ?_
  refine x_gd (fun h12 => ?_)
  refine x_gd (fun h13 => ?_)
  refine x_getR (k := 4) (kv := 101) C (okO_iff.mp h12) rfl j7_ok (by decide) rfl (okO_iff.mp h13) (by decide) w485 d_Ft_seek_21 ?_
  refine x_callSI (As := [.long r10, .ref (aR σ11 v0R 4)]) C (c_St_spread G l r10 (aR σ11 v0R 4) σ11) w1330 w1329 w1331 w141 k_St_spread rfl (by decide) (by decide) rfl (Nat.le_of_ble_eq_true rfl) d_Ft_seek_24 (fun r14 σ15 => ?_)
  refine x_gd (fun h16 => ?_)
  refine x_putI (k := 6) C (okO_iff.mp h16) rfl j7_ok y7_ok n7_ok (by decide) rfl rfl rfl rfl w487 d_Ft_seek_27 ?_
  refine x_letS (fun σ17 e18 => ?_)
  refine x_aload_n C d_Ft_seek_30 0 rfl ?_
  refine x_iconst (v := (0 : Int32)) C d_Ft_seek_31 (by decide) ?_
  refine x_putI (k := 7) C (by first | exact (okO_iff.mp h16) | (rw [e18]; exact (okO_iff.mp h16))) rfl j7_ok y7_ok n7_ok (by decide) rfl rfl (by decide) (by decide) w488 d_Ft_seek_32 ?_
  refine x_letS (fun σ19 e20 => ?_)
  refine x_aload_n C d_Ft_seek_35 0 rfl ?_
  refine x_gd (fun h21 => ?_)
  refine x_getR (k := 2) (kv := 101) C (by first | exact (okO_iff.mp h16) | (rw [e20, e18]; exact (okO_iff.mp h16))) rfl j7_ok (by decide) rfl (okO_iff.mp h21) (by decide) w483 d_Ft_seek_36 ?_
  refine x_iconst (v := (0 : Int32)) C d_Ft_seek_39 (by decide) ?_
  refine x_callSV (As := [.ref (aR σ19 v0R 2), .int (0 : Int32)]) C (c_JArr_fill2 G l (aR σ19 v0R 2) (0 : Int32) σ19) w377 w1336 w378 w127 k_JArr_fill2 rfl (by decide) (by decide) rfl (Nat.le_of_ble_eq_true rfl) d_Ft_seek_40 (fun r22 σ23 => ?_)
  refine x_iconst (v := (0 : Int32)) C d_Ft_seek_43 (by decide) ?_
  refine x_istore (lv' := [(5, .int (0 : Int32)), (0, .ref v0R), (1, .long v1J), (3, .long v3J)]) C d_Ft_seek_44 (by decide) rfl ?_
  refine x_aload_n C d_Ft_seek_46 1 rfl ?_
  refine x_gd (fun h24 => ?_)
  refine x_gd (fun h25 => ?_)
  refine x_getR (k := 0) (kv := 1) C (okO_iff.mp h24) rfl j7_ok (by decide) rfl (okO_iff.mp h25) (by decide) w481 d_Ft_seek_47 ?_
  refine x_callVI (As := []) C (c_Tw_all G l (aR σ23 v0R 0)  σ23) (okO_iff.mp h25) rfl w630 w631 w1337 w632 w122 k_Tw_all rfl (by decide) (by decide) rfl (Nat.le_of_ble_eq_true rfl) d_Ft_seek_50 (fun r26 σ27 => ?_)
  refine x_istore (lv' := [(6, .int r26), (5, .int (0 : Int32)), (0, .ref v0R), (1, .long v1J), (3, .long v3J)]) C d_Ft_seek_53 (by decide) rfl ?_
  refine x_iconst (v := (0 : Int32)) C d_Ft_seek_55 (by decide) ?_
  refine x_istore (lv' := [(7, .int (0 : Int32)), (6, .int r26), (5, .int (0 : Int32)), (0, .ref v0R), (1, .long v1J), (3, .long v3J)]) C d_Ft_seek_56 (by decide) rfl ?_
  refine x_lv [3, 2, 1, 0] rfl ?_
  exact IH.2.1 v0R ((0 : Int32)) r26 ((0 : Int32)) (σ27)
set_option maxRecDepth 20000 in
theorem s_Ft_seek_1 {G : GX} {p : Program} {l : Launch} {e : Env} {s : State} {m : MethodId} {args : Array Value} {below : List Frame} {meth : Method} {c : Code} {z0 u0 n : Nat} (C : Cx G p s m args meth c prog_5_method_2_code 8 "BellPlate$Fit" ((none))) (IH : I_Ft_seek G p l e s m args below meth c z0 u0 n) (v0R : Nat) (v5I : Int32) (v6I : Int32) (v7I : Int32) (σ : AM) : VX (QM eV G args s below z0 u0) G p l e s m args below meth c 3 z0 u0 8 (lpK (lpn F_Ft_seek n) (T_Ft_seek_1 v0R v5I v6I v7I σ)) 58 [(0, .ref v0R), (5, .int v5I), (6, .int v6I), (7, .int v7I)] [] σ := by
  unfold T_Ft_seek_1
  refine x_iload C d_Ft_seek_58 3 rfl ?_
  refine x_iload C d_Ft_seek_60 2 rfl ?_
  refine x_icmp_ge (tgt := 111) C d_Ft_seek_62 (by decide) (fun _ => ?_) (fun _ => ?_)
  · refine x_aload_n C d_Ft_seek_65 0 rfl ?_
    refine x_gd (fun h1 => ?_)
    refine x_getI (k := 7) C (okO_iff.mp h1) rfl j7_ok (by decide) rfl w488 d_Ft_seek_66 ?_
    refine x_if_eq (tgt := 81) C d_Ft_seek_69 (by decide) (fun _ => ?_) (fun _ => ?_)
    · exact IH.2.2.1 v0R v5I v6I v7I (σ)
    · refine x_iload C d_Ft_seek_72 1 rfl ?_
      refine x_aload_n C d_Ft_seek_74 0 rfl ?_
      refine x_getI (k := 8) C (okO_iff.mp h1) rfl j7_ok (by decide) rfl w489 d_Ft_seek_75 ?_
      refine x_icmp_gt (tgt := 89) C d_Ft_seek_78 (by decide) (fun _ => ?_) (fun _ => ?_)
      · exact IH.2.2.2 v0R v5I v6I v7I (σ)
      · exact IH.2.2.1 v0R v5I v6I v7I (σ)
  · exact x_vret C d_Ft_seek_111
set_option maxRecDepth 20000 in
theorem s_Ft_seek_2 {G : GX} {p : Program} {l : Launch} {e : Env} {s : State} {m : MethodId} {args : Array Value} {below : List Frame} {meth : Method} {c : Code} {z0 u0 n : Nat} (C : Cx G p s m args meth c prog_5_method_2_code 8 "BellPlate$Fit" ((none))) (IH : I_Ft_seek G p l e s m args below meth c z0 u0 n) (v0R : Nat) (v5I : Int32) (v6I : Int32) (v7I : Int32) (σ : AM) : VX (QM eV G args s below z0 u0) G p l e s m args below meth c 3 z0 u0 8 (lpK (lpn F_Ft_seek n) (T_Ft_seek_2 v0R v5I v6I v7I σ)) 81 [(0, .ref v0R), (5, .int v5I), (6, .int v6I), (7, .int v7I)] [] σ := by
  unfold T_Ft_seek_2
  refine x_aload_n C d_Ft_seek_81 0 rfl ?_
  refine x_iload C d_Ft_seek_82 3 rfl ?_
  refine x_iload C d_Ft_seek_84 1 rfl ?_
  refine x_gd (fun h3 => ?_)
  refine x_callVV (As := [.int v7I, .int v5I]) C (c_Ft_tryRow G l v0R v7I v5I σ) (okO_iff.mp h3) rfl w1340 w39 w1338 w1341 w129 k_Ft_tryRow rfl (by decide) (by decide) rfl (Nat.le_of_ble_eq_true rfl) d_Ft_seek_86 (fun r1 σ2 => ?_)
  exact IH.2.2.2 v0R v5I v6I v7I (σ2)
set_option maxRecDepth 20000 in
theorem s_Ft_seek_3 {G : GX} {p : Program} {l : Launch} {e : Env} {s : State} {m : MethodId} {args : Array Value} {below : List Frame} {meth : Method} {c : Code} {z0 u0 n : Nat} (C : Cx G p s m args meth c prog_5_method_2_code 8 "BellPlate$Fit" ((none))) (IH : I_Ft_seek G p l e s m args below meth c z0 u0 n) (v0R : Nat) (v5I : Int32) (v6I : Int32) (v7I : Int32) (σ : AM) : VX (QM eV G args s below z0 u0) G p l e s m args below meth c 3 z0 u0 8 (lpK (lpn F_Ft_seek n) (T_Ft_seek_3 v0R v5I v6I v7I σ)) 89 [(0, .ref v0R), (5, .int v5I), (6, .int v6I), (7, .int v7I)] [] σ := by
  unfold T_Ft_seek_3
  refine x_iload C d_Ft_seek_89 1 rfl ?_
  refine x_aload_n C d_Ft_seek_91 0 rfl ?_
  refine x_gd (fun h1 => ?_)
  refine x_gd (fun h2 => ?_)
  refine x_getR (k := 0) (kv := 1) C (okO_iff.mp h1) rfl j7_ok (by decide) rfl (okO_iff.mp h2) (by decide) w481 d_Ft_seek_92 ?_
  refine x_aload_n C d_Ft_seek_95 0 rfl ?_
  refine x_gd (fun h3 => ?_)
  refine x_getR (k := 2) (kv := 101) C (okO_iff.mp h1) rfl j7_ok (by decide) rfl (okO_iff.mp h3) (by decide) w483 d_Ft_seek_96 ?_
  refine x_callVI (As := [.ref (aR σ v0R 2)]) C (c_Tw_step G l (aR σ v0R 0) (aR σ v0R 2) σ) (okO_iff.mp h2) rfl w687 w688 w1348 w689 w122 k_Tw_step rfl (by decide) (by decide) rfl (Nat.le_of_ble_eq_true rfl) d_Ft_seek_99 (fun r4 σ5 => ?_)
  refine x_iadd C d_Ft_seek_102 ?_
  refine x_letI (fun x6 _ => ?_)
  refine x_istore (lv' := [(5, .int x6), (0, .ref v0R), (6, .int v6I), (7, .int v7I)]) C d_Ft_seek_103 (by decide) rfl ?_
  refine x_iinc (v := v7I + (1 : Int32)) (lv' := [(7, .int (v7I + (1 : Int32))), (5, .int x6), (0, .ref v0R), (6, .int v6I)]) C d_Ft_seek_105 3 rfl rfl (by decide) rfl ?_
  refine x_goto (tgt := 58) C d_Ft_seek_108 (by decide) ?_
  refine x_lv [2, 1, 3, 0] rfl ?_
  exact IH.2.1 v0R x6 v6I (v7I + (1 : Int32)) (σ5)
theorem i_Ft_seek {G : GX} {p : Program} {l : Launch} {e : Env} {s : State} {m : MethodId} {args : Array Value} {below : List Frame} {meth : Method} {c : Code} {z0 u0 : Nat} (C : Cx G p s m args meth c prog_5_method_2_code 8 "BellPlate$Fit" ((none))) (n : Nat) : I_Ft_seek G p l e s m args below meth c z0 u0 n := by
  induction n with
  | zero => exact ⟨fun _ _ _ _ => x_none, fun _ _ _ _ _ => x_none, fun _ _ _ _ _ => x_none, fun _ _ _ _ _ => x_none⟩
  | succ n IH => exact ⟨fun v0R v1J v3J σ => s_Ft_seek_0 C IH v0R v1J v3J σ, fun v0R v5I v6I v7I σ => s_Ft_seek_1 C IH v0R v5I v6I v7I σ, fun v0R v5I v6I v7I σ => s_Ft_seek_2 C IH v0R v5I v6I v7I σ, fun v0R v5I v6I v7I σ => s_Ft_seek_3 C IH v0R v5I v6I v7I σ⟩
theorem c_Ft_seek (G : GX) (l : Launch) (v0R : Nat) (v1J : Int64) (v3J : Int64) (σ : AM) : CT eV G l 3 y_Ft_seek prog_5_method_2_code 8 (none) [.ref v0R, .long v1J, .long v3J] σ (M_Ft_seek v0R v1J v3J σ) := by
  refine ct_of (by decide +kernel) (Nat.le_of_ble_eq_true rfl) (fun p e s m args below meth c C hin => ?_)
  refine x_lve (lv' := [(0, .ref v0R), (1, .long v1J), (3, .long v3J)]) rfl ?_
  intro r σ' h
  obtain ⟨n, hn⟩ := (lp_iff _ _ _).mp h
  exact (i_Ft_seek C n).1 v0R v1J v3J σ r σ' hn
/-! BellPlate$Fit.answer(I)I -/
abbrev y_Ft_answer : MethodName := ⟨"BellPlate$Fit", "answer", "(I)I"⟩
theorem k_Ft_answer : y_Ft_answer.cls ≠ "java/lang/invoke/MethodHandle" ∧ y_Ft_answer.cls ≠ "java/lang/invoke/VarHandle" ∧ (parseMethodDescriptor y_Ft_answer.desc).map (fun d => d.parameters.length) = some 1 := by decide +kernel
theorem d_Ft_answer_0 : decode prog_5_method_5_code 0 = .ok (.aload_n 0, 1) := by decide +kernel
theorem d_Ft_answer_1 : decode prog_5_method_5_code 1 = .ok (.getfield 63, 3) := by decide +kernel
theorem d_Ft_answer_4 : decode prog_5_method_5_code 4 = .ok (.ifCond .ne 5, 3) := by decide +kernel
theorem d_Ft_answer_7 : decode prog_5_method_5_code 7 = .ok (.iconst (-1), 1) := by decide +kernel
theorem d_Ft_answer_8 : decode prog_5_method_5_code 8 = .ok (.ireturn, 1) := by decide +kernel
theorem d_Ft_answer_9 : decode prog_5_method_5_code 9 = .ok (.iload_n 1, 1) := by decide +kernel
theorem d_Ft_answer_10 : decode prog_5_method_5_code 10 = .ok (.lookupswitch 36 #[(0, 26), (1, 31)], 26) := by decide +kernel
theorem d_Ft_answer_36 : decode prog_5_method_5_code 36 = .ok (.aload_n 0, 1) := by decide +kernel
theorem d_Ft_answer_37 : decode prog_5_method_5_code 37 = .ok (.getfield 77, 3) := by decide +kernel
theorem d_Ft_answer_40 : decode prog_5_method_5_code 40 = .ok (.ireturn, 1) := by decide +kernel
theorem d_Ft_answer_41 : decode prog_5_method_5_code 41 = .ok (.aload_n 0, 1) := by decide +kernel
theorem d_Ft_answer_42 : decode prog_5_method_5_code 42 = .ok (.getfield 91, 3) := by decide +kernel
theorem d_Ft_answer_45 : decode prog_5_method_5_code 45 = .ok (.ireturn, 1) := by decide +kernel
theorem d_Ft_answer_46 : decode prog_5_method_5_code 46 = .ok (.aload_n 0, 1) := by decide +kernel
theorem d_Ft_answer_47 : decode prog_5_method_5_code 47 = .ok (.getfield 94, 3) := by decide +kernel
theorem d_Ft_answer_50 : decode prog_5_method_5_code 50 = .ok (.ireturn, 1) := by decide +kernel
abbrev S_Ft_answer : Type := Nat × Nat × Int32 × AM
noncomputable def T_Ft_answer_0 (v0R : Nat) (v1I : Int32) (σ : AM) : S_Ft_answer ⊕ Option (Int32 × AM) :=
  gdT (okO σ v0R 8) <| if (aI σ v0R 7) = 0 then (.inr (some (((-1) : Int32), σ))) else (if v1I = (0 : Int32) then (.inr (some ((aI σ v0R 8), σ))) else (if v1I = (1 : Int32) then (.inr (some ((aI σ v0R 9), σ))) else (.inr (some ((aI σ v0R 10), σ)))))
noncomputable def F_Ft_answer : S_Ft_answer → S_Ft_answer ⊕ Option (Int32 × AM) := fun s => match s.1 with
  | _ => T_Ft_answer_0 (s.2.1) (s.2.2.1) (s.2.2.2)
noncomputable def L_Ft_answer_0 (v0R : Nat) (v1I : Int32) (σ : AM) : Option (Int32 × AM) := lp F_Ft_answer (0, v0R, v1I, σ)
set_option maxRecDepth 20000 in
theorem E_Ft_answer_0 (v0R : Nat) (v1I : Int32) (σ : AM) : L_Ft_answer_0 v0R v1I σ = (gd (okO σ v0R 8) <| if (aI σ v0R 7) = 0 then ((some (((-1) : Int32), σ))) else (if v1I = (0 : Int32) then ((some ((aI σ v0R 8), σ))) else (if v1I = (1 : Int32) then ((some ((aI σ v0R 9), σ))) else ((some ((aI σ v0R 10), σ)))))) := by
  unfold L_Ft_answer_0
  rw [lp_eq]
  show lpK (lp F_Ft_answer) (T_Ft_answer_0 v0R v1I σ) = _
  unfold T_Ft_answer_0
  simp only [lpK_ite, lq_inl, lq_inr, lpK_bnd, lpK_gd, lq_let]
  try rfl
noncomputable def M_Ft_answer (v0R : Nat) (v1I : Int32) (σ : AM) : Option (Int32 × AM) := mw σ (L_Ft_answer_0 v0R v1I σ)
def I_Ft_answer (G : GX) (p : Program) (l : Launch) (e : Env) (s : State) (m : MethodId) (args : Array Value) (below : List Frame) (meth : Method) (c : Code) (z0 u0 n : Nat) : Prop :=
  (∀ (v0R : Nat) (v1I : Int32) (σ : AM), VX (QM eI G args s below z0 u0) G p l e s m args below meth c 0 z0 u0 2 (lpn F_Ft_answer n (0, v0R, v1I, σ)) 0 [(0, .ref v0R), (1, .int v1I)] [] σ)
set_option maxRecDepth 20000 in
theorem s_Ft_answer_0 {G : GX} {p : Program} {l : Launch} {e : Env} {s : State} {m : MethodId} {args : Array Value} {below : List Frame} {meth : Method} {c : Code} {z0 u0 n : Nat} (C : Cx G p s m args meth c prog_5_method_5_code 2 "BellPlate$Fit" ((some FieldType.int))) (IH : I_Ft_answer G p l e s m args below meth c z0 u0 n) (v0R : Nat) (v1I : Int32) (σ : AM) : VX (QM eI G args s below z0 u0) G p l e s m args below meth c 0 z0 u0 2 (lpK (lpn F_Ft_answer n) (T_Ft_answer_0 v0R v1I σ)) 0 [(0, .ref v0R), (1, .int v1I)] [] σ := by
  unfold T_Ft_answer_0
  refine x_aload_n C d_Ft_answer_0 0 rfl ?_
  refine x_gd (fun h1 => ?_)
  refine x_getI (k := 7) C (okO_iff.mp h1) rfl j7_ok (by decide) rfl w488 d_Ft_answer_1 ?_
  refine x_if_ne (tgt := 9) C d_Ft_answer_4 (by decide) (fun _ => ?_) (fun _ => ?_)
  · refine x_iconst (v := ((-1) : Int32)) C d_Ft_answer_7 (by decide) ?_
    exact x_iret C d_Ft_answer_8
  · refine x_iload_n C d_Ft_answer_9 1 rfl ?_
    refine x_split (fun h2 => ?_) (fun h2 => ?_)
    · refine x_look (off := 26) (tgt := 36) C d_Ft_answer_10 (by decide) (by rw [h2]; rfl) (by decide) ?_
      refine x_aload_n C d_Ft_answer_36 0 rfl ?_
      refine x_getI (k := 8) C (okO_iff.mp h1) rfl j7_ok (by decide) rfl w489 d_Ft_answer_37 ?_
      exact x_iret C d_Ft_answer_40
    · refine x_split (fun h3 => ?_) (fun h3 => ?_)
      · refine x_look (off := 31) (tgt := 41) C d_Ft_answer_10 (by decide) (by rw [h3]; rfl) (by decide) ?_
        refine x_aload_n C d_Ft_answer_41 0 rfl ?_
        refine x_getI (k := 9) C (okO_iff.mp h1) rfl j7_ok (by decide) rfl w490 d_Ft_answer_42 ?_
        exact x_iret C d_Ft_answer_45
      · refine x_look (off := 36) (tgt := 46) C d_Ft_answer_10 (by decide) ((lv_osw h2 (by decide)).trans ((lv_osw h3 (by decide)).trans (rfl))) (by decide) ?_
        refine x_aload_n C d_Ft_answer_46 0 rfl ?_
        refine x_getI (k := 10) C (okO_iff.mp h1) rfl j7_ok (by decide) rfl w491 d_Ft_answer_47 ?_
        exact x_iret C d_Ft_answer_50
theorem i_Ft_answer {G : GX} {p : Program} {l : Launch} {e : Env} {s : State} {m : MethodId} {args : Array Value} {below : List Frame} {meth : Method} {c : Code} {z0 u0 : Nat} (C : Cx G p s m args meth c prog_5_method_5_code 2 "BellPlate$Fit" ((some FieldType.int))) (n : Nat) : I_Ft_answer G p l e s m args below meth c z0 u0 n := by
  induction n with
  | zero => exact fun _ _ _ => x_none
  | succ n IH => exact fun v0R v1I σ => s_Ft_answer_0 C IH v0R v1I σ
theorem c_Ft_answer (G : GX) (l : Launch) (v0R : Nat) (v1I : Int32) (σ : AM) : CT eI G l 0 y_Ft_answer prog_5_method_5_code 2 ((some FieldType.int)) [.ref v0R, .int v1I] σ (M_Ft_answer v0R v1I σ) := by
  refine ct_of (by decide +kernel) (Nat.le_of_ble_eq_true rfl) (fun p e s m args below meth c C hin => ?_)
  refine x_lve (lv' := [(0, .ref v0R), (1, .int v1I)]) rfl ?_
  intro r σ' h
  obtain ⟨n, hn⟩ := (lp_iff _ _ _).mp h
  exact (i_Ft_answer C n) v0R v1I σ r σ' hn
/-! BellPlate$Fit.addHolder(II)V -/
abbrev y_Ft_addHolder : MethodName := ⟨"BellPlate$Fit", "addHolder", "(II)V"⟩
theorem k_Ft_addHolder : y_Ft_addHolder.cls ≠ "java/lang/invoke/MethodHandle" ∧ y_Ft_addHolder.cls ≠ "java/lang/invoke/VarHandle" ∧ (parseMethodDescriptor y_Ft_addHolder.desc).map (fun d => d.parameters.length) = some 2 := by decide +kernel
theorem d_Ft_addHolder_0 : decode prog_5_method_8_code 0 = .ok (.iconst 0, 1) := by decide +kernel
theorem d_Ft_addHolder_1 : decode prog_5_method_8_code 1 = .ok (.istore_n 3, 1) := by decide +kernel
theorem d_Ft_addHolder_2 : decode prog_5_method_8_code 2 = .ok (.iload_n 3, 1) := by decide +kernel
theorem d_Ft_addHolder_3 : decode prog_5_method_8_code 3 = .ok (.bipush 64, 2) := by decide +kernel
theorem d_Ft_addHolder_5 : decode prog_5_method_8_code 5 = .ok (.if_icmp .ge 29, 3) := by decide +kernel
theorem d_Ft_addHolder_8 : decode prog_5_method_8_code 8 = .ok (.iload_n 3, 1) := by decide +kernel
theorem d_Ft_addHolder_9 : decode prog_5_method_8_code 9 = .ok (.iload_n 1, 1) := by decide +kernel
theorem d_Ft_addHolder_10 : decode prog_5_method_8_code 10 = .ok (.iconst (-1), 1) := by decide +kernel
theorem d_Ft_addHolder_11 : decode prog_5_method_8_code 11 = .ok (.ixor, 1) := by decide +kernel
theorem d_Ft_addHolder_12 : decode prog_5_method_8_code 12 = .ok (.iand, 1) := by decide +kernel
theorem d_Ft_addHolder_13 : decode prog_5_method_8_code 13 = .ok (.ifCond .ne 15, 3) := by decide +kernel
theorem d_Ft_addHolder_16 : decode prog_5_method_8_code 16 = .ok (.aload_n 0, 1) := by decide +kernel
theorem d_Ft_addHolder_17 : decode prog_5_method_8_code 17 = .ok (.getfield 33, 3) := by decide +kernel
theorem d_Ft_addHolder_20 : decode prog_5_method_8_code 20 = .ok (.iload_n 3, 1) := by decide +kernel
theorem d_Ft_addHolder_21 : decode prog_5_method_8_code 21 = .ok (.dup2, 1) := by decide +kernel
theorem d_Ft_addHolder_22 : decode prog_5_method_8_code 22 = .ok (.laload, 1) := by decide +kernel
theorem d_Ft_addHolder_23 : decode prog_5_method_8_code 23 = .ok (.lconst 1, 1) := by decide +kernel
theorem d_Ft_addHolder_24 : decode prog_5_method_8_code 24 = .ok (.iload_n 2, 1) := by decide +kernel
theorem d_Ft_addHolder_25 : decode prog_5_method_8_code 25 = .ok (.lshl, 1) := by decide +kernel
theorem d_Ft_addHolder_26 : decode prog_5_method_8_code 26 = .ok (.lor, 1) := by decide +kernel
theorem d_Ft_addHolder_27 : decode prog_5_method_8_code 27 = .ok (.lastore, 1) := by decide +kernel
theorem d_Ft_addHolder_28 : decode prog_5_method_8_code 28 = .ok (.iinc 3 1, 3) := by decide +kernel
theorem d_Ft_addHolder_31 : decode prog_5_method_8_code 31 = .ok (.goto (-29), 3) := by decide +kernel
theorem d_Ft_addHolder_34 : decode prog_5_method_8_code 34 = .ok (.return_, 1) := by decide +kernel
abbrev S_Ft_addHolder : Type := Nat × Nat × Int32 × Int32 × Int32 × AM
noncomputable def T_Ft_addHolder_0 (v0R : Nat) (v1I : Int32) (v2I : Int32) (σ : AM) : S_Ft_addHolder ⊕ Option (Unit × AM) :=
  .inl (1, v0R, v1I, v2I, (0 : Int32), σ)
noncomputable def T_Ft_addHolder_1 (v0R : Nat) (v1I : Int32) (v2I : Int32) (v3I : Int32) (σ : AM) : S_Ft_addHolder ⊕ Option (Unit × AM) :=
  if v3I < (64 : Int32) then (if (v3I &&& (v1I ^^^ ((-1) : Int32))) = 0 then (gdT (okO σ v0R 8) <| gdT (okO σ (aR σ v0R 11) 102) <| gdT (inB v3I (aN σ (aR σ v0R 11))) <| letT (sL σ (aR σ v0R 11) v3I.toNatClampNeg ((aL σ (aR σ v0R 11) v3I.toNatClampNeg) ||| ((1 : Int64) <<< (v2I.toInt64 &&& 63)))) fun σ4 => .inl (2, v0R, v1I, v2I, v3I, σ4)) else (.inl (2, v0R, v1I, v2I, v3I, σ))) else (.inr (some ((), σ)))
noncomputable def T_Ft_addHolder_2 (v0R : Nat) (v1I : Int32) (v2I : Int32) (v3I : Int32) (σ : AM) : S_Ft_addHolder ⊕ Option (Unit × AM) :=
  .inl (1, v0R, v1I, v2I, v3I + (1 : Int32), σ)
noncomputable def F_Ft_addHolder : S_Ft_addHolder → S_Ft_addHolder ⊕ Option (Unit × AM) := fun s => match s.1 with
  | 0 => T_Ft_addHolder_0 (s.2.1) (s.2.2.1) (s.2.2.2.1) (s.2.2.2.2.2)
  | 1 => T_Ft_addHolder_1 (s.2.1) (s.2.2.1) (s.2.2.2.1) (s.2.2.2.2.1) (s.2.2.2.2.2)
  | _ => T_Ft_addHolder_2 (s.2.1) (s.2.2.1) (s.2.2.2.1) (s.2.2.2.2.1) (s.2.2.2.2.2)
noncomputable def L_Ft_addHolder_0 (v0R : Nat) (v1I : Int32) (v2I : Int32) (σ : AM) : Option (Unit × AM) := lp F_Ft_addHolder (0, v0R, v1I, v2I, 0, σ)
noncomputable def L_Ft_addHolder_1 (v0R : Nat) (v1I : Int32) (v2I : Int32) (v3I : Int32) (σ : AM) : Option (Unit × AM) := lp F_Ft_addHolder (1, v0R, v1I, v2I, v3I, σ)
noncomputable def L_Ft_addHolder_2 (v0R : Nat) (v1I : Int32) (v2I : Int32) (v3I : Int32) (σ : AM) : Option (Unit × AM) := lp F_Ft_addHolder (2, v0R, v1I, v2I, v3I, σ)
set_option maxRecDepth 20000 in
theorem E_Ft_addHolder_0 (v0R : Nat) (v1I : Int32) (v2I : Int32) (σ : AM) : L_Ft_addHolder_0 v0R v1I v2I σ = (L_Ft_addHolder_1 v0R v1I v2I ((0 : Int32)) σ) := by
  unfold L_Ft_addHolder_0
  rw [lp_eq]
  show lpK (lp F_Ft_addHolder) (T_Ft_addHolder_0 v0R v1I v2I σ) = _
  unfold T_Ft_addHolder_0
  simp only [lpK_ite, lq_inl, lq_inr, lpK_bnd, lpK_gd, lq_let]
  try rfl
set_option maxRecDepth 20000 in
theorem E_Ft_addHolder_1 (v0R : Nat) (v1I : Int32) (v2I : Int32) (v3I : Int32) (σ : AM) : L_Ft_addHolder_1 v0R v1I v2I v3I σ = (if v3I < (64 : Int32) then (if (v3I &&& (v1I ^^^ ((-1) : Int32))) = 0 then (gd (okO σ v0R 8) <| gd (okO σ (aR σ v0R 11) 102) <| gd (inB v3I (aN σ (aR σ v0R 11))) <| letT (sL σ (aR σ v0R 11) v3I.toNatClampNeg ((aL σ (aR σ v0R 11) v3I.toNatClampNeg) ||| ((1 : Int64) <<< (v2I.toInt64 &&& 63)))) fun σ4 => L_Ft_addHolder_2 v0R v1I v2I v3I σ4) else (L_Ft_addHolder_2 v0R v1I v2I v3I σ)) else ((some ((), σ)))) := by
  unfold L_Ft_addHolder_1
  rw [lp_eq]
  show lpK (lp F_Ft_addHolder) (T_Ft_addHolder_1 v0R v1I v2I v3I σ) = _
  unfold T_Ft_addHolder_1
  simp only [lpK_ite, lq_inl, lq_inr, lpK_bnd, lpK_gd, lq_let]
  try rfl
set_option maxRecDepth 20000 in
theorem E_Ft_addHolder_2 (v0R : Nat) (v1I : Int32) (v2I : Int32) (v3I : Int32) (σ : AM) : L_Ft_addHolder_2 v0R v1I v2I v3I σ = (L_Ft_addHolder_1 v0R v1I v2I (v3I + (1 : Int32)) σ) := by
  unfold L_Ft_addHolder_2
  rw [lp_eq]
  show lpK (lp F_Ft_addHolder) (T_Ft_addHolder_2 v0R v1I v2I v3I σ) = _
  unfold T_Ft_addHolder_2
  simp only [lpK_ite, lq_inl, lq_inr, lpK_bnd, lpK_gd, lq_let]
  try rfl
noncomputable def M_Ft_addHolder (v0R : Nat) (v1I : Int32) (v2I : Int32) (σ : AM) : Option (Unit × AM) := mw σ (L_Ft_addHolder_0 v0R v1I v2I σ)
def I_Ft_addHolder (G : GX) (p : Program) (l : Launch) (e : Env) (s : State) (m : MethodId) (args : Array Value) (below : List Frame) (meth : Method) (c : Code) (z0 u0 n : Nat) : Prop :=
  (∀ (v0R : Nat) (v1I : Int32) (v2I : Int32) (σ : AM), VX (QM eV G args s below z0 u0) G p l e s m args below meth c 0 z0 u0 4 (lpn F_Ft_addHolder n (0, v0R, v1I, v2I, 0, σ)) 0 [(0, .ref v0R), (1, .int v1I), (2, .int v2I)] [] σ) ∧
  (∀ (v0R : Nat) (v1I : Int32) (v2I : Int32) (v3I : Int32) (σ : AM), VX (QM eV G args s below z0 u0) G p l e s m args below meth c 0 z0 u0 4 (lpn F_Ft_addHolder n (1, v0R, v1I, v2I, v3I, σ)) 2 [(0, .ref v0R), (1, .int v1I), (2, .int v2I), (3, .int v3I)] [] σ) ∧
  (∀ (v0R : Nat) (v1I : Int32) (v2I : Int32) (v3I : Int32) (σ : AM), VX (QM eV G args s below z0 u0) G p l e s m args below meth c 0 z0 u0 4 (lpn F_Ft_addHolder n (2, v0R, v1I, v2I, v3I, σ)) 28 [(0, .ref v0R), (1, .int v1I), (2, .int v2I), (3, .int v3I)] [] σ)
set_option maxRecDepth 20000 in
theorem s_Ft_addHolder_0 {G : GX} {p : Program} {l : Launch} {e : Env} {s : State} {m : MethodId} {args : Array Value} {below : List Frame} {meth : Method} {c : Code} {z0 u0 n : Nat} (C : Cx G p s m args meth c prog_5_method_8_code 4 "BellPlate$Fit" ((none))) (IH : I_Ft_addHolder G p l e s m args below meth c z0 u0 n) (v0R : Nat) (v1I : Int32) (v2I : Int32) (σ : AM) : VX (QM eV G args s below z0 u0) G p l e s m args below meth c 0 z0 u0 4 (lpK (lpn F_Ft_addHolder n) (T_Ft_addHolder_0 v0R v1I v2I σ)) 0 [(0, .ref v0R), (1, .int v1I), (2, .int v2I)] [] σ := by
  unfold T_Ft_addHolder_0
  refine x_iconst (v := (0 : Int32)) C d_Ft_addHolder_0 (by decide) ?_
  refine x_istore_n (lv' := [(3, .int (0 : Int32)), (0, .ref v0R), (1, .int v1I), (2, .int v2I)]) C d_Ft_addHolder_1 (by decide) rfl rfl ?_
  refine x_lv [1, 2, 3, 0] rfl ?_
  exact IH.2.1 v0R v1I v2I ((0 : Int32)) (σ)
set_option maxRecDepth 20000 in
theorem s_Ft_addHolder_1 {G : GX} {p : Program} {l : Launch} {e : Env} {s : State} {m : MethodId} {args : Array Value} {below : List Frame} {meth : Method} {c : Code} {z0 u0 n : Nat} (C : Cx G p s m args meth c prog_5_method_8_code 4 "BellPlate$Fit" ((none))) (IH : I_Ft_addHolder G p l e s m args below meth c z0 u0 n) (v0R : Nat) (v1I : Int32) (v2I : Int32) (v3I : Int32) (σ : AM) : VX (QM eV G args s below z0 u0) G p l e s m args below meth c 0 z0 u0 4 (lpK (lpn F_Ft_addHolder n) (T_Ft_addHolder_1 v0R v1I v2I v3I σ)) 2 [(0, .ref v0R), (1, .int v1I), (2, .int v2I), (3, .int v3I)] [] σ := by
  unfold T_Ft_addHolder_1
  refine x_iload_n C d_Ft_addHolder_2 3 rfl ?_
  refine x_bipush (v := (64 : Int32)) C d_Ft_addHolder_3 (by decide) ?_
  refine x_icmp_ge (tgt := 34) C d_Ft_addHolder_5 (by decide) (fun _ => ?_) (fun _ => ?_)
  · refine x_iload_n C d_Ft_addHolder_8 3 rfl ?_
    refine x_iload_n C d_Ft_addHolder_9 1 rfl ?_
    refine x_iconst (v := ((-1) : Int32)) C d_Ft_addHolder_10 (by decide) ?_
    refine x_ixor C d_Ft_addHolder_11 ?_
    refine x_iand C d_Ft_addHolder_12 ?_
    refine x_if_ne (tgt := 28) C d_Ft_addHolder_13 (by decide) (fun _ => ?_) (fun _ => ?_)
    · refine x_aload_n C d_Ft_addHolder_16 0 rfl ?_
      refine x_gd (fun h1 => ?_)
      refine x_gd (fun h2 => ?_)
      refine x_getR (k := 11) (kv := 102) C (okO_iff.mp h1) rfl j7_ok (by decide) rfl (okO_iff.mp h2) (by decide) w492 d_Ft_addHolder_17 ?_
      refine x_iload_n C d_Ft_addHolder_20 3 rfl ?_
      refine x_dup2 C d_Ft_addHolder_21 rfl rfl ?_
      refine x_gd (fun h3 => ?_)
      refine x_aldJ C (okO_iff.mp h2) (inB_iff.mp h3) d_Ft_addHolder_22 ?_
      refine x_lconst (v := (1 : Int64)) C d_Ft_addHolder_23 (by decide) ?_
      refine x_iload_n C d_Ft_addHolder_24 2 rfl ?_
      refine x_lshl C d_Ft_addHolder_25 ?_
      refine x_lor C d_Ft_addHolder_26 ?_
      refine x_astJ C (okO_iff.mp h2) (inB_iff.mp h3) d_Ft_addHolder_27 ?_
      refine x_letS (fun σ4 e5 => ?_)
      exact IH.2.2 v0R v1I v2I v3I (σ4)
    · exact IH.2.2 v0R v1I v2I v3I (σ)
  · exact x_vret C d_Ft_addHolder_34
set_option maxRecDepth 20000 in
theorem s_Ft_addHolder_2 {G : GX} {p : Program} {l : Launch} {e : Env} {s : State} {m : MethodId} {args : Array Value} {below : List Frame} {meth : Method} {c : Code} {z0 u0 n : Nat} (C : Cx G p s m args meth c prog_5_method_8_code 4 "BellPlate$Fit" ((none))) (IH : I_Ft_addHolder G p l e s m args below meth c z0 u0 n) (v0R : Nat) (v1I : Int32) (v2I : Int32) (v3I : Int32) (σ : AM) : VX (QM eV G args s below z0 u0) G p l e s m args below meth c 0 z0 u0 4 (lpK (lpn F_Ft_addHolder n) (T_Ft_addHolder_2 v0R v1I v2I v3I σ)) 28 [(0, .ref v0R), (1, .int v1I), (2, .int v2I), (3, .int v3I)] [] σ := by
  unfold T_Ft_addHolder_2
  refine x_iinc (v := v3I + (1 : Int32)) (lv' := [(3, .int (v3I + (1 : Int32))), (0, .ref v0R), (1, .int v1I), (2, .int v2I)]) C d_Ft_addHolder_28 3 rfl rfl (by decide) rfl ?_
  refine x_goto (tgt := 2) C d_Ft_addHolder_31 (by decide) ?_
  refine x_lv [1, 2, 3, 0] rfl ?_
  exact IH.2.1 v0R v1I v2I (v3I + (1 : Int32)) (σ)
theorem i_Ft_addHolder {G : GX} {p : Program} {l : Launch} {e : Env} {s : State} {m : MethodId} {args : Array Value} {below : List Frame} {meth : Method} {c : Code} {z0 u0 : Nat} (C : Cx G p s m args meth c prog_5_method_8_code 4 "BellPlate$Fit" ((none))) (n : Nat) : I_Ft_addHolder G p l e s m args below meth c z0 u0 n := by
  induction n with
  | zero => exact ⟨fun _ _ _ _ => x_none, fun _ _ _ _ _ => x_none, fun _ _ _ _ _ => x_none⟩
  | succ n IH => exact ⟨fun v0R v1I v2I σ => s_Ft_addHolder_0 C IH v0R v1I v2I σ, fun v0R v1I v2I v3I σ => s_Ft_addHolder_1 C IH v0R v1I v2I v3I σ, fun v0R v1I v2I v3I σ => s_Ft_addHolder_2 C IH v0R v1I v2I v3I σ⟩
theorem c_Ft_addHolder (G : GX) (l : Launch) (v0R : Nat) (v1I : Int32) (v2I : Int32) (σ : AM) : CT eV G l 0 y_Ft_addHolder prog_5_method_8_code 4 (none) [.ref v0R, .int v1I, .int v2I] σ (M_Ft_addHolder v0R v1I v2I σ) := by
  refine ct_of (by decide +kernel) (Nat.le_of_ble_eq_true rfl) (fun p e s m args below meth c C hin => ?_)
  refine x_lve (lv' := [(0, .ref v0R), (1, .int v1I), (2, .int v2I)]) rfl ?_
  intro r σ' h
  obtain ⟨n, hn⟩ := (lp_iff _ _ _).mp h
  exact (i_Ft_addHolder C n).1 v0R v1I v2I σ r σ' hn
/-! BellPlate$Fit.gatherTrials()V -/
abbrev y_Ft_gatherTrials : MethodName := ⟨"BellPlate$Fit", "gatherTrials", "()V"⟩
theorem k_Ft_gatherTrials : y_Ft_gatherTrials.cls ≠ "java/lang/invoke/MethodHandle" ∧ y_Ft_gatherTrials.cls ≠ "java/lang/invoke/VarHandle" ∧ (parseMethodDescriptor y_Ft_gatherTrials.desc).map (fun d => d.parameters.length) = some 0 := by decide +kernel
theorem d_Ft_gatherTrials_0 : decode prog_5_method_7_code 0 = .ok (.lconst 0, 1) := by decide +kernel
theorem d_Ft_gatherTrials_1 : decode prog_5_method_7_code 1 = .ok (.lstore_n 1, 1) := by decide +kernel
theorem d_Ft_gatherTrials_2 : decode prog_5_method_7_code 2 = .ok (.lconst 0, 1) := by decide +kernel
theorem d_Ft_gatherTrials_3 : decode prog_5_method_7_code 3 = .ok (.lstore_n 3, 1) := by decide +kernel
theorem d_Ft_gatherTrials_4 : decode prog_5_method_7_code 4 = .ok (.aload_n 0, 1) := by decide +kernel
theorem d_Ft_gatherTrials_5 : decode prog_5_method_7_code 5 = .ok (.iconst 0, 1) := by decide +kernel
theorem d_Ft_gatherTrials_6 : decode prog_5_method_7_code 6 = .ok (.putfield 117, 3) := by decide +kernel
theorem d_Ft_gatherTrials_9 : decode prog_5_method_7_code 9 = .ok (.aload_n 0, 1) := by decide +kernel
theorem d_Ft_gatherTrials_10 : decode prog_5_method_7_code 10 = .ok (.getfield 33, 3) := by decide +kernel
theorem d_Ft_gatherTrials_13 : decode prog_5_method_7_code 13 = .ok (.lconst 0, 1) := by decide +kernel
theorem d_Ft_gatherTrials_14 : decode prog_5_method_7_code 14 = .ok (.invokestatic 120, 3) := by decide +kernel
theorem d_Ft_gatherTrials_17 : decode prog_5_method_7_code 17 = .ok (.iconst 0, 1) := by decide +kernel
theorem d_Ft_gatherTrials_18 : decode prog_5_method_7_code 18 = .ok (.istore 5, 2) := by decide +kernel
theorem d_Ft_gatherTrials_20 : decode prog_5_method_7_code 20 = .ok (.iload 5, 2) := by decide +kernel
theorem d_Ft_gatherTrials_22 : decode prog_5_method_7_code 22 = .ok (.aload_n 0, 1) := by decide +kernel
theorem d_Ft_gatherTrials_23 : decode prog_5_method_7_code 23 = .ok (.getfield 15, 3) := by decide +kernel
theorem d_Ft_gatherTrials_26 : decode prog_5_method_7_code 26 = .ok (.invokevirtual 123, 3) := by decide +kernel
theorem d_Ft_gatherTrials_29 : decode prog_5_method_7_code 29 = .ok (.if_icmp .ge 96, 3) := by decide +kernel
theorem d_Ft_gatherTrials_32 : decode prog_5_method_7_code 32 = .ok (.aload_n 0, 1) := by decide +kernel
theorem d_Ft_gatherTrials_33 : decode prog_5_method_7_code 33 = .ok (.getfield 15, 3) := by decide +kernel
theorem d_Ft_gatherTrials_36 : decode prog_5_method_7_code 36 = .ok (.iload 5, 2) := by decide +kernel
theorem d_Ft_gatherTrials_38 : decode prog_5_method_7_code 38 = .ok (.invokevirtual 126, 3) := by decide +kernel
theorem d_Ft_gatherTrials_41 : decode prog_5_method_7_code 41 = .ok (.istore 6, 2) := by decide +kernel
theorem d_Ft_gatherTrials_43 : decode prog_5_method_7_code 43 = .ok (.aload_n 0, 1) := by decide +kernel
theorem d_Ft_gatherTrials_44 : decode prog_5_method_7_code 44 = .ok (.getfield 15, 3) := by decide +kernel
theorem d_Ft_gatherTrials_47 : decode prog_5_method_7_code 47 = .ok (.iload 5, 2) := by decide +kernel
theorem d_Ft_gatherTrials_49 : decode prog_5_method_7_code 49 = .ok (.invokevirtual 130, 3) := by decide +kernel
theorem d_Ft_gatherTrials_52 : decode prog_5_method_7_code 52 = .ok (.ifCond .eq 43, 3) := by decide +kernel
theorem d_Ft_gatherTrials_55 : decode prog_5_method_7_code 55 = .ok (.lload_n 1, 1) := by decide +kernel
theorem d_Ft_gatherTrials_56 : decode prog_5_method_7_code 56 = .ok (.iload 6, 2) := by decide +kernel
theorem d_Ft_gatherTrials_58 : decode prog_5_method_7_code 58 = .ok (.invokestatic 134, 3) := by decide +kernel
theorem d_Ft_gatherTrials_61 : decode prog_5_method_7_code 61 = .ok (.ifCond .ne 24, 3) := by decide +kernel
theorem d_Ft_gatherTrials_64 : decode prog_5_method_7_code 64 = .ok (.aload_n 0, 1) := by decide +kernel
theorem d_Ft_gatherTrials_65 : decode prog_5_method_7_code 65 = .ok (.getfield 39, 3) := by decide +kernel
theorem d_Ft_gatherTrials_68 : decode prog_5_method_7_code 68 = .ok (.aload_n 0, 1) := by decide +kernel
theorem d_Ft_gatherTrials_69 : decode prog_5_method_7_code 69 = .ok (.getfield 117, 3) := by decide +kernel
theorem d_Ft_gatherTrials_72 : decode prog_5_method_7_code 72 = .ok (.iload 5, 2) := by decide +kernel
theorem d_Ft_gatherTrials_74 : decode prog_5_method_7_code 74 = .ok (.iastore, 1) := by decide +kernel
theorem d_Ft_gatherTrials_75 : decode prog_5_method_7_code 75 = .ok (.aload_n 0, 1) := by decide +kernel
theorem d_Ft_gatherTrials_76 : decode prog_5_method_7_code 76 = .ok (.dup, 1) := by decide +kernel
theorem d_Ft_gatherTrials_77 : decode prog_5_method_7_code 77 = .ok (.getfield 117, 3) := by decide +kernel
theorem d_Ft_gatherTrials_80 : decode prog_5_method_7_code 80 = .ok (.iconst 1, 1) := by decide +kernel
theorem d_Ft_gatherTrials_81 : decode prog_5_method_7_code 81 = .ok (.iadd, 1) := by decide +kernel
theorem d_Ft_gatherTrials_82 : decode prog_5_method_7_code 82 = .ok (.putfield 117, 3) := by decide +kernel
theorem d_Ft_gatherTrials_85 : decode prog_5_method_7_code 85 = .ok (.lload_n 1, 1) := by decide +kernel
theorem d_Ft_gatherTrials_86 : decode prog_5_method_7_code 86 = .ok (.lconst 1, 1) := by decide +kernel
theorem d_Ft_gatherTrials_87 : decode prog_5_method_7_code 87 = .ok (.iload 6, 2) := by decide +kernel
theorem d_Ft_gatherTrials_89 : decode prog_5_method_7_code 89 = .ok (.lshl, 1) := by decide +kernel
theorem d_Ft_gatherTrials_90 : decode prog_5_method_7_code 90 = .ok (.lor, 1) := by decide +kernel
theorem d_Ft_gatherTrials_91 : decode prog_5_method_7_code 91 = .ok (.lstore_n 1, 1) := by decide +kernel
theorem d_Ft_gatherTrials_92 : decode prog_5_method_7_code 92 = .ok (.goto 27, 3) := by decide +kernel
theorem d_Ft_gatherTrials_95 : decode prog_5_method_7_code 95 = .ok (.lload_n 3, 1) := by decide +kernel
theorem d_Ft_gatherTrials_96 : decode prog_5_method_7_code 96 = .ok (.iload 6, 2) := by decide +kernel
theorem d_Ft_gatherTrials_98 : decode prog_5_method_7_code 98 = .ok (.invokestatic 134, 3) := by decide +kernel
theorem d_Ft_gatherTrials_101 : decode prog_5_method_7_code 101 = .ok (.ifCond .ne 11, 3) := by decide +kernel
theorem d_Ft_gatherTrials_104 : decode prog_5_method_7_code 104 = .ok (.aload_n 0, 1) := by decide +kernel
theorem d_Ft_gatherTrials_105 : decode prog_5_method_7_code 105 = .ok (.iload 6, 2) := by decide +kernel
theorem d_Ft_gatherTrials_107 : decode prog_5_method_7_code 107 = .ok (.iload 5, 2) := by decide +kernel
theorem d_Ft_gatherTrials_109 : decode prog_5_method_7_code 109 = .ok (.invokevirtual 138, 3) := by decide +kernel
theorem d_Ft_gatherTrials_112 : decode prog_5_method_7_code 112 = .ok (.lload_n 3, 1) := by decide +kernel
theorem d_Ft_gatherTrials_113 : decode prog_5_method_7_code 113 = .ok (.lconst 1, 1) := by decide +kernel
theorem d_Ft_gatherTrials_114 : decode prog_5_method_7_code 114 = .ok (.iload 6, 2) := by decide +kernel
theorem d_Ft_gatherTrials_116 : decode prog_5_method_7_code 116 = .ok (.lshl, 1) := by decide +kernel
theorem d_Ft_gatherTrials_117 : decode prog_5_method_7_code 117 = .ok (.lor, 1) := by decide +kernel
theorem d_Ft_gatherTrials_118 : decode prog_5_method_7_code 118 = .ok (.lstore_n 3, 1) := by decide +kernel
theorem d_Ft_gatherTrials_119 : decode prog_5_method_7_code 119 = .ok (.iinc 5 1, 3) := by decide +kernel
theorem d_Ft_gatherTrials_122 : decode prog_5_method_7_code 122 = .ok (.goto (-102), 3) := by decide +kernel
theorem d_Ft_gatherTrials_125 : decode prog_5_method_7_code 125 = .ok (.return_, 1) := by decide +kernel
abbrev S_Ft_gatherTrials : Type := Nat × Nat × Int64 × Int64 × Int32 × Int32 × AM
noncomputable def T_Ft_gatherTrials_0 (v0R : Nat) (σ : AM) : S_Ft_gatherTrials ⊕ Option (Unit × AM) :=
  gdT (okO σ v0R 8) <| letT (sI σ v0R 14 (0 : Int32)) fun σ2 => gdT (okO σ2 (aR σ2 v0R 11) 102) <| bndT (M_JArr_fill (aR σ2 v0R 11) (0 : Int64) σ2) fun _ σ6 => .inl (1, v0R, (0 : Int64), (0 : Int64), (0 : Int32), 0, σ6)
noncomputable def T_Ft_gatherTrials_1 (v0R : Nat) (v1J : Int64) (v3J : Int64) (v5I : Int32) (σ : AM) : S_Ft_gatherTrials ⊕ Option (Unit × AM) :=
  gdT (okO σ v0R 8) <| gdT (okO σ (aR σ v0R 1) 4) <| bndT (M_Bk_trials (aR σ v0R 1) σ) fun r3 σ4 => if v5I < r3 then (gdT (okO σ4 v0R 8) <| gdT (okO σ4 (aR σ4 v0R 1) 4) <| bndT (M_Bk_setAt (aR σ4 v0R 1) v5I σ4) fun r7 σ8 => gdT (okO σ8 v0R 8) <| gdT (okO σ8 (aR σ8 v0R 1) 4) <| bndT (M_Bk_rangAt (aR σ8 v0R 1) v5I σ8) fun r11 σ12 => if r11 = 0 then (bndT (M_St_has v3J r7 σ12) fun r13 σ14 => if r13 = 0 then (gdT (okO σ14 v0R 8) <| bndT (M_Ft_addHolder v0R r7 v5I σ14) fun _ σ16 => .inl (3, v0R, v1J, v3J, v5I, r7, σ16)) else (.inl (3, v0R, v1J, v3J, v5I, r7, σ14))) else (bndT (M_St_has v1J r7 σ12) fun r18 σ19 => if r18 = 0 then (gdT (okO σ19 v0R 8) <| gdT (okO σ19 (aR σ19 v0R 12) 101) <| gdT (inB (aI σ19 v0R 14) (aN σ19 (aR σ19 v0R 12))) <| letT (sI σ19 (aR σ19 v0R 12) (aI σ19 v0R 14).toNatClampNeg v5I) fun σ23 => letT (sI σ23 v0R 14 ((aI σ23 v0R 14) + (1 : Int32))) fun σ25 => .inl (2, v0R, v1J, v3J, v5I, r7, σ25)) else (.inl (2, v0R, v1J, v3J, v5I, r7, σ19)))) else (.inr (some ((), σ4)))
noncomputable def T_Ft_gatherTrials_2 (v0R : Nat) (v1J : Int64) (v3J : Int64) (v5I : Int32) (v6I : Int32) (σ : AM) : S_Ft_gatherTrials ⊕ Option (Unit × AM) :=
  letT (v1J ||| ((1 : Int64) <<< (v6I.toInt64 &&& 63))) fun x1 => .inl (4, v0R, x1, v3J, v5I, 0, σ)
noncomputable def T_Ft_gatherTrials_3 (v0R : Nat) (v1J : Int64) (v3J : Int64) (v5I : Int32) (v6I : Int32) (σ : AM) : S_Ft_gatherTrials ⊕ Option (Unit × AM) :=
  letT (v3J ||| ((1 : Int64) <<< (v6I.toInt64 &&& 63))) fun x1 => .inl (4, v0R, v1J, x1, v5I, 0, σ)
noncomputable def T_Ft_gatherTrials_4 (v0R : Nat) (v1J : Int64) (v3J : Int64) (v5I : Int32) (σ : AM) : S_Ft_gatherTrials ⊕ Option (Unit × AM) :=
  .inl (1, v0R, v1J, v3J, v5I + (1 : Int32), 0, σ)
noncomputable def F_Ft_gatherTrials : S_Ft_gatherTrials → S_Ft_gatherTrials ⊕ Option (Unit × AM) := fun s => match s.1 with
  | 0 => T_Ft_gatherTrials_0 (s.2.1) (s.2.2.2.2.2.2)
  | 1 => T_Ft_gatherTrials_1 (s.2.1) (s.2.2.1) (s.2.2.2.1) (s.2.2.2.2.1) (s.2.2.2.2.2.2)
  | 2 => T_Ft_gatherTrials_2 (s.2.1) (s.2.2.1) (s.2.2.2.1) (s.2.2.2.2.1) (s.2.2.2.2.2.1) (s.2.2.2.2.2.2)
  | 3 => T_Ft_gatherTrials_3 (s.2.1) (s.2.2.1) (s.2.2.2.1) (s.2.2.2.2.1) (s.2.2.2.2.2.1) (s.2.2.2.2.2.2)
  | _ => T_Ft_gatherTrials_4 (s.2.1) (s.2.2.1) (s.2.2.2.1) (s.2.2.2.2.1) (s.2.2.2.2.2.2)
noncomputable def L_Ft_gatherTrials_0 (v0R : Nat) (σ : AM) : Option (Unit × AM) := lp F_Ft_gatherTrials (0, v0R, 0, 0, 0, 0, σ)
noncomputable def L_Ft_gatherTrials_1 (v0R : Nat) (v1J : Int64) (v3J : Int64) (v5I : Int32) (σ : AM) : Option (Unit × AM) := lp F_Ft_gatherTrials (1, v0R, v1J, v3J, v5I, 0, σ)
noncomputable def L_Ft_gatherTrials_2 (v0R : Nat) (v1J : Int64) (v3J : Int64) (v5I : Int32) (v6I : Int32) (σ : AM) : Option (Unit × AM) := lp F_Ft_gatherTrials (2, v0R, v1J, v3J, v5I, v6I, σ)
noncomputable def L_Ft_gatherTrials_3 (v0R : Nat) (v1J : Int64) (v3J : Int64) (v5I : Int32) (v6I : Int32) (σ : AM) : Option (Unit × AM) := lp F_Ft_gatherTrials (3, v0R, v1J, v3J, v5I, v6I, σ)
noncomputable def L_Ft_gatherTrials_4 (v0R : Nat) (v1J : Int64) (v3J : Int64) (v5I : Int32) (σ : AM) : Option (Unit × AM) := lp F_Ft_gatherTrials (4, v0R, v1J, v3J, v5I, 0, σ)
set_option maxRecDepth 20000 in
theorem E_Ft_gatherTrials_0 (v0R : Nat) (σ : AM) : L_Ft_gatherTrials_0 v0R σ = (gd (okO σ v0R 8) <| letT (sI σ v0R 14 (0 : Int32)) fun σ2 => gd (okO σ2 (aR σ2 v0R 11) 102) <| bnd (M_JArr_fill (aR σ2 v0R 11) (0 : Int64) σ2) fun _ σ6 => L_Ft_gatherTrials_1 v0R ((0 : Int64)) ((0 : Int64)) ((0 : Int32)) σ6) := by
  unfold L_Ft_gatherTrials_0
  rw [lp_eq]
  show lpK (lp F_Ft_gatherTrials) (T_Ft_gatherTrials_0 v0R σ) = _
  unfold T_Ft_gatherTrials_0
  simp only [lpK_ite, lq_inl, lq_inr, lpK_bnd, lpK_gd, lq_let]
  try rfl
set_option maxRecDepth 20000 in
theorem E_Ft_gatherTrials_1 (v0R : Nat) (v1J : Int64) (v3J : Int64) (v5I : Int32) (σ : AM) : L_Ft_gatherTrials_1 v0R v1J v3J v5I σ = (gd (okO σ v0R 8) <| gd (okO σ (aR σ v0R 1) 4) <| bnd (M_Bk_trials (aR σ v0R 1) σ) fun r3 σ4 => if v5I < r3 then (gd (okO σ4 v0R 8) <| gd (okO σ4 (aR σ4 v0R 1) 4) <| bnd (M_Bk_setAt (aR σ4 v0R 1) v5I σ4) fun r7 σ8 => gd (okO σ8 v0R 8) <| gd (okO σ8 (aR σ8 v0R 1) 4) <| bnd (M_Bk_rangAt (aR σ8 v0R 1) v5I σ8) fun r11 σ12 => if r11 = 0 then (bnd (M_St_has v3J r7 σ12) fun r13 σ14 => if r13 = 0 then (gd (okO σ14 v0R 8) <| bnd (M_Ft_addHolder v0R r7 v5I σ14) fun _ σ16 => L_Ft_gatherTrials_3 v0R v1J v3J v5I r7 σ16) else (L_Ft_gatherTrials_3 v0R v1J v3J v5I r7 σ14)) else (bnd (M_St_has v1J r7 σ12) fun r18 σ19 => if r18 = 0 then (gd (okO σ19 v0R 8) <| gd (okO σ19 (aR σ19 v0R 12) 101) <| gd (inB (aI σ19 v0R 14) (aN σ19 (aR σ19 v0R 12))) <| letT (sI σ19 (aR σ19 v0R 12) (aI σ19 v0R 14).toNatClampNeg v5I) fun σ23 => letT (sI σ23 v0R 14 ((aI σ23 v0R 14) + (1 : Int32))) fun σ25 => L_Ft_gatherTrials_2 v0R v1J v3J v5I r7 σ25) else (L_Ft_gatherTrials_2 v0R v1J v3J v5I r7 σ19))) else ((some ((), σ4)))) := by
  unfold L_Ft_gatherTrials_1
  rw [lp_eq]
  show lpK (lp F_Ft_gatherTrials) (T_Ft_gatherTrials_1 v0R v1J v3J v5I σ) = _
  unfold T_Ft_gatherTrials_1
  simp only [lpK_ite, lq_inl, lq_inr, lpK_bnd, lpK_gd, lq_let]
  try rfl
set_option maxRecDepth 20000 in
theorem E_Ft_gatherTrials_2 (v0R : Nat) (v1J : Int64) (v3J : Int64) (v5I : Int32) (v6I : Int32) (σ : AM) : L_Ft_gatherTrials_2 v0R v1J v3J v5I v6I σ = (letT (v1J ||| ((1 : Int64) <<< (v6I.toInt64 &&& 63))) fun x1 => L_Ft_gatherTrials_4 v0R x1 v3J v5I σ) := by
  unfold L_Ft_gatherTrials_2
  rw [lp_eq]
  show lpK (lp F_Ft_gatherTrials) (T_Ft_gatherTrials_2 v0R v1J v3J v5I v6I σ) = _
  unfold T_Ft_gatherTrials_2
  simp only [lpK_ite, lq_inl, lq_inr, lpK_bnd, lpK_gd, lq_let]
  try rfl
set_option maxRecDepth 20000 in
theorem E_Ft_gatherTrials_3 (v0R : Nat) (v1J : Int64) (v3J : Int64) (v5I : Int32) (v6I : Int32) (σ : AM) : L_Ft_gatherTrials_3 v0R v1J v3J v5I v6I σ = (letT (v3J ||| ((1 : Int64) <<< (v6I.toInt64 &&& 63))) fun x1 => L_Ft_gatherTrials_4 v0R v1J x1 v5I σ) := by
  unfold L_Ft_gatherTrials_3
  rw [lp_eq]
  show lpK (lp F_Ft_gatherTrials) (T_Ft_gatherTrials_3 v0R v1J v3J v5I v6I σ) = _
  unfold T_Ft_gatherTrials_3
  simp only [lpK_ite, lq_inl, lq_inr, lpK_bnd, lpK_gd, lq_let]
  try rfl
set_option maxRecDepth 20000 in
theorem E_Ft_gatherTrials_4 (v0R : Nat) (v1J : Int64) (v3J : Int64) (v5I : Int32) (σ : AM) : L_Ft_gatherTrials_4 v0R v1J v3J v5I σ = (L_Ft_gatherTrials_1 v0R v1J v3J (v5I + (1 : Int32)) σ) := by
  unfold L_Ft_gatherTrials_4
  rw [lp_eq]
  show lpK (lp F_Ft_gatherTrials) (T_Ft_gatherTrials_4 v0R v1J v3J v5I σ) = _
  unfold T_Ft_gatherTrials_4
  simp only [lpK_ite, lq_inl, lq_inr, lpK_bnd, lpK_gd, lq_let]
  try rfl
noncomputable def M_Ft_gatherTrials (v0R : Nat) (σ : AM) : Option (Unit × AM) := mw σ (L_Ft_gatherTrials_0 v0R σ)
def I_Ft_gatherTrials (G : GX) (p : Program) (l : Launch) (e : Env) (s : State) (m : MethodId) (args : Array Value) (below : List Frame) (meth : Method) (c : Code) (z0 u0 n : Nat) : Prop :=
  (∀ (v0R : Nat) (σ : AM), VX (QM eV G args s below z0 u0) G p l e s m args below meth c 2 z0 u0 7 (lpn F_Ft_gatherTrials n (0, v0R, 0, 0, 0, 0, σ)) 0 [(0, .ref v0R)] [] σ) ∧
  (∀ (v0R : Nat) (v1J : Int64) (v3J : Int64) (v5I : Int32) (σ : AM), VX (QM eV G args s below z0 u0) G p l e s m args below meth c 2 z0 u0 7 (lpn F_Ft_gatherTrials n (1, v0R, v1J, v3J, v5I, 0, σ)) 20 [(0, .ref v0R), (1, .long v1J), (3, .long v3J), (5, .int v5I)] [] σ) ∧
  (∀ (v0R : Nat) (v1J : Int64) (v3J : Int64) (v5I : Int32) (v6I : Int32) (σ : AM), VX (QM eV G args s below z0 u0) G p l e s m args below meth c 2 z0 u0 7 (lpn F_Ft_gatherTrials n (2, v0R, v1J, v3J, v5I, v6I, σ)) 85 [(0, .ref v0R), (1, .long v1J), (3, .long v3J), (5, .int v5I), (6, .int v6I)] [] σ) ∧
  (∀ (v0R : Nat) (v1J : Int64) (v3J : Int64) (v5I : Int32) (v6I : Int32) (σ : AM), VX (QM eV G args s below z0 u0) G p l e s m args below meth c 2 z0 u0 7 (lpn F_Ft_gatherTrials n (3, v0R, v1J, v3J, v5I, v6I, σ)) 112 [(0, .ref v0R), (1, .long v1J), (3, .long v3J), (5, .int v5I), (6, .int v6I)] [] σ) ∧
  (∀ (v0R : Nat) (v1J : Int64) (v3J : Int64) (v5I : Int32) (σ : AM), VX (QM eV G args s below z0 u0) G p l e s m args below meth c 2 z0 u0 7 (lpn F_Ft_gatherTrials n (4, v0R, v1J, v3J, v5I, 0, σ)) 119 [(0, .ref v0R), (1, .long v1J), (3, .long v3J), (5, .int v5I)] [] σ)
set_option maxRecDepth 20000 in
theorem s_Ft_gatherTrials_0 {G : GX} {p : Program} {l : Launch} {e : Env} {s : State} {m : MethodId} {args : Array Value} {below : List Frame} {meth : Method} {c : Code} {z0 u0 n : Nat} (C : Cx G p s m args meth c prog_5_method_7_code 7 "BellPlate$Fit" ((none))) (IH : I_Ft_gatherTrials G p l e s m args below meth c z0 u0 n) (v0R : Nat) (σ : AM) : VX (QM eV G args s below z0 u0) G p l e s m args below meth c 2 z0 u0 7 (lpK (lpn F_Ft_gatherTrials n) (T_Ft_gatherTrials_0 v0R σ)) 0 [(0, .ref v0R)] [] σ := by
  unfold T_Ft_gatherTrials_0
  refine x_lconst (v := (0 : Int64)) C d_Ft_gatherTrials_0 (by decide) ?_
  refine x_lstore_n (lv' := [(1, .long (0 : Int64)), (0, .ref v0R)]) C d_Ft_gatherTrials_1 (by decide) rfl rfl ?_
  refine x_lconst (v := (0 : Int64)) C d_Ft_gatherTrials_2 (by decide) ?_
  refine x_lstore_n (lv' := [(3, .long (0 : Int64)), (1, .long (0 : Int64)), (0, .ref v0R)]) C d_Ft_gatherTrials_3 (by decide) rfl rfl ?_
  refine x_aload_n C d_Ft_gatherTrials_4 2 rfl ?_
  refine x_iconst (v := (0 : Int32)) C d_Ft_gatherTrials_5 (by decide) ?_
  refine x_gd (fun h1 => ?_)
  refine x_putI (k := 14) C (okO_iff.mp h1) rfl j7_ok y7_ok n7_ok (by decide) rfl rfl rfl rfl w495 d_Ft_gatherTrials_6 ?_
  refine x_letS (fun σ2 e3 => ?_)
  refine x_aload_n C d_Ft_gatherTrials_9 2 rfl ?_
  refine x_gd (fun h4 => ?_)
  refine x_getR (k := 11) (kv := 102) C (by first | exact (okO_iff.mp h1) | (rw [e3]; exact (okO_iff.mp h1))) rfl j7_ok (by decide) rfl (okO_iff.mp h4) (by decide) w492 d_Ft_gatherTrials_10 ?_
  refine x_lconst (v := (0 : Int64)) C d_Ft_gatherTrials_13 (by decide) ?_
  refine x_callSV (As := [.ref (aR σ2 v0R 11), .long (0 : Int64)]) C (c_JArr_fill G l (aR σ2 v0R 11) (0 : Int64) σ2) w1160 w1365 w1161 w127 k_JArr_fill rfl (by decide) (by decide) rfl (Nat.le_of_ble_eq_true rfl) d_Ft_gatherTrials_14 (fun r5 σ6 => ?_)
  refine x_iconst (v := (0 : Int32)) C d_Ft_gatherTrials_17 (by decide) ?_
  refine x_istore (lv' := [(5, .int (0 : Int32)), (3, .long (0 : Int64)), (1, .long (0 : Int64)), (0, .ref v0R)]) C d_Ft_gatherTrials_18 (by decide) rfl ?_
  refine x_lv [3, 2, 1, 0] rfl ?_
  exact IH.2.1 v0R ((0 : Int64)) ((0 : Int64)) ((0 : Int32)) (σ6)
set_option maxRecDepth 20000 in
theorem s_Ft_gatherTrials_1 {G : GX} {p : Program} {l : Launch} {e : Env} {s : State} {m : MethodId} {args : Array Value} {below : List Frame} {meth : Method} {c : Code} {z0 u0 n : Nat} (C : Cx G p s m args meth c prog_5_method_7_code 7 "BellPlate$Fit" ((none))) (IH : I_Ft_gatherTrials G p l e s m args below meth c z0 u0 n) (v0R : Nat) (v1J : Int64) (v3J : Int64) (v5I : Int32) (σ : AM) : VX (QM eV G args s below z0 u0) G p l e s m args below meth c 2 z0 u0 7 (lpK (lpn F_Ft_gatherTrials n) (T_Ft_gatherTrials_1 v0R v1J v3J v5I σ)) 20 [(0, .ref v0R), (1, .long v1J), (3, .long v3J), (5, .int v5I)] [] σ := by
  unfold T_Ft_gatherTrials_1
  refine x_iload C d_Ft_gatherTrials_20 3 rfl ?_
  refine x_aload_n C d_Ft_gatherTrials_22 0 rfl ?_
  refine x_gd (fun h1 => ?_)
  refine x_gd (fun h2 => ?_)
  refine x_getR (k := 1) (kv := 4) C (okO_iff.mp h1) rfl j7_ok (by decide) rfl (okO_iff.mp h2) (by decide) w482 d_Ft_gatherTrials_23 ?_
  refine x_callVI (As := []) C (c_Bk_trials G l (aR σ v0R 1)  σ) (okO_iff.mp h2) rfl w1367 w1368 w1366 w1369 w124 k_Bk_trials rfl (by decide) (by decide) rfl (Nat.le_of_ble_eq_true rfl) d_Ft_gatherTrials_26 (fun r3 σ4 => ?_)
  refine x_icmp_ge (tgt := 125) C d_Ft_gatherTrials_29 (by decide) (fun _ => ?_) (fun _ => ?_)
  · refine x_aload_n C d_Ft_gatherTrials_32 0 rfl ?_
    refine x_gd (fun h5 => ?_)
    refine x_gd (fun h6 => ?_)
    refine x_getR (k := 1) (kv := 4) C (okO_iff.mp h5) rfl j7_ok (by decide) rfl (okO_iff.mp h6) (by decide) w482 d_Ft_gatherTrials_33 ?_
    refine x_iload C d_Ft_gatherTrials_36 3 rfl ?_
    refine x_callVI (As := [.int v5I]) C (c_Bk_setAt G l (aR σ4 v0R 1) v5I σ4) (okO_iff.mp h6) rfl w1371 w1372 w1370 w1373 w124 k_Bk_setAt rfl (by decide) (by decide) rfl (Nat.le_of_ble_eq_true rfl) d_Ft_gatherTrials_38 (fun r7 σ8 => ?_)
    refine x_istore (lv' := [(6, .int r7), (0, .ref v0R), (1, .long v1J), (3, .long v3J), (5, .int v5I)]) C d_Ft_gatherTrials_41 (by decide) rfl ?_
    refine x_aload_n C d_Ft_gatherTrials_43 1 rfl ?_
    refine x_gd (fun h9 => ?_)
    refine x_gd (fun h10 => ?_)
    refine x_getR (k := 1) (kv := 4) C (okO_iff.mp h9) rfl j7_ok (by decide) rfl (okO_iff.mp h10) (by decide) w482 d_Ft_gatherTrials_44 ?_
    refine x_iload C d_Ft_gatherTrials_47 4 rfl ?_
    refine x_callVI (As := [.int v5I]) C (c_Bk_rangAt G l (aR σ8 v0R 1) v5I σ8) (okO_iff.mp h10) rfl w1379 w1380 w1378 w1381 w124 k_Bk_rangAt rfl (by decide) (by decide) rfl (Nat.le_of_ble_eq_true rfl) d_Ft_gatherTrials_49 (fun r11 σ12 => ?_)
    refine x_if_eq (tgt := 95) C d_Ft_gatherTrials_52 (by decide) (fun _ => ?_) (fun _ => ?_)
    · refine x_lload_n C d_Ft_gatherTrials_95 3 rfl ?_
      refine x_iload C d_Ft_gatherTrials_96 0 rfl ?_
      refine x_callSI (As := [.long v3J, .int r7]) C (c_St_has G l v3J r7 σ12) w1101 w1382 w1102 w141 k_St_has rfl (by decide) (by decide) rfl (Nat.le_of_ble_eq_true rfl) d_Ft_gatherTrials_98 (fun r13 σ14 => ?_)
      refine x_if_ne (tgt := 112) C d_Ft_gatherTrials_101 (by decide) (fun _ => ?_) (fun _ => ?_)
      · refine x_aload_n C d_Ft_gatherTrials_104 1 rfl ?_
        refine x_iload C d_Ft_gatherTrials_105 0 rfl ?_
        refine x_iload C d_Ft_gatherTrials_107 4 rfl ?_
        refine x_gd (fun h17 => ?_)
        refine x_callVV (As := [.int r7, .int v5I]) C (c_Ft_addHolder G l v0R r7 v5I σ14) (okO_iff.mp h17) rfl w1385 w42 w1383 w1386 w129 k_Ft_addHolder rfl (by decide) (by decide) rfl (Nat.le_of_ble_eq_true rfl) d_Ft_gatherTrials_109 (fun r15 σ16 => ?_)
        refine x_lv [1, 2, 3, 4, 0] rfl ?_
        exact IH.2.2.2.1 v0R v1J v3J v5I r7 (σ16)
      · refine x_lv [1, 2, 3, 4, 0] rfl ?_
        exact IH.2.2.2.1 v0R v1J v3J v5I r7 (σ14)
    · refine x_lload_n C d_Ft_gatherTrials_55 2 rfl ?_
      refine x_iload C d_Ft_gatherTrials_56 0 rfl ?_
      refine x_callSI (As := [.long v1J, .int r7]) C (c_St_has G l v1J r7 σ12) w1101 w1382 w1102 w141 k_St_has rfl (by decide) (by decide) rfl (Nat.le_of_ble_eq_true rfl) d_Ft_gatherTrials_58 (fun r18 σ19 => ?_)
      refine x_if_ne (tgt := 85) C d_Ft_gatherTrials_61 (by decide) (fun _ => ?_) (fun _ => ?_)
      · refine x_aload_n C d_Ft_gatherTrials_64 1 rfl ?_
        refine x_gd (fun h20 => ?_)
        refine x_gd (fun h21 => ?_)
        refine x_getR (k := 12) (kv := 101) C (okO_iff.mp h20) rfl j7_ok (by decide) rfl (okO_iff.mp h21) (by decide) w493 d_Ft_gatherTrials_65 ?_
        refine x_aload_n C d_Ft_gatherTrials_68 1 rfl ?_
        refine x_getI (k := 14) C (okO_iff.mp h20) rfl j7_ok (by decide) rfl w495 d_Ft_gatherTrials_69 ?_
        refine x_iload C d_Ft_gatherTrials_72 4 rfl ?_
        refine x_gd (fun h22 => ?_)
        refine x_astI C (okO_iff.mp h21) (inB_iff.mp h22) d_Ft_gatherTrials_74 ?_
        refine x_letS (fun σ23 e24 => ?_)
        refine x_aload_n C d_Ft_gatherTrials_75 1 rfl ?_
        refine x_dup C d_Ft_gatherTrials_76 rfl ?_
        refine x_getI (k := 14) C (by first | exact (okO_iff.mp h20) | (rw [e24]; exact (okO_iff.mp h20))) rfl j7_ok (by decide) rfl w495 d_Ft_gatherTrials_77 ?_
        refine x_iconst (v := (1 : Int32)) C d_Ft_gatherTrials_80 (by decide) ?_
        refine x_iadd C d_Ft_gatherTrials_81 ?_
        refine x_putI (k := 14) C (by first | exact (okO_iff.mp h20) | (rw [e24]; exact (okO_iff.mp h20))) rfl j7_ok y7_ok n7_ok (by decide) rfl rfl rfl rfl w495 d_Ft_gatherTrials_82 ?_
        refine x_letS (fun σ25 e26 => ?_)
        refine x_lv [1, 2, 3, 4, 0] rfl ?_
        exact IH.2.2.1 v0R v1J v3J v5I r7 (σ25)
      · refine x_lv [1, 2, 3, 4, 0] rfl ?_
        exact IH.2.2.1 v0R v1J v3J v5I r7 (σ19)
  · exact x_vret C d_Ft_gatherTrials_125
set_option maxRecDepth 20000 in
theorem s_Ft_gatherTrials_2 {G : GX} {p : Program} {l : Launch} {e : Env} {s : State} {m : MethodId} {args : Array Value} {below : List Frame} {meth : Method} {c : Code} {z0 u0 n : Nat} (C : Cx G p s m args meth c prog_5_method_7_code 7 "BellPlate$Fit" ((none))) (IH : I_Ft_gatherTrials G p l e s m args below meth c z0 u0 n) (v0R : Nat) (v1J : Int64) (v3J : Int64) (v5I : Int32) (v6I : Int32) (σ : AM) : VX (QM eV G args s below z0 u0) G p l e s m args below meth c 2 z0 u0 7 (lpK (lpn F_Ft_gatherTrials n) (T_Ft_gatherTrials_2 v0R v1J v3J v5I v6I σ)) 85 [(0, .ref v0R), (1, .long v1J), (3, .long v3J), (5, .int v5I), (6, .int v6I)] [] σ := by
  unfold T_Ft_gatherTrials_2
  refine x_lload_n C d_Ft_gatherTrials_85 1 rfl ?_
  refine x_lconst (v := (1 : Int64)) C d_Ft_gatherTrials_86 (by decide) ?_
  refine x_iload C d_Ft_gatherTrials_87 4 rfl ?_
  refine x_lshl C d_Ft_gatherTrials_89 ?_
  refine x_lor C d_Ft_gatherTrials_90 ?_
  refine x_letJ (fun x1 _ => ?_)
  refine x_lstore_n (lv' := [(1, .long x1), (0, .ref v0R), (3, .long v3J), (5, .int v5I), (6, .int v6I)]) C d_Ft_gatherTrials_91 (by decide) rfl rfl ?_
  refine x_goto (tgt := 119) C d_Ft_gatherTrials_92 (by decide) ?_
  refine x_lv [1, 0, 2, 3] rfl ?_
  exact IH.2.2.2.2 v0R x1 v3J v5I (σ)
set_option maxRecDepth 20000 in
theorem s_Ft_gatherTrials_3 {G : GX} {p : Program} {l : Launch} {e : Env} {s : State} {m : MethodId} {args : Array Value} {below : List Frame} {meth : Method} {c : Code} {z0 u0 n : Nat} (C : Cx G p s m args meth c prog_5_method_7_code 7 "BellPlate$Fit" ((none))) (IH : I_Ft_gatherTrials G p l e s m args below meth c z0 u0 n) (v0R : Nat) (v1J : Int64) (v3J : Int64) (v5I : Int32) (v6I : Int32) (σ : AM) : VX (QM eV G args s below z0 u0) G p l e s m args below meth c 2 z0 u0 7 (lpK (lpn F_Ft_gatherTrials n) (T_Ft_gatherTrials_3 v0R v1J v3J v5I v6I σ)) 112 [(0, .ref v0R), (1, .long v1J), (3, .long v3J), (5, .int v5I), (6, .int v6I)] [] σ := by
  unfold T_Ft_gatherTrials_3
  refine x_lload_n C d_Ft_gatherTrials_112 2 rfl ?_
  refine x_lconst (v := (1 : Int64)) C d_Ft_gatherTrials_113 (by decide) ?_
  refine x_iload C d_Ft_gatherTrials_114 4 rfl ?_
  refine x_lshl C d_Ft_gatherTrials_116 ?_
  refine x_lor C d_Ft_gatherTrials_117 ?_
  refine x_letJ (fun x1 _ => ?_)
  refine x_lstore_n (lv' := [(3, .long x1), (0, .ref v0R), (1, .long v1J), (5, .int v5I), (6, .int v6I)]) C d_Ft_gatherTrials_118 (by decide) rfl rfl ?_
  refine x_lv [1, 2, 0, 3] rfl ?_
  exact IH.2.2.2.2 v0R v1J x1 v5I (σ)
set_option maxRecDepth 20000 in
theorem s_Ft_gatherTrials_4 {G : GX} {p : Program} {l : Launch} {e : Env} {s : State} {m : MethodId} {args : Array Value} {below : List Frame} {meth : Method} {c : Code} {z0 u0 n : Nat} (C : Cx G p s m args meth c prog_5_method_7_code 7 "BellPlate$Fit" ((none))) (IH : I_Ft_gatherTrials G p l e s m args below meth c z0 u0 n) (v0R : Nat) (v1J : Int64) (v3J : Int64) (v5I : Int32) (σ : AM) : VX (QM eV G args s below z0 u0) G p l e s m args below meth c 2 z0 u0 7 (lpK (lpn F_Ft_gatherTrials n) (T_Ft_gatherTrials_4 v0R v1J v3J v5I σ)) 119 [(0, .ref v0R), (1, .long v1J), (3, .long v3J), (5, .int v5I)] [] σ := by
  unfold T_Ft_gatherTrials_4
  refine x_iinc (v := v5I + (1 : Int32)) (lv' := [(5, .int (v5I + (1 : Int32))), (0, .ref v0R), (1, .long v1J), (3, .long v3J)]) C d_Ft_gatherTrials_119 3 rfl rfl (by decide) rfl ?_
  refine x_goto (tgt := 20) C d_Ft_gatherTrials_122 (by decide) ?_
  refine x_lv [1, 2, 3, 0] rfl ?_
  exact IH.2.1 v0R v1J v3J (v5I + (1 : Int32)) (σ)
theorem i_Ft_gatherTrials {G : GX} {p : Program} {l : Launch} {e : Env} {s : State} {m : MethodId} {args : Array Value} {below : List Frame} {meth : Method} {c : Code} {z0 u0 : Nat} (C : Cx G p s m args meth c prog_5_method_7_code 7 "BellPlate$Fit" ((none))) (n : Nat) : I_Ft_gatherTrials G p l e s m args below meth c z0 u0 n := by
  induction n with
  | zero => exact ⟨fun _ _ => x_none, fun _ _ _ _ _ => x_none, fun _ _ _ _ _ _ => x_none, fun _ _ _ _ _ _ => x_none, fun _ _ _ _ _ => x_none⟩
  | succ n IH => exact ⟨fun v0R σ => s_Ft_gatherTrials_0 C IH v0R σ, fun v0R v1J v3J v5I σ => s_Ft_gatherTrials_1 C IH v0R v1J v3J v5I σ, fun v0R v1J v3J v5I v6I σ => s_Ft_gatherTrials_2 C IH v0R v1J v3J v5I v6I σ, fun v0R v1J v3J v5I v6I σ => s_Ft_gatherTrials_3 C IH v0R v1J v3J v5I v6I σ, fun v0R v1J v3J v5I σ => s_Ft_gatherTrials_4 C IH v0R v1J v3J v5I σ⟩
theorem c_Ft_gatherTrials (G : GX) (l : Launch) (v0R : Nat) (σ : AM) : CT eV G l 2 y_Ft_gatherTrials prog_5_method_7_code 7 (none) [.ref v0R] σ (M_Ft_gatherTrials v0R σ) := by
  refine ct_of (by decide +kernel) (Nat.le_of_ble_eq_true rfl) (fun p e s m args below meth c C hin => ?_)
  refine x_lve (lv' := [(0, .ref v0R)]) rfl ?_
  intro r σ' h
  obtain ⟨n, hn⟩ := (lp_iff _ _ _).mp h
  exact (i_Ft_gatherTrials C n).1 v0R σ r σ' hn
abbrev GT_Ft_chooseSilent : Type := (Nat → Int32 → Int32 → Int32 → Int32 → Int32 → Int32 → AM → Option (Int32 × AM))
/-! BellPlate$Fit.chooseSilent(IIIIII)Z -/
abbrev y_Ft_chooseSilent : MethodName := ⟨"BellPlate$Fit", "chooseSilent", "(IIIIII)Z"⟩
theorem k_Ft_chooseSilent : y_Ft_chooseSilent.cls ≠ "java/lang/invoke/MethodHandle" ∧ y_Ft_chooseSilent.cls ≠ "java/lang/invoke/VarHandle" ∧ (parseMethodDescriptor y_Ft_chooseSilent.desc).map (fun d => d.parameters.length) = some 6 := by decide +kernel
theorem d_Ft_chooseSilent_0 : decode prog_5_method_10_code 0 = .ok (.iload_n 2, 1) := by decide +kernel
theorem d_Ft_chooseSilent_1 : decode prog_5_method_10_code 1 = .ok (.ifCond .gt 5, 3) := by decide +kernel
theorem d_Ft_chooseSilent_4 : decode prog_5_method_10_code 4 = .ok (.iconst 1, 1) := by decide +kernel
theorem d_Ft_chooseSilent_5 : decode prog_5_method_10_code 5 = .ok (.ireturn, 1) := by decide +kernel
theorem d_Ft_chooseSilent_6 : decode prog_5_method_10_code 6 = .ok (.iload_n 2, 1) := by decide +kernel
theorem d_Ft_chooseSilent_7 : decode prog_5_method_10_code 7 = .ok (.iconst 1, 1) := by decide +kernel
theorem d_Ft_chooseSilent_8 : decode prog_5_method_10_code 8 = .ok (.if_icmp .ne 8, 3) := by decide +kernel
theorem d_Ft_chooseSilent_11 : decode prog_5_method_10_code 11 = .ok (.iload 4, 2) := by decide +kernel
theorem d_Ft_chooseSilent_13 : decode prog_5_method_10_code 13 = .ok (.goto 15, 3) := by decide +kernel
theorem d_Ft_chooseSilent_16 : decode prog_5_method_10_code 16 = .ok (.iload_n 2, 1) := by decide +kernel
theorem d_Ft_chooseSilent_17 : decode prog_5_method_10_code 17 = .ok (.iconst 2, 1) := by decide +kernel
theorem d_Ft_chooseSilent_18 : decode prog_5_method_10_code 18 = .ok (.if_icmp .ne 8, 3) := by decide +kernel
theorem d_Ft_chooseSilent_21 : decode prog_5_method_10_code 21 = .ok (.iload 5, 2) := by decide +kernel
theorem d_Ft_chooseSilent_23 : decode prog_5_method_10_code 23 = .ok (.goto 5, 3) := by decide +kernel
theorem d_Ft_chooseSilent_26 : decode prog_5_method_10_code 26 = .ok (.iload 6, 2) := by decide +kernel
theorem d_Ft_chooseSilent_28 : decode prog_5_method_10_code 28 = .ok (.istore 7, 2) := by decide +kernel
theorem d_Ft_chooseSilent_30 : decode prog_5_method_10_code 30 = .ok (.aload_n 0, 1) := by decide +kernel
theorem d_Ft_chooseSilent_31 : decode prog_5_method_10_code 31 = .ok (.getfield 33, 3) := by decide +kernel
theorem d_Ft_chooseSilent_34 : decode prog_5_method_10_code 34 = .ok (.iload 7, 2) := by decide +kernel
theorem d_Ft_chooseSilent_36 : decode prog_5_method_10_code 36 = .ok (.bipush 63, 2) := by decide +kernel
theorem d_Ft_chooseSilent_38 : decode prog_5_method_10_code 38 = .ok (.iand, 1) := by decide +kernel
theorem d_Ft_chooseSilent_39 : decode prog_5_method_10_code 39 = .ok (.laload, 1) := by decide +kernel
theorem d_Ft_chooseSilent_40 : decode prog_5_method_10_code 40 = .ok (.lstore 8, 2) := by decide +kernel
theorem d_Ft_chooseSilent_42 : decode prog_5_method_10_code 42 = .ok (.iload_n 3, 1) := by decide +kernel
theorem d_Ft_chooseSilent_43 : decode prog_5_method_10_code 43 = .ok (.istore 10, 2) := by decide +kernel
theorem d_Ft_chooseSilent_45 : decode prog_5_method_10_code 45 = .ok (.iload 10, 2) := by decide +kernel
theorem d_Ft_chooseSilent_47 : decode prog_5_method_10_code 47 = .ok (.aload_n 0, 1) := by decide +kernel
theorem d_Ft_chooseSilent_48 : decode prog_5_method_10_code 48 = .ok (.getfield 15, 3) := by decide +kernel
theorem d_Ft_chooseSilent_51 : decode prog_5_method_10_code 51 = .ok (.invokevirtual 123, 3) := by decide +kernel
theorem d_Ft_chooseSilent_54 : decode prog_5_method_10_code 54 = .ok (.if_icmp .ge 90, 3) := by decide +kernel
theorem d_Ft_chooseSilent_57 : decode prog_5_method_10_code 57 = .ok (.lload 8, 2) := by decide +kernel
theorem d_Ft_chooseSilent_59 : decode prog_5_method_10_code 59 = .ok (.iload 10, 2) := by decide +kernel
theorem d_Ft_chooseSilent_61 : decode prog_5_method_10_code 61 = .ok (.invokestatic 134, 3) := by decide +kernel
theorem d_Ft_chooseSilent_64 : decode prog_5_method_10_code 64 = .ok (.ifCond .eq 74, 3) := by decide +kernel
theorem d_Ft_chooseSilent_67 : decode prog_5_method_10_code 67 = .ok (.aload_n 0, 1) := by decide +kernel
theorem d_Ft_chooseSilent_68 : decode prog_5_method_10_code 68 = .ok (.getfield 15, 3) := by decide +kernel
theorem d_Ft_chooseSilent_71 : decode prog_5_method_10_code 71 = .ok (.iload 10, 2) := by decide +kernel
theorem d_Ft_chooseSilent_73 : decode prog_5_method_10_code 73 = .ok (.invokevirtual 126, 3) := by decide +kernel
theorem d_Ft_chooseSilent_76 : decode prog_5_method_10_code 76 = .ok (.istore 11, 2) := by decide +kernel
theorem d_Ft_chooseSilent_78 : decode prog_5_method_10_code 78 = .ok (.aload_n 0, 1) := by decide +kernel
theorem d_Ft_chooseSilent_79 : decode prog_5_method_10_code 79 = .ok (.getfield 42, 3) := by decide +kernel
theorem d_Ft_chooseSilent_82 : decode prog_5_method_10_code 82 = .ok (.iconst 3, 1) := by decide +kernel
theorem d_Ft_chooseSilent_83 : decode prog_5_method_10_code 83 = .ok (.iload_n 1, 1) := by decide +kernel
theorem d_Ft_chooseSilent_84 : decode prog_5_method_10_code 84 = .ok (.iadd, 1) := by decide +kernel
theorem d_Ft_chooseSilent_85 : decode prog_5_method_10_code 85 = .ok (.iload_n 2, 1) := by decide +kernel
theorem d_Ft_chooseSilent_86 : decode prog_5_method_10_code 86 = .ok (.isub, 1) := by decide +kernel
theorem d_Ft_chooseSilent_87 : decode prog_5_method_10_code 87 = .ok (.iload 10, 2) := by decide +kernel
theorem d_Ft_chooseSilent_89 : decode prog_5_method_10_code 89 = .ok (.iastore, 1) := by decide +kernel
theorem d_Ft_chooseSilent_90 : decode prog_5_method_10_code 90 = .ok (.aload_n 0, 1) := by decide +kernel
theorem d_Ft_chooseSilent_91 : decode prog_5_method_10_code 91 = .ok (.iload_n 1, 1) := by decide +kernel
theorem d_Ft_chooseSilent_92 : decode prog_5_method_10_code 92 = .ok (.iload_n 2, 1) := by decide +kernel
theorem d_Ft_chooseSilent_93 : decode prog_5_method_10_code 93 = .ok (.iconst 1, 1) := by decide +kernel
theorem d_Ft_chooseSilent_94 : decode prog_5_method_10_code 94 = .ok (.isub, 1) := by decide +kernel
theorem d_Ft_chooseSilent_95 : decode prog_5_method_10_code 95 = .ok (.iload 10, 2) := by decide +kernel
theorem d_Ft_chooseSilent_97 : decode prog_5_method_10_code 97 = .ok (.iload 4, 2) := by decide +kernel
theorem d_Ft_chooseSilent_99 : decode prog_5_method_10_code 99 = .ok (.iload 11, 2) := by decide +kernel
theorem d_Ft_chooseSilent_101 : decode prog_5_method_10_code 101 = .ok (.iconst (-1), 1) := by decide +kernel
theorem d_Ft_chooseSilent_102 : decode prog_5_method_10_code 102 = .ok (.ixor, 1) := by decide +kernel
theorem d_Ft_chooseSilent_103 : decode prog_5_method_10_code 103 = .ok (.iand, 1) := by decide +kernel
theorem d_Ft_chooseSilent_104 : decode prog_5_method_10_code 104 = .ok (.iload 5, 2) := by decide +kernel
theorem d_Ft_chooseSilent_106 : decode prog_5_method_10_code 106 = .ok (.iload 11, 2) := by decide +kernel
theorem d_Ft_chooseSilent_108 : decode prog_5_method_10_code 108 = .ok (.iand, 1) := by decide +kernel
theorem d_Ft_chooseSilent_109 : decode prog_5_method_10_code 109 = .ok (.ior, 1) := by decide +kernel
theorem d_Ft_chooseSilent_110 : decode prog_5_method_10_code 110 = .ok (.iload 5, 2) := by decide +kernel
theorem d_Ft_chooseSilent_112 : decode prog_5_method_10_code 112 = .ok (.iload 11, 2) := by decide +kernel
theorem d_Ft_chooseSilent_114 : decode prog_5_method_10_code 114 = .ok (.iconst (-1), 1) := by decide +kernel
theorem d_Ft_chooseSilent_115 : decode prog_5_method_10_code 115 = .ok (.ixor, 1) := by decide +kernel
theorem d_Ft_chooseSilent_116 : decode prog_5_method_10_code 116 = .ok (.iand, 1) := by decide +kernel
theorem d_Ft_chooseSilent_117 : decode prog_5_method_10_code 117 = .ok (.iload 6, 2) := by decide +kernel
theorem d_Ft_chooseSilent_119 : decode prog_5_method_10_code 119 = .ok (.iload 11, 2) := by decide +kernel
theorem d_Ft_chooseSilent_121 : decode prog_5_method_10_code 121 = .ok (.iand, 1) := by decide +kernel
theorem d_Ft_chooseSilent_122 : decode prog_5_method_10_code 122 = .ok (.ior, 1) := by decide +kernel
theorem d_Ft_chooseSilent_123 : decode prog_5_method_10_code 123 = .ok (.iload 6, 2) := by decide +kernel
theorem d_Ft_chooseSilent_125 : decode prog_5_method_10_code 125 = .ok (.iload 11, 2) := by decide +kernel
theorem d_Ft_chooseSilent_127 : decode prog_5_method_10_code 127 = .ok (.iconst (-1), 1) := by decide +kernel
theorem d_Ft_chooseSilent_128 : decode prog_5_method_10_code 128 = .ok (.ixor, 1) := by decide +kernel
theorem d_Ft_chooseSilent_129 : decode prog_5_method_10_code 129 = .ok (.iand, 1) := by decide +kernel
theorem d_Ft_chooseSilent_130 : decode prog_5_method_10_code 130 = .ok (.invokevirtual 141, 3) := by decide +kernel
theorem d_Ft_chooseSilent_133 : decode prog_5_method_10_code 133 = .ok (.ifCond .eq 5, 3) := by decide +kernel
theorem d_Ft_chooseSilent_136 : decode prog_5_method_10_code 136 = .ok (.iconst 1, 1) := by decide +kernel
theorem d_Ft_chooseSilent_137 : decode prog_5_method_10_code 137 = .ok (.ireturn, 1) := by decide +kernel
theorem d_Ft_chooseSilent_138 : decode prog_5_method_10_code 138 = .ok (.iinc 10 1, 3) := by decide +kernel
theorem d_Ft_chooseSilent_141 : decode prog_5_method_10_code 141 = .ok (.goto (-96), 3) := by decide +kernel
theorem d_Ft_chooseSilent_144 : decode prog_5_method_10_code 144 = .ok (.iconst 0, 1) := by decide +kernel
theorem d_Ft_chooseSilent_145 : decode prog_5_method_10_code 145 = .ok (.ireturn, 1) := by decide +kernel
def H_Ft_chooseSilent (G : GX) (l : Launch) (n0 : Nat) (rec : GT_Ft_chooseSilent) : Prop := (∀ (v0R : Nat) (v1I : Int32) (v2I : Int32) (v3I : Int32) (v4I : Int32) (v5I : Int32) (v6I : Int32) (σ : AM), CT eI G l (2 + n0) y_Ft_chooseSilent prog_5_method_10_code 12 ((some FieldType.boolean)) [.ref v0R, .int v1I, .int v2I, .int v3I, .int v4I, .int v5I, .int v6I] σ (rec v0R v1I v2I v3I v4I v5I v6I σ))
abbrev S_Ft_chooseSilent : Type := Nat × Nat × Int32 × Int32 × Int32 × Int32 × Int32 × Int32 × Int64 × Int32 × Int32 × AM
noncomputable def T_Ft_chooseSilent_0 (rec : GT_Ft_chooseSilent) (v0R : Nat) (v1I : Int32) (v2I : Int32) (v3I : Int32) (v4I : Int32) (v5I : Int32) (v6I : Int32) (σ : AM) : S_Ft_chooseSilent ⊕ Option (Int32 × AM) :=
  if 0 < v2I then (if v2I = (1 : Int32) then (.inl (1, v0R, v1I, v2I, v3I, v4I, v5I, v6I, 0, 0, v4I, σ)) else (if v2I = (2 : Int32) then (.inl (1, v0R, v1I, v2I, v3I, v4I, v5I, v6I, 0, 0, v5I, σ)) else (.inl (1, v0R, v1I, v2I, v3I, v4I, v5I, v6I, 0, 0, v6I, σ)))) else (.inr (some ((1 : Int32), σ)))
noncomputable def T_Ft_chooseSilent_1 (rec : GT_Ft_chooseSilent) (v0R : Nat) (v1I : Int32) (v2I : Int32) (v3I : Int32) (v4I : Int32) (v5I : Int32) (v6I : Int32) (s0I : Int32) (σ : AM) : S_Ft_chooseSilent ⊕ Option (Int32 × AM) :=
  gdT (okO σ v0R 8) <| gdT (okO σ (aR σ v0R 11) 102) <| gdT (inB (s0I &&& (63 : Int32)) (aN σ (aR σ v0R 11))) <| letT (aL σ (aR σ v0R 11) (s0I &&& (63 : Int32)).toNatClampNeg) fun x4 => .inl (2, v0R, v1I, v2I, 0, v4I, v5I, v6I, x4, v3I, 0, σ)
noncomputable def T_Ft_chooseSilent_2 (rec : GT_Ft_chooseSilent) (v0R : Nat) (v1I : Int32) (v2I : Int32) (v4I : Int32) (v5I : Int32) (v6I : Int32) (v8J : Int64) (v10I : Int32) (σ : AM) : S_Ft_chooseSilent ⊕ Option (Int32 × AM) :=
  gdT (okO σ v0R 8) <| gdT (okO σ (aR σ v0R 1) 4) <| bndT (M_Bk_trials (aR σ v0R 1) σ) fun r3 σ4 => if v10I < r3 then (bndT (M_St_has v8J v10I σ4) fun r5 σ6 => if r5 = 0 then (.inl (3, v0R, v1I, v2I, 0, v4I, v5I, v6I, v8J, v10I, 0, σ6)) else (gdT (okO σ6 v0R 8) <| gdT (okO σ6 (aR σ6 v0R 1) 4) <| bndT (M_Bk_setAt (aR σ6 v0R 1) v10I σ6) fun r9 σ10 => gdT (okO σ10 v0R 8) <| gdT (okO σ10 (aR σ10 v0R 13) 101) <| gdT (inB (((3 : Int32) + v1I) - v2I) (aN σ10 (aR σ10 v0R 13))) <| letT (sI σ10 (aR σ10 v0R 13) (((3 : Int32) + v1I) - v2I).toNatClampNeg v10I) fun σ14 => bndT (rec v0R v1I (v2I - (1 : Int32)) v10I ((v4I &&& (r9 ^^^ ((-1) : Int32))) ||| (v5I &&& r9)) ((v5I &&& (r9 ^^^ ((-1) : Int32))) ||| (v6I &&& r9)) (v6I &&& (r9 ^^^ ((-1) : Int32))) σ14) fun r16 σ17 => if r16 = 0 then (.inl (3, v0R, v1I, v2I, 0, v4I, v5I, v6I, v8J, v10I, 0, σ17)) else (.inr (some ((1 : Int32), σ17))))) else (.inr (some ((0 : Int32), σ4)))
noncomputable def T_Ft_chooseSilent_3 (rec : GT_Ft_chooseSilent) (v0R : Nat) (v1I : Int32) (v2I : Int32) (v4I : Int32) (v5I : Int32) (v6I : Int32) (v8J : Int64) (v10I : Int32) (σ : AM) : S_Ft_chooseSilent ⊕ Option (Int32 × AM) :=
  .inl (2, v0R, v1I, v2I, 0, v4I, v5I, v6I, v8J, v10I + (1 : Int32), 0, σ)
noncomputable def F_Ft_chooseSilent (rec : GT_Ft_chooseSilent) : S_Ft_chooseSilent → S_Ft_chooseSilent ⊕ Option (Int32 × AM) := fun s => match s.1 with
  | 0 => T_Ft_chooseSilent_0 rec (s.2.1) (s.2.2.1) (s.2.2.2.1) (s.2.2.2.2.1) (s.2.2.2.2.2.1) (s.2.2.2.2.2.2.1) (s.2.2.2.2.2.2.2.1) (s.2.2.2.2.2.2.2.2.2.2.2)
  | 1 => T_Ft_chooseSilent_1 rec (s.2.1) (s.2.2.1) (s.2.2.2.1) (s.2.2.2.2.1) (s.2.2.2.2.2.1) (s.2.2.2.2.2.2.1) (s.2.2.2.2.2.2.2.1) (s.2.2.2.2.2.2.2.2.2.2.1) (s.2.2.2.2.2.2.2.2.2.2.2)
  | 2 => T_Ft_chooseSilent_2 rec (s.2.1) (s.2.2.1) (s.2.2.2.1) (s.2.2.2.2.2.1) (s.2.2.2.2.2.2.1) (s.2.2.2.2.2.2.2.1) (s.2.2.2.2.2.2.2.2.1) (s.2.2.2.2.2.2.2.2.2.1) (s.2.2.2.2.2.2.2.2.2.2.2)
  | _ => T_Ft_chooseSilent_3 rec (s.2.1) (s.2.2.1) (s.2.2.2.1) (s.2.2.2.2.2.1) (s.2.2.2.2.2.2.1) (s.2.2.2.2.2.2.2.1) (s.2.2.2.2.2.2.2.2.1) (s.2.2.2.2.2.2.2.2.2.1) (s.2.2.2.2.2.2.2.2.2.2.2)
noncomputable def L_Ft_chooseSilent_0 (rec : GT_Ft_chooseSilent) (v0R : Nat) (v1I : Int32) (v2I : Int32) (v3I : Int32) (v4I : Int32) (v5I : Int32) (v6I : Int32) (σ : AM) : Option (Int32 × AM) := lp (F_Ft_chooseSilent rec) (0, v0R, v1I, v2I, v3I, v4I, v5I, v6I, 0, 0, 0, σ)
noncomputable def L_Ft_chooseSilent_1 (rec : GT_Ft_chooseSilent) (v0R : Nat) (v1I : Int32) (v2I : Int32) (v3I : Int32) (v4I : Int32) (v5I : Int32) (v6I : Int32) (s0I : Int32) (σ : AM) : Option (Int32 × AM) := lp (F_Ft_chooseSilent rec) (1, v0R, v1I, v2I, v3I, v4I, v5I, v6I, 0, 0, s0I, σ)
noncomputable def L_Ft_chooseSilent_2 (rec : GT_Ft_chooseSilent) (v0R : Nat) (v1I : Int32) (v2I : Int32) (v4I : Int32) (v5I : Int32) (v6I : Int32) (v8J : Int64) (v10I : Int32) (σ : AM) : Option (Int32 × AM) := lp (F_Ft_chooseSilent rec) (2, v0R, v1I, v2I, 0, v4I, v5I, v6I, v8J, v10I, 0, σ)
noncomputable def L_Ft_chooseSilent_3 (rec : GT_Ft_chooseSilent) (v0R : Nat) (v1I : Int32) (v2I : Int32) (v4I : Int32) (v5I : Int32) (v6I : Int32) (v8J : Int64) (v10I : Int32) (σ : AM) : Option (Int32 × AM) := lp (F_Ft_chooseSilent rec) (3, v0R, v1I, v2I, 0, v4I, v5I, v6I, v8J, v10I, 0, σ)
set_option maxRecDepth 20000 in
theorem E_Ft_chooseSilent_0 (rec : GT_Ft_chooseSilent) (v0R : Nat) (v1I : Int32) (v2I : Int32) (v3I : Int32) (v4I : Int32) (v5I : Int32) (v6I : Int32) (σ : AM) : L_Ft_chooseSilent_0 rec v0R v1I v2I v3I v4I v5I v6I σ = (if 0 < v2I then (if v2I = (1 : Int32) then (L_Ft_chooseSilent_1 rec v0R v1I v2I v3I v4I v5I v6I v4I σ) else (if v2I = (2 : Int32) then (L_Ft_chooseSilent_1 rec v0R v1I v2I v3I v4I v5I v6I v5I σ) else (L_Ft_chooseSilent_1 rec v0R v1I v2I v3I v4I v5I v6I v6I σ))) else ((some ((1 : Int32), σ)))) := by
  unfold L_Ft_chooseSilent_0
  rw [lp_eq]
  show lpK (lp (F_Ft_chooseSilent rec)) (T_Ft_chooseSilent_0 rec v0R v1I v2I v3I v4I v5I v6I σ) = _
  unfold T_Ft_chooseSilent_0
  simp only [lpK_ite, lq_inl, lq_inr, lpK_bnd, lpK_gd, lq_let]
  try rfl
set_option maxRecDepth 20000 in
theorem E_Ft_chooseSilent_1 (rec : GT_Ft_chooseSilent) (v0R : Nat) (v1I : Int32) (v2I : Int32) (v3I : Int32) (v4I : Int32) (v5I : Int32) (v6I : Int32) (s0I : Int32) (σ : AM) : L_Ft_chooseSilent_1 rec v0R v1I v2I v3I v4I v5I v6I s0I σ = (gd (okO σ v0R 8) <| gd (okO σ (aR σ v0R 11) 102) <| gd (inB (s0I &&& (63 : Int32)) (aN σ (aR σ v0R 11))) <| letT (aL σ (aR σ v0R 11) (s0I &&& (63 : Int32)).toNatClampNeg) fun x4 => L_Ft_chooseSilent_2 rec v0R v1I v2I v4I v5I v6I x4 v3I σ) := by
  unfold L_Ft_chooseSilent_1
  rw [lp_eq]
  show lpK (lp (F_Ft_chooseSilent rec)) (T_Ft_chooseSilent_1 rec v0R v1I v2I v3I v4I v5I v6I s0I σ) = _
  unfold T_Ft_chooseSilent_1
  simp only [lpK_ite, lq_inl, lq_inr, lpK_bnd, lpK_gd, lq_let]
  try rfl
set_option maxRecDepth 20000 in
theorem E_Ft_chooseSilent_2 (rec : GT_Ft_chooseSilent) (v0R : Nat) (v1I : Int32) (v2I : Int32) (v4I : Int32) (v5I : Int32) (v6I : Int32) (v8J : Int64) (v10I : Int32) (σ : AM) : L_Ft_chooseSilent_2 rec v0R v1I v2I v4I v5I v6I v8J v10I σ = (gd (okO σ v0R 8) <| gd (okO σ (aR σ v0R 1) 4) <| bnd (M_Bk_trials (aR σ v0R 1) σ) fun r3 σ4 => if v10I < r3 then (bnd (M_St_has v8J v10I σ4) fun r5 σ6 => if r5 = 0 then (L_Ft_chooseSilent_3 rec v0R v1I v2I v4I v5I v6I v8J v10I σ6) else (gd (okO σ6 v0R 8) <| gd (okO σ6 (aR σ6 v0R 1) 4) <| bnd (M_Bk_setAt (aR σ6 v0R 1) v10I σ6) fun r9 σ10 => gd (okO σ10 v0R 8) <| gd (okO σ10 (aR σ10 v0R 13) 101) <| gd (inB (((3 : Int32) + v1I) - v2I) (aN σ10 (aR σ10 v0R 13))) <| letT (sI σ10 (aR σ10 v0R 13) (((3 : Int32) + v1I) - v2I).toNatClampNeg v10I) fun σ14 => bnd (rec v0R v1I (v2I - (1 : Int32)) v10I ((v4I &&& (r9 ^^^ ((-1) : Int32))) ||| (v5I &&& r9)) ((v5I &&& (r9 ^^^ ((-1) : Int32))) ||| (v6I &&& r9)) (v6I &&& (r9 ^^^ ((-1) : Int32))) σ14) fun r16 σ17 => if r16 = 0 then (L_Ft_chooseSilent_3 rec v0R v1I v2I v4I v5I v6I v8J v10I σ17) else ((some ((1 : Int32), σ17))))) else ((some ((0 : Int32), σ4)))) := by
  unfold L_Ft_chooseSilent_2
  rw [lp_eq]
  show lpK (lp (F_Ft_chooseSilent rec)) (T_Ft_chooseSilent_2 rec v0R v1I v2I v4I v5I v6I v8J v10I σ) = _
  unfold T_Ft_chooseSilent_2
  simp only [lpK_ite, lq_inl, lq_inr, lpK_bnd, lpK_gd, lq_let]
  try rfl
set_option maxRecDepth 20000 in
theorem E_Ft_chooseSilent_3 (rec : GT_Ft_chooseSilent) (v0R : Nat) (v1I : Int32) (v2I : Int32) (v4I : Int32) (v5I : Int32) (v6I : Int32) (v8J : Int64) (v10I : Int32) (σ : AM) : L_Ft_chooseSilent_3 rec v0R v1I v2I v4I v5I v6I v8J v10I σ = (L_Ft_chooseSilent_2 rec v0R v1I v2I v4I v5I v6I v8J (v10I + (1 : Int32)) σ) := by
  unfold L_Ft_chooseSilent_3
  rw [lp_eq]
  show lpK (lp (F_Ft_chooseSilent rec)) (T_Ft_chooseSilent_3 rec v0R v1I v2I v4I v5I v6I v8J v10I σ) = _
  unfold T_Ft_chooseSilent_3
  simp only [lpK_ite, lq_inl, lq_inr, lpK_bnd, lpK_gd, lq_let]
  try rfl
noncomputable def N_Ft_chooseSilent (rec : GT_Ft_chooseSilent) (v0R : Nat) (v1I : Int32) (v2I : Int32) (v3I : Int32) (v4I : Int32) (v5I : Int32) (v6I : Int32) (σ : AM) : Option (Int32 × AM) := mw σ (L_Ft_chooseSilent_0 rec v0R v1I v2I v3I v4I v5I v6I σ)
def I_Ft_chooseSilent (G : GX) (p : Program) (l : Launch) (e : Env) (s : State) (m : MethodId) (args : Array Value) (below : List Frame) (meth : Method) (c : Code) (n0 : Nat) (rec : GT_Ft_chooseSilent) (z0 u0 n : Nat) : Prop :=
  (∀ (v0R : Nat) (v1I : Int32) (v2I : Int32) (v3I : Int32) (v4I : Int32) (v5I : Int32) (v6I : Int32) (σ : AM), VX (QM eI G args s below z0 u0) G p l e s m args below meth c (2 + n0 + 1) z0 u0 12 (lpn (F_Ft_chooseSilent rec) n (0, v0R, v1I, v2I, v3I, v4I, v5I, v6I, 0, 0, 0, σ)) 0 [(0, .ref v0R), (1, .int v1I), (2, .int v2I), (3, .int v3I), (4, .int v4I), (5, .int v5I), (6, .int v6I)] [] σ) ∧
  (∀ (v0R : Nat) (v1I : Int32) (v2I : Int32) (v3I : Int32) (v4I : Int32) (v5I : Int32) (v6I : Int32) (s0I : Int32) (σ : AM), VX (QM eI G args s below z0 u0) G p l e s m args below meth c (2 + n0 + 1) z0 u0 12 (lpn (F_Ft_chooseSilent rec) n (1, v0R, v1I, v2I, v3I, v4I, v5I, v6I, 0, 0, s0I, σ)) 28 [(0, .ref v0R), (1, .int v1I), (2, .int v2I), (3, .int v3I), (4, .int v4I), (5, .int v5I), (6, .int v6I)] [.int s0I] σ) ∧
  (∀ (v0R : Nat) (v1I : Int32) (v2I : Int32) (v4I : Int32) (v5I : Int32) (v6I : Int32) (v8J : Int64) (v10I : Int32) (σ : AM), VX (QM eI G args s below z0 u0) G p l e s m args below meth c (2 + n0 + 1) z0 u0 12 (lpn (F_Ft_chooseSilent rec) n (2, v0R, v1I, v2I, 0, v4I, v5I, v6I, v8J, v10I, 0, σ)) 45 [(0, .ref v0R), (1, .int v1I), (2, .int v2I), (4, .int v4I), (5, .int v5I), (6, .int v6I), (8, .long v8J), (10, .int v10I)] [] σ) ∧
  (∀ (v0R : Nat) (v1I : Int32) (v2I : Int32) (v4I : Int32) (v5I : Int32) (v6I : Int32) (v8J : Int64) (v10I : Int32) (σ : AM), VX (QM eI G args s below z0 u0) G p l e s m args below meth c (2 + n0 + 1) z0 u0 12 (lpn (F_Ft_chooseSilent rec) n (3, v0R, v1I, v2I, 0, v4I, v5I, v6I, v8J, v10I, 0, σ)) 138 [(0, .ref v0R), (1, .int v1I), (2, .int v2I), (4, .int v4I), (5, .int v5I), (6, .int v6I), (8, .long v8J), (10, .int v10I)] [] σ)
set_option maxRecDepth 20000 in
theorem s_Ft_chooseSilent_0 {G : GX} {p : Program} {l : Launch} {e : Env} {s : State} {m : MethodId} {args : Array Value} {below : List Frame} {meth : Method} {c : Code} {z0 u0 n : Nat} (C : Cx G p s m args meth c prog_5_method_10_code 12 "BellPlate$Fit" ((some FieldType.boolean))) {n0 : Nat} {rec : GT_Ft_chooseSilent} (HR : H_Ft_chooseSilent G l n0 rec) (IH : I_Ft_chooseSilent G p l e s m args below meth c n0 rec z0 u0 n) (v0R : Nat) (v1I : Int32) (v2I : Int32) (v3I : Int32) (v4I : Int32) (v5I : Int32) (v6I : Int32) (σ : AM) : VX (QM eI G args s below z0 u0) G p l e s m args below meth c (2 + n0 + 1) z0 u0 12 (lpK (lpn (F_Ft_chooseSilent rec) n) (T_Ft_chooseSilent_0 rec v0R v1I v2I v3I v4I v5I v6I σ)) 0 [(0, .ref v0R), (1, .int v1I), (2, .int v2I), (3, .int v3I), (4, .int v4I), (5, .int v5I), (6, .int v6I)] [] σ := by
  unfold T_Ft_chooseSilent_0
  refine x_iload_n C d_Ft_chooseSilent_0 2 rfl ?_
  refine x_if_gt (tgt := 6) C d_Ft_chooseSilent_1 (by decide) (fun _ => ?_) (fun _ => ?_)
  · refine x_iload_n C d_Ft_chooseSilent_6 2 rfl ?_
    refine x_iconst (v := (1 : Int32)) C d_Ft_chooseSilent_7 (by decide) ?_
    refine x_icmp_ne (tgt := 16) C d_Ft_chooseSilent_8 (by decide) (fun _ => ?_) (fun _ => ?_)
    · refine x_iload C d_Ft_chooseSilent_11 4 rfl ?_
      refine x_goto (tgt := 28) C d_Ft_chooseSilent_13 (by decide) ?_
      exact IH.2.1 v0R v1I v2I v3I v4I v5I v6I v4I (σ)
    · refine x_iload_n C d_Ft_chooseSilent_16 2 rfl ?_
      refine x_iconst (v := (2 : Int32)) C d_Ft_chooseSilent_17 (by decide) ?_
      refine x_icmp_ne (tgt := 26) C d_Ft_chooseSilent_18 (by decide) (fun _ => ?_) (fun _ => ?_)
      · refine x_iload C d_Ft_chooseSilent_21 5 rfl ?_
        refine x_goto (tgt := 28) C d_Ft_chooseSilent_23 (by decide) ?_
        exact IH.2.1 v0R v1I v2I v3I v4I v5I v6I v5I (σ)
      · refine x_iload C d_Ft_chooseSilent_26 6 rfl ?_
        exact IH.2.1 v0R v1I v2I v3I v4I v5I v6I v6I (σ)
  · refine x_iconst (v := (1 : Int32)) C d_Ft_chooseSilent_4 (by decide) ?_
    exact x_zret C (by decide) d_Ft_chooseSilent_5
set_option maxRecDepth 20000 in
theorem s_Ft_chooseSilent_1 {G : GX} {p : Program} {l : Launch} {e : Env} {s : State} {m : MethodId} {args : Array Value} {below : List Frame} {meth : Method} {c : Code} {z0 u0 n : Nat} (C : Cx G p s m args meth c prog_5_method_10_code 12 "BellPlate$Fit" ((some FieldType.boolean))) {n0 : Nat} {rec : GT_Ft_chooseSilent} (HR : H_Ft_chooseSilent G l n0 rec) (IH : I_Ft_chooseSilent G p l e s m args below meth c n0 rec z0 u0 n) (v0R : Nat) (v1I : Int32) (v2I : Int32) (v3I : Int32) (v4I : Int32) (v5I : Int32) (v6I : Int32) (s0I : Int32) (σ : AM) : VX (QM eI G args s below z0 u0) G p l e s m args below meth c (2 + n0 + 1) z0 u0 12 (lpK (lpn (F_Ft_chooseSilent rec) n) (T_Ft_chooseSilent_1 rec v0R v1I v2I v3I v4I v5I v6I s0I σ)) 28 [(0, .ref v0R), (1, .int v1I), (2, .int v2I), (3, .int v3I), (4, .int v4I), (5, .int v5I), (6, .int v6I)] [.int s0I] σ := by
  unfold T_Ft_chooseSilent_1
  refine x_istore (lv' := [(7, .int s0I), (0, .ref v0R), (1, .int v1I), (2, .int v2I), (3, .int v3I), (4, .int v4I), (5, .int v5I), (6, .int v6I)]) C d_Ft_chooseSilent_28 (by decide) rfl ?_
  refine x_aload_n C d_Ft_chooseSilent_30 1 rfl ?_
  refine x_gd (fun h1 => ?_)
  refine x_gd (fun h2 => ?_)
  refine x_getR (k := 11) (kv := 102) C (okO_iff.mp h1) rfl j7_ok (by decide) rfl (okO_iff.mp h2) (by decide) w492 d_Ft_chooseSilent_31 ?_
  refine x_iload C d_Ft_chooseSilent_34 0 rfl ?_
  refine x_bipush (v := (63 : Int32)) C d_Ft_chooseSilent_36 (by decide) ?_
  refine x_iand C d_Ft_chooseSilent_38 ?_
  refine x_gd (fun h3 => ?_)
  refine x_aldJ C (okO_iff.mp h2) (inB_iff.mp h3) d_Ft_chooseSilent_39 ?_
  refine x_letJ (fun x4 _ => ?_)
  refine x_lstore (lv' := [(8, .long x4), (7, .int s0I), (0, .ref v0R), (1, .int v1I), (2, .int v2I), (3, .int v3I), (4, .int v4I), (5, .int v5I), (6, .int v6I)]) C d_Ft_chooseSilent_40 (by decide) rfl ?_
  refine x_iload_n C d_Ft_chooseSilent_42 5 rfl ?_
  refine x_istore (lv' := [(10, .int v3I), (8, .long x4), (7, .int s0I), (0, .ref v0R), (1, .int v1I), (2, .int v2I), (3, .int v3I), (4, .int v4I), (5, .int v5I), (6, .int v6I)]) C d_Ft_chooseSilent_43 (by decide) rfl ?_
  refine x_lv [3, 4, 5, 7, 8, 9, 1, 0] rfl ?_
  exact IH.2.2.1 v0R v1I v2I v4I v5I v6I x4 v3I (σ)
set_option maxRecDepth 20000 in
theorem s_Ft_chooseSilent_2 {G : GX} {p : Program} {l : Launch} {e : Env} {s : State} {m : MethodId} {args : Array Value} {below : List Frame} {meth : Method} {c : Code} {z0 u0 n : Nat} (C : Cx G p s m args meth c prog_5_method_10_code 12 "BellPlate$Fit" ((some FieldType.boolean))) {n0 : Nat} {rec : GT_Ft_chooseSilent} (HR : H_Ft_chooseSilent G l n0 rec) (IH : I_Ft_chooseSilent G p l e s m args below meth c n0 rec z0 u0 n) (v0R : Nat) (v1I : Int32) (v2I : Int32) (v4I : Int32) (v5I : Int32) (v6I : Int32) (v8J : Int64) (v10I : Int32) (σ : AM) : VX (QM eI G args s below z0 u0) G p l e s m args below meth c (2 + n0 + 1) z0 u0 12 (lpK (lpn (F_Ft_chooseSilent rec) n) (T_Ft_chooseSilent_2 rec v0R v1I v2I v4I v5I v6I v8J v10I σ)) 45 [(0, .ref v0R), (1, .int v1I), (2, .int v2I), (4, .int v4I), (5, .int v5I), (6, .int v6I), (8, .long v8J), (10, .int v10I)] [] σ := by
  unfold T_Ft_chooseSilent_2
  refine x_iload C d_Ft_chooseSilent_45 7 rfl ?_
  refine x_aload_n C d_Ft_chooseSilent_47 0 rfl ?_
  refine x_gd (fun h1 => ?_)
  refine x_gd (fun h2 => ?_)
  refine x_getR (k := 1) (kv := 4) C (okO_iff.mp h1) rfl j7_ok (by decide) rfl (okO_iff.mp h2) (by decide) w482 d_Ft_chooseSilent_48 ?_
  refine x_callVI (As := []) C (c_Bk_trials G l (aR σ v0R 1)  σ) (okO_iff.mp h2) rfl w1367 w1368 w1366 w1369 w124 k_Bk_trials rfl (by omega) (by decide) rfl (Nat.le_of_ble_eq_true rfl) d_Ft_chooseSilent_51 (fun r3 σ4 => ?_)
  refine x_icmp_ge (tgt := 144) C d_Ft_chooseSilent_54 (by decide) (fun _ => ?_) (fun _ => ?_)
  · refine x_lload C d_Ft_chooseSilent_57 6 rfl ?_
    refine x_iload C d_Ft_chooseSilent_59 7 rfl ?_
    refine x_callSI (As := [.long v8J, .int v10I]) C (c_St_has G l v8J v10I σ4) w1101 w1382 w1102 w141 k_St_has rfl (by omega) (by decide) rfl (Nat.le_of_ble_eq_true rfl) d_Ft_chooseSilent_61 (fun r5 σ6 => ?_)
    refine x_if_eq (tgt := 138) C d_Ft_chooseSilent_64 (by decide) (fun _ => ?_) (fun _ => ?_)
    · exact IH.2.2.2 v0R v1I v2I v4I v5I v6I v8J v10I (σ6)
    · refine x_aload_n C d_Ft_chooseSilent_67 0 rfl ?_
      refine x_gd (fun h7 => ?_)
      refine x_gd (fun h8 => ?_)
      refine x_getR (k := 1) (kv := 4) C (okO_iff.mp h7) rfl j7_ok (by decide) rfl (okO_iff.mp h8) (by decide) w482 d_Ft_chooseSilent_68 ?_
      refine x_iload C d_Ft_chooseSilent_71 7 rfl ?_
      refine x_callVI (As := [.int v10I]) C (c_Bk_setAt G l (aR σ6 v0R 1) v10I σ6) (okO_iff.mp h8) rfl w1371 w1372 w1370 w1373 w124 k_Bk_setAt rfl (by omega) (by decide) rfl (Nat.le_of_ble_eq_true rfl) d_Ft_chooseSilent_73 (fun r9 σ10 => ?_)
      refine x_istore (lv' := [(11, .int r9), (0, .ref v0R), (1, .int v1I), (2, .int v2I), (4, .int v4I), (5, .int v5I), (6, .int v6I), (8, .long v8J), (10, .int v10I)]) C d_Ft_chooseSilent_76 (by decide) rfl ?_
      refine x_aload_n C d_Ft_chooseSilent_78 1 rfl ?_
      refine x_gd (fun h11 => ?_)
      refine x_gd (fun h12 => ?_)
      refine x_getR (k := 13) (kv := 101) C (okO_iff.mp h11) rfl j7_ok (by decide) rfl (okO_iff.mp h12) (by decide) w494 d_Ft_chooseSilent_79 ?_
      refine x_iconst (v := (3 : Int32)) C d_Ft_chooseSilent_82 (by decide) ?_
      refine x_iload_n C d_Ft_chooseSilent_83 2 rfl ?_
      refine x_iadd C d_Ft_chooseSilent_84 ?_
      refine x_iload_n C d_Ft_chooseSilent_85 3 rfl ?_
      refine x_isub C d_Ft_chooseSilent_86 ?_
      refine x_iload C d_Ft_chooseSilent_87 8 rfl ?_
      refine x_gd (fun h13 => ?_)
      refine x_astI C (okO_iff.mp h12) (inB_iff.mp h13) d_Ft_chooseSilent_89 ?_
      refine x_letS (fun σ14 e15 => ?_)
      refine x_aload_n C d_Ft_chooseSilent_90 1 rfl ?_
      refine x_iload_n C d_Ft_chooseSilent_91 2 rfl ?_
      refine x_iload_n C d_Ft_chooseSilent_92 3 rfl ?_
      refine x_iconst (v := (1 : Int32)) C d_Ft_chooseSilent_93 (by decide) ?_
      refine x_isub C d_Ft_chooseSilent_94 ?_
      refine x_iload C d_Ft_chooseSilent_95 8 rfl ?_
      refine x_iload C d_Ft_chooseSilent_97 4 rfl ?_
      refine x_iload C d_Ft_chooseSilent_99 0 rfl ?_
      refine x_iconst (v := ((-1) : Int32)) C d_Ft_chooseSilent_101 (by decide) ?_
      refine x_ixor C d_Ft_chooseSilent_102 ?_
      refine x_iand C d_Ft_chooseSilent_103 ?_
      refine x_iload C d_Ft_chooseSilent_104 5 rfl ?_
      refine x_iload C d_Ft_chooseSilent_106 0 rfl ?_
      refine x_iand C d_Ft_chooseSilent_108 ?_
      refine x_ior C d_Ft_chooseSilent_109 ?_
      refine x_iload C d_Ft_chooseSilent_110 5 rfl ?_
      refine x_iload C d_Ft_chooseSilent_112 0 rfl ?_
      refine x_iconst (v := ((-1) : Int32)) C d_Ft_chooseSilent_114 (by decide) ?_
      refine x_ixor C d_Ft_chooseSilent_115 ?_
      refine x_iand C d_Ft_chooseSilent_116 ?_
      refine x_iload C d_Ft_chooseSilent_117 6 rfl ?_
      refine x_iload C d_Ft_chooseSilent_119 0 rfl ?_
      refine x_iand C d_Ft_chooseSilent_121 ?_
      refine x_ior C d_Ft_chooseSilent_122 ?_
      refine x_iload C d_Ft_chooseSilent_123 6 rfl ?_
      refine x_iload C d_Ft_chooseSilent_125 0 rfl ?_
      refine x_iconst (v := ((-1) : Int32)) C d_Ft_chooseSilent_127 (by decide) ?_
      refine x_ixor C d_Ft_chooseSilent_128 ?_
      refine x_iand C d_Ft_chooseSilent_129 ?_
      refine x_callVI (As := [.int v1I, .int (v2I - (1 : Int32)), .int v10I, .int ((v4I &&& (r9 ^^^ ((-1) : Int32))) ||| (v5I &&& r9)), .int ((v5I &&& (r9 ^^^ ((-1) : Int32))) ||| (v6I &&& r9)), .int (v6I &&& (r9 ^^^ ((-1) : Int32)))]) C (HR v0R v1I (v2I - (1 : Int32)) v10I ((v4I &&& (r9 ^^^ ((-1) : Int32))) ||| (v5I &&& r9)) ((v5I &&& (r9 ^^^ ((-1) : Int32))) ||| (v6I &&& r9)) (v6I &&& (r9 ^^^ ((-1) : Int32))) σ14) (by first | exact (okO_iff.mp h11) | (rw [e15]; exact (okO_iff.mp h11))) rfl w1393 w44 w1391 w1394 w129 k_Ft_chooseSilent rfl (by omega) (by decide) rfl (Nat.le_of_ble_eq_true rfl) d_Ft_chooseSilent_130 (fun r16 σ17 => ?_)
      refine x_if_eq (tgt := 138) C d_Ft_chooseSilent_133 (by decide) (fun _ => ?_) (fun _ => ?_)
      · refine x_lv [1, 2, 3, 4, 5, 6, 7, 8] rfl ?_
        exact IH.2.2.2 v0R v1I v2I v4I v5I v6I v8J v10I (σ17)
      · refine x_iconst (v := (1 : Int32)) C d_Ft_chooseSilent_136 (by decide) ?_
        exact x_zret C (by decide) d_Ft_chooseSilent_137
  · refine x_iconst (v := (0 : Int32)) C d_Ft_chooseSilent_144 (by decide) ?_
    exact x_zret C (by decide) d_Ft_chooseSilent_145
set_option maxRecDepth 20000 in
theorem s_Ft_chooseSilent_3 {G : GX} {p : Program} {l : Launch} {e : Env} {s : State} {m : MethodId} {args : Array Value} {below : List Frame} {meth : Method} {c : Code} {z0 u0 n : Nat} (C : Cx G p s m args meth c prog_5_method_10_code 12 "BellPlate$Fit" ((some FieldType.boolean))) {n0 : Nat} {rec : GT_Ft_chooseSilent} (HR : H_Ft_chooseSilent G l n0 rec) (IH : I_Ft_chooseSilent G p l e s m args below meth c n0 rec z0 u0 n) (v0R : Nat) (v1I : Int32) (v2I : Int32) (v4I : Int32) (v5I : Int32) (v6I : Int32) (v8J : Int64) (v10I : Int32) (σ : AM) : VX (QM eI G args s below z0 u0) G p l e s m args below meth c (2 + n0 + 1) z0 u0 12 (lpK (lpn (F_Ft_chooseSilent rec) n) (T_Ft_chooseSilent_3 rec v0R v1I v2I v4I v5I v6I v8J v10I σ)) 138 [(0, .ref v0R), (1, .int v1I), (2, .int v2I), (4, .int v4I), (5, .int v5I), (6, .int v6I), (8, .long v8J), (10, .int v10I)] [] σ := by
  unfold T_Ft_chooseSilent_3
  refine x_iinc (v := v10I + (1 : Int32)) (lv' := [(10, .int (v10I + (1 : Int32))), (0, .ref v0R), (1, .int v1I), (2, .int v2I), (4, .int v4I), (5, .int v5I), (6, .int v6I), (8, .long v8J)]) C d_Ft_chooseSilent_138 7 rfl rfl (by decide) rfl ?_
  refine x_goto (tgt := 45) C d_Ft_chooseSilent_141 (by decide) ?_
  refine x_lv [1, 2, 3, 4, 5, 6, 7, 0] rfl ?_
  exact IH.2.2.1 v0R v1I v2I v4I v5I v6I v8J (v10I + (1 : Int32)) (σ)
theorem i_Ft_chooseSilent {G : GX} {p : Program} {l : Launch} {e : Env} {s : State} {m : MethodId} {args : Array Value} {below : List Frame} {meth : Method} {c : Code} {z0 u0 : Nat} (C : Cx G p s m args meth c prog_5_method_10_code 12 "BellPlate$Fit" ((some FieldType.boolean))) {n0 : Nat} {rec : GT_Ft_chooseSilent} (HR : H_Ft_chooseSilent G l n0 rec) (n : Nat) : I_Ft_chooseSilent G p l e s m args below meth c n0 rec z0 u0 n := by
  induction n with
  | zero => exact ⟨fun _ _ _ _ _ _ _ _ => x_none, fun _ _ _ _ _ _ _ _ _ => x_none, fun _ _ _ _ _ _ _ _ _ => x_none, fun _ _ _ _ _ _ _ _ _ => x_none⟩
  | succ n IH => exact ⟨fun v0R v1I v2I v3I v4I v5I v6I σ => s_Ft_chooseSilent_0 C HR IH v0R v1I v2I v3I v4I v5I v6I σ, fun v0R v1I v2I v3I v4I v5I v6I s0I σ => s_Ft_chooseSilent_1 C HR IH v0R v1I v2I v3I v4I v5I v6I s0I σ, fun v0R v1I v2I v4I v5I v6I v8J v10I σ => s_Ft_chooseSilent_2 C HR IH v0R v1I v2I v4I v5I v6I v8J v10I σ, fun v0R v1I v2I v4I v5I v6I v8J v10I σ => s_Ft_chooseSilent_3 C HR IH v0R v1I v2I v4I v5I v6I v8J v10I σ⟩
theorem n_Ft_chooseSilent (G : GX) (l : Launch) (n0 : Nat) (rec : GT_Ft_chooseSilent) (HR : H_Ft_chooseSilent G l n0 rec) (v0R : Nat) (v1I : Int32) (v2I : Int32) (v3I : Int32) (v4I : Int32) (v5I : Int32) (v6I : Int32) (σ : AM) : CT eI G l (2 + (n0 + 1)) y_Ft_chooseSilent prog_5_method_10_code 12 ((some FieldType.boolean)) [.ref v0R, .int v1I, .int v2I, .int v3I, .int v4I, .int v5I, .int v6I] σ (N_Ft_chooseSilent rec v0R v1I v2I v3I v4I v5I v6I σ) := by
  refine ct_of (by decide +kernel) (Nat.le_of_ble_eq_true rfl) (fun p e s m args below meth c C hin => ?_)
  refine x_lve (lv' := [(0, .ref v0R), (1, .int v1I), (2, .int v2I), (3, .int v3I), (4, .int v4I), (5, .int v5I), (6, .int v6I)]) rfl ?_
  intro r σ' h
  obtain ⟨n, hn⟩ := (lp_iff _ _ _).mp h
  exact (i_Ft_chooseSilent C HR n).1 v0R v1I v2I v3I v4I v5I v6I σ r σ' hn
noncomputable def Q_Ft_chooseSilent : Nat → GT_Ft_chooseSilent
  | 0 => fun _ _ _ _ _ _ _ _ => none
  | n + 1 => fun v0R v1I v2I v3I v4I v5I v6I σ => N_Ft_chooseSilent (Q_Ft_chooseSilent n) v0R v1I v2I v3I v4I v5I v6I σ
theorem q_Ft_chooseSilent (G : GX) (l : Launch) (n : Nat) : H_Ft_chooseSilent G l n (Q_Ft_chooseSilent n) := by
  induction n with
  | zero => exact fun _ _ _ _ _ _ _ _ r σ' h => absurd (show none = some (r, σ') from h) (fun q => by cases q)
  | succ n ih => exact fun v0R v1I v2I v3I v4I v5I v6I σ => n_Ft_chooseSilent G l n (Q_Ft_chooseSilent n) ih v0R v1I v2I v3I v4I v5I v6I σ
noncomputable def M_Ft_chooseSilent (v0R : Nat) (v1I : Int32) (v2I : Int32) (v3I : Int32) (v4I : Int32) (v5I : Int32) (v6I : Int32) (σ : AM) : Option (Int32 × AM) := (Q_Ft_chooseSilent 80) v0R v1I v2I v3I v4I v5I v6I σ
theorem c_Ft_chooseSilent (G : GX) (l : Launch) (v0R : Nat) (v1I : Int32) (v2I : Int32) (v3I : Int32) (v4I : Int32) (v5I : Int32) (v6I : Int32) (σ : AM) : CT eI G l 82 y_Ft_chooseSilent prog_5_method_10_code 12 ((some FieldType.boolean)) [.ref v0R, .int v1I, .int v2I, .int v3I, .int v4I, .int v5I, .int v6I] σ (M_Ft_chooseSilent v0R v1I v2I v3I v4I v5I v6I σ) := (q_Ft_chooseSilent G l 80) v0R v1I v2I v3I v4I v5I v6I σ
abbrev GT_Ft_chooseRinging : Type := (Nat → Int32 → Int32 → Int32 → Int32 → Int32 → Int32 → AM → Option (Int32 × AM))
/-! BellPlate$Fit.chooseRinging(IIIIII)Z -/
abbrev y_Ft_chooseRinging : MethodName := ⟨"BellPlate$Fit", "chooseRinging", "(IIIIII)Z"⟩
theorem k_Ft_chooseRinging : y_Ft_chooseRinging.cls ≠ "java/lang/invoke/MethodHandle" ∧ y_Ft_chooseRinging.cls ≠ "java/lang/invoke/VarHandle" ∧ (parseMethodDescriptor y_Ft_chooseRinging.desc).map (fun d => d.parameters.length) = some 6 := by decide +kernel
theorem d_Ft_chooseRinging_0 : decode prog_5_method_9_code 0 = .ok (.iload_n 2, 1) := by decide +kernel
theorem d_Ft_chooseRinging_1 : decode prog_5_method_9_code 1 = .ok (.ifCond .gt 17, 3) := by decide +kernel
theorem d_Ft_chooseRinging_4 : decode prog_5_method_9_code 4 = .ok (.aload_n 0, 1) := by decide +kernel
theorem d_Ft_chooseRinging_5 : decode prog_5_method_9_code 5 = .ok (.iload_n 1, 1) := by decide +kernel
theorem d_Ft_chooseRinging_6 : decode prog_5_method_9_code 6 = .ok (.iload_n 1, 1) := by decide +kernel
theorem d_Ft_chooseRinging_7 : decode prog_5_method_9_code 7 = .ok (.iconst 0, 1) := by decide +kernel
theorem d_Ft_chooseRinging_8 : decode prog_5_method_9_code 8 = .ok (.iload 4, 2) := by decide +kernel
theorem d_Ft_chooseRinging_10 : decode prog_5_method_9_code 10 = .ok (.iload 5, 2) := by decide +kernel
theorem d_Ft_chooseRinging_12 : decode prog_5_method_9_code 12 = .ok (.iload 6, 2) := by decide +kernel
theorem d_Ft_chooseRinging_14 : decode prog_5_method_9_code 14 = .ok (.invokevirtual 141, 3) := by decide +kernel
theorem d_Ft_chooseRinging_17 : decode prog_5_method_9_code 17 = .ok (.ireturn, 1) := by decide +kernel
theorem d_Ft_chooseRinging_18 : decode prog_5_method_9_code 18 = .ok (.iload_n 3, 1) := by decide +kernel
theorem d_Ft_chooseRinging_19 : decode prog_5_method_9_code 19 = .ok (.istore 7, 2) := by decide +kernel
theorem d_Ft_chooseRinging_21 : decode prog_5_method_9_code 21 = .ok (.iload 7, 2) := by decide +kernel
theorem d_Ft_chooseRinging_23 : decode prog_5_method_9_code 23 = .ok (.aload_n 0, 1) := by decide +kernel
theorem d_Ft_chooseRinging_24 : decode prog_5_method_9_code 24 = .ok (.getfield 117, 3) := by decide +kernel
theorem d_Ft_chooseRinging_27 : decode prog_5_method_9_code 27 = .ok (.if_icmp .ge 75, 3) := by decide +kernel
theorem d_Ft_chooseRinging_30 : decode prog_5_method_9_code 30 = .ok (.aload_n 0, 1) := by decide +kernel
theorem d_Ft_chooseRinging_31 : decode prog_5_method_9_code 31 = .ok (.getfield 39, 3) := by decide +kernel
theorem d_Ft_chooseRinging_34 : decode prog_5_method_9_code 34 = .ok (.iload 7, 2) := by decide +kernel
theorem d_Ft_chooseRinging_36 : decode prog_5_method_9_code 36 = .ok (.iaload, 1) := by decide +kernel
theorem d_Ft_chooseRinging_37 : decode prog_5_method_9_code 37 = .ok (.istore 8, 2) := by decide +kernel
theorem d_Ft_chooseRinging_39 : decode prog_5_method_9_code 39 = .ok (.aload_n 0, 1) := by decide +kernel
theorem d_Ft_chooseRinging_40 : decode prog_5_method_9_code 40 = .ok (.getfield 15, 3) := by decide +kernel
theorem d_Ft_chooseRinging_43 : decode prog_5_method_9_code 43 = .ok (.iload 8, 2) := by decide +kernel
theorem d_Ft_chooseRinging_45 : decode prog_5_method_9_code 45 = .ok (.invokevirtual 126, 3) := by decide +kernel
theorem d_Ft_chooseRinging_48 : decode prog_5_method_9_code 48 = .ok (.istore 9, 2) := by decide +kernel
theorem d_Ft_chooseRinging_50 : decode prog_5_method_9_code 50 = .ok (.aload_n 0, 1) := by decide +kernel
theorem d_Ft_chooseRinging_51 : decode prog_5_method_9_code 51 = .ok (.getfield 42, 3) := by decide +kernel
theorem d_Ft_chooseRinging_54 : decode prog_5_method_9_code 54 = .ok (.iload_n 1, 1) := by decide +kernel
theorem d_Ft_chooseRinging_55 : decode prog_5_method_9_code 55 = .ok (.iload_n 2, 1) := by decide +kernel
theorem d_Ft_chooseRinging_56 : decode prog_5_method_9_code 56 = .ok (.isub, 1) := by decide +kernel
theorem d_Ft_chooseRinging_57 : decode prog_5_method_9_code 57 = .ok (.iload 8, 2) := by decide +kernel
theorem d_Ft_chooseRinging_59 : decode prog_5_method_9_code 59 = .ok (.iastore, 1) := by decide +kernel
theorem d_Ft_chooseRinging_60 : decode prog_5_method_9_code 60 = .ok (.aload_n 0, 1) := by decide +kernel
theorem d_Ft_chooseRinging_61 : decode prog_5_method_9_code 61 = .ok (.iload_n 1, 1) := by decide +kernel
theorem d_Ft_chooseRinging_62 : decode prog_5_method_9_code 62 = .ok (.iload_n 2, 1) := by decide +kernel
theorem d_Ft_chooseRinging_63 : decode prog_5_method_9_code 63 = .ok (.iconst 1, 1) := by decide +kernel
theorem d_Ft_chooseRinging_64 : decode prog_5_method_9_code 64 = .ok (.isub, 1) := by decide +kernel
theorem d_Ft_chooseRinging_65 : decode prog_5_method_9_code 65 = .ok (.iload 7, 2) := by decide +kernel
theorem d_Ft_chooseRinging_67 : decode prog_5_method_9_code 67 = .ok (.iload 4, 2) := by decide +kernel
theorem d_Ft_chooseRinging_69 : decode prog_5_method_9_code 69 = .ok (.iload 9, 2) := by decide +kernel
theorem d_Ft_chooseRinging_71 : decode prog_5_method_9_code 71 = .ok (.ior, 1) := by decide +kernel
theorem d_Ft_chooseRinging_72 : decode prog_5_method_9_code 72 = .ok (.iload 5, 2) := by decide +kernel
theorem d_Ft_chooseRinging_74 : decode prog_5_method_9_code 74 = .ok (.iload 4, 2) := by decide +kernel
theorem d_Ft_chooseRinging_76 : decode prog_5_method_9_code 76 = .ok (.iload 9, 2) := by decide +kernel
theorem d_Ft_chooseRinging_78 : decode prog_5_method_9_code 78 = .ok (.iand, 1) := by decide +kernel
theorem d_Ft_chooseRinging_79 : decode prog_5_method_9_code 79 = .ok (.ior, 1) := by decide +kernel
theorem d_Ft_chooseRinging_80 : decode prog_5_method_9_code 80 = .ok (.iload 6, 2) := by decide +kernel
theorem d_Ft_chooseRinging_82 : decode prog_5_method_9_code 82 = .ok (.iload 5, 2) := by decide +kernel
theorem d_Ft_chooseRinging_84 : decode prog_5_method_9_code 84 = .ok (.iload 9, 2) := by decide +kernel
theorem d_Ft_chooseRinging_86 : decode prog_5_method_9_code 86 = .ok (.iand, 1) := by decide +kernel
theorem d_Ft_chooseRinging_87 : decode prog_5_method_9_code 87 = .ok (.ior, 1) := by decide +kernel
theorem d_Ft_chooseRinging_88 : decode prog_5_method_9_code 88 = .ok (.invokevirtual 113, 3) := by decide +kernel
theorem d_Ft_chooseRinging_91 : decode prog_5_method_9_code 91 = .ok (.ifCond .eq 5, 3) := by decide +kernel
theorem d_Ft_chooseRinging_94 : decode prog_5_method_9_code 94 = .ok (.iconst 1, 1) := by decide +kernel
theorem d_Ft_chooseRinging_95 : decode prog_5_method_9_code 95 = .ok (.ireturn, 1) := by decide +kernel
theorem d_Ft_chooseRinging_96 : decode prog_5_method_9_code 96 = .ok (.iinc 7 1, 3) := by decide +kernel
theorem d_Ft_chooseRinging_99 : decode prog_5_method_9_code 99 = .ok (.goto (-78), 3) := by decide +kernel
theorem d_Ft_chooseRinging_102 : decode prog_5_method_9_code 102 = .ok (.iconst 0, 1) := by decide +kernel
theorem d_Ft_chooseRinging_103 : decode prog_5_method_9_code 103 = .ok (.ireturn, 1) := by decide +kernel
def H_Ft_chooseRinging (G : GX) (l : Launch) (n0 : Nat) (rec : GT_Ft_chooseRinging) : Prop := (∀ (v0R : Nat) (v1I : Int32) (v2I : Int32) (v3I : Int32) (v4I : Int32) (v5I : Int32) (v6I : Int32) (σ : AM), CT eI G l (83 + n0) y_Ft_chooseRinging prog_5_method_9_code 10 ((some FieldType.boolean)) [.ref v0R, .int v1I, .int v2I, .int v3I, .int v4I, .int v5I, .int v6I] σ (rec v0R v1I v2I v3I v4I v5I v6I σ))
abbrev S_Ft_chooseRinging : Type := Nat × Nat × Int32 × Int32 × Int32 × Int32 × Int32 × Int32 × Int32 × AM
noncomputable def T_Ft_chooseRinging_0 (rec : GT_Ft_chooseRinging) (v0R : Nat) (v1I : Int32) (v2I : Int32) (v3I : Int32) (v4I : Int32) (v5I : Int32) (v6I : Int32) (σ : AM) : S_Ft_chooseRinging ⊕ Option (Int32 × AM) :=
  if 0 < v2I then (.inl (1, v0R, v1I, v2I, 0, v4I, v5I, v6I, v3I, σ)) else (gdT (okO σ v0R 8) <| bndT (M_Ft_chooseSilent v0R v1I v1I (0 : Int32) v4I v5I v6I σ) fun r1 σ2 => gdT (isB r1) <| .inr (some (r1, σ2)))
noncomputable def T_Ft_chooseRinging_1 (rec : GT_Ft_chooseRinging) (v0R : Nat) (v1I : Int32) (v2I : Int32) (v4I : Int32) (v5I : Int32) (v6I : Int32) (v7I : Int32) (σ : AM) : S_Ft_chooseRinging ⊕ Option (Int32 × AM) :=
  gdT (okO σ v0R 8) <| if v7I < (aI σ v0R 14) then (gdT (okO σ (aR σ v0R 12) 101) <| gdT (inB v7I (aN σ (aR σ v0R 12))) <| letT (aI σ (aR σ v0R 12) v7I.toNatClampNeg) fun x4 => gdT (okO σ (aR σ v0R 1) 4) <| bndT (M_Bk_setAt (aR σ v0R 1) x4 σ) fun r6 σ7 => gdT (okO σ7 v0R 8) <| gdT (okO σ7 (aR σ7 v0R 13) 101) <| gdT (inB (v1I - v2I) (aN σ7 (aR σ7 v0R 13))) <| letT (sI σ7 (aR σ7 v0R 13) (v1I - v2I).toNatClampNeg x4) fun σ11 => bndT (rec v0R v1I (v2I - (1 : Int32)) v7I (v4I ||| r6) (v5I ||| (v4I &&& r6)) (v6I ||| (v5I &&& r6)) σ11) fun r13 σ14 => if r13 = 0 then (.inl (1, v0R, v1I, v2I, 0, v4I, v5I, v6I, v7I + (1 : Int32), σ14)) else (.inr (some ((1 : Int32), σ14)))) else (.inr (some ((0 : Int32), σ)))
noncomputable def F_Ft_chooseRinging (rec : GT_Ft_chooseRinging) : S_Ft_chooseRinging → S_Ft_chooseRinging ⊕ Option (Int32 × AM) := fun s => match s.1 with
  | 0 => T_Ft_chooseRinging_0 rec (s.2.1) (s.2.2.1) (s.2.2.2.1) (s.2.2.2.2.1) (s.2.2.2.2.2.1) (s.2.2.2.2.2.2.1) (s.2.2.2.2.2.2.2.1) (s.2.2.2.2.2.2.2.2.2)
  | _ => T_Ft_chooseRinging_1 rec (s.2.1) (s.2.2.1) (s.2.2.2.1) (s.2.2.2.2.2.1) (s.2.2.2.2.2.2.1) (s.2.2.2.2.2.2.2.1) (s.2.2.2.2.2.2.2.2.1) (s.2.2.2.2.2.2.2.2.2)
noncomputable def L_Ft_chooseRinging_0 (rec : GT_Ft_chooseRinging) (v0R : Nat) (v1I : Int32) (v2I : Int32) (v3I : Int32) (v4I : Int32) (v5I : Int32) (v6I : Int32) (σ : AM) : Option (Int32 × AM) := lp (F_Ft_chooseRinging rec) (0, v0R, v1I, v2I, v3I, v4I, v5I, v6I, 0, σ)
noncomputable def L_Ft_chooseRinging_1 (rec : GT_Ft_chooseRinging) (v0R : Nat) (v1I : Int32) (v2I : Int32) (v4I : Int32) (v5I : Int32) (v6I : Int32) (v7I : Int32) (σ : AM) : Option (Int32 × AM) := lp (F_Ft_chooseRinging rec) (1, v0R, v1I, v2I, 0, v4I, v5I, v6I, v7I, σ)
set_option maxRecDepth 20000 in
theorem E_Ft_chooseRinging_0 (rec : GT_Ft_chooseRinging) (v0R : Nat) (v1I : Int32) (v2I : Int32) (v3I : Int32) (v4I : Int32) (v5I : Int32) (v6I : Int32) (σ : AM) : L_Ft_chooseRinging_0 rec v0R v1I v2I v3I v4I v5I v6I σ = (if 0 < v2I then (L_Ft_chooseRinging_1 rec v0R v1I v2I v4I v5I v6I v3I σ) else (gd (okO σ v0R 8) <| bnd (M_Ft_chooseSilent v0R v1I v1I (0 : Int32) v4I v5I v6I σ) fun r1 σ2 => gd (isB r1) <| (some (r1, σ2)))) := by
  unfold L_Ft_chooseRinging_0
  rw [lp_eq]
  show lpK (lp (F_Ft_chooseRinging rec)) (T_Ft_chooseRinging_0 rec v0R v1I v2I v3I v4I v5I v6I σ) = _
  unfold T_Ft_chooseRinging_0
  simp only [lpK_ite, lq_inl, lq_inr, lpK_bnd, lpK_gd, lq_let]
  try rfl
set_option maxRecDepth 20000 in
theorem E_Ft_chooseRinging_1 (rec : GT_Ft_chooseRinging) (v0R : Nat) (v1I : Int32) (v2I : Int32) (v4I : Int32) (v5I : Int32) (v6I : Int32) (v7I : Int32) (σ : AM) : L_Ft_chooseRinging_1 rec v0R v1I v2I v4I v5I v6I v7I σ = (gd (okO σ v0R 8) <| if v7I < (aI σ v0R 14) then (gd (okO σ (aR σ v0R 12) 101) <| gd (inB v7I (aN σ (aR σ v0R 12))) <| letT (aI σ (aR σ v0R 12) v7I.toNatClampNeg) fun x4 => gd (okO σ (aR σ v0R 1) 4) <| bnd (M_Bk_setAt (aR σ v0R 1) x4 σ) fun r6 σ7 => gd (okO σ7 v0R 8) <| gd (okO σ7 (aR σ7 v0R 13) 101) <| gd (inB (v1I - v2I) (aN σ7 (aR σ7 v0R 13))) <| letT (sI σ7 (aR σ7 v0R 13) (v1I - v2I).toNatClampNeg x4) fun σ11 => bnd (rec v0R v1I (v2I - (1 : Int32)) v7I (v4I ||| r6) (v5I ||| (v4I &&& r6)) (v6I ||| (v5I &&& r6)) σ11) fun r13 σ14 => if r13 = 0 then (L_Ft_chooseRinging_1 rec v0R v1I v2I v4I v5I v6I (v7I + (1 : Int32)) σ14) else ((some ((1 : Int32), σ14)))) else ((some ((0 : Int32), σ)))) := by
  unfold L_Ft_chooseRinging_1
  rw [lp_eq]
  show lpK (lp (F_Ft_chooseRinging rec)) (T_Ft_chooseRinging_1 rec v0R v1I v2I v4I v5I v6I v7I σ) = _
  unfold T_Ft_chooseRinging_1
  simp only [lpK_ite, lq_inl, lq_inr, lpK_bnd, lpK_gd, lq_let]
  try rfl
noncomputable def N_Ft_chooseRinging (rec : GT_Ft_chooseRinging) (v0R : Nat) (v1I : Int32) (v2I : Int32) (v3I : Int32) (v4I : Int32) (v5I : Int32) (v6I : Int32) (σ : AM) : Option (Int32 × AM) := mw σ (L_Ft_chooseRinging_0 rec v0R v1I v2I v3I v4I v5I v6I σ)
def I_Ft_chooseRinging (G : GX) (p : Program) (l : Launch) (e : Env) (s : State) (m : MethodId) (args : Array Value) (below : List Frame) (meth : Method) (c : Code) (n0 : Nat) (rec : GT_Ft_chooseRinging) (z0 u0 n : Nat) : Prop :=
  (∀ (v0R : Nat) (v1I : Int32) (v2I : Int32) (v3I : Int32) (v4I : Int32) (v5I : Int32) (v6I : Int32) (σ : AM), VX (QM eI G args s below z0 u0) G p l e s m args below meth c (83 + n0 + 1) z0 u0 10 (lpn (F_Ft_chooseRinging rec) n (0, v0R, v1I, v2I, v3I, v4I, v5I, v6I, 0, σ)) 0 [(0, .ref v0R), (1, .int v1I), (2, .int v2I), (3, .int v3I), (4, .int v4I), (5, .int v5I), (6, .int v6I)] [] σ) ∧
  (∀ (v0R : Nat) (v1I : Int32) (v2I : Int32) (v4I : Int32) (v5I : Int32) (v6I : Int32) (v7I : Int32) (σ : AM), VX (QM eI G args s below z0 u0) G p l e s m args below meth c (83 + n0 + 1) z0 u0 10 (lpn (F_Ft_chooseRinging rec) n (1, v0R, v1I, v2I, 0, v4I, v5I, v6I, v7I, σ)) 21 [(0, .ref v0R), (1, .int v1I), (2, .int v2I), (4, .int v4I), (5, .int v5I), (6, .int v6I), (7, .int v7I)] [] σ)
set_option maxRecDepth 20000 in
theorem s_Ft_chooseRinging_0 {G : GX} {p : Program} {l : Launch} {e : Env} {s : State} {m : MethodId} {args : Array Value} {below : List Frame} {meth : Method} {c : Code} {z0 u0 n : Nat} (C : Cx G p s m args meth c prog_5_method_9_code 10 "BellPlate$Fit" ((some FieldType.boolean))) {n0 : Nat} {rec : GT_Ft_chooseRinging} (HR : H_Ft_chooseRinging G l n0 rec) (IH : I_Ft_chooseRinging G p l e s m args below meth c n0 rec z0 u0 n) (v0R : Nat) (v1I : Int32) (v2I : Int32) (v3I : Int32) (v4I : Int32) (v5I : Int32) (v6I : Int32) (σ : AM) : VX (QM eI G args s below z0 u0) G p l e s m args below meth c (83 + n0 + 1) z0 u0 10 (lpK (lpn (F_Ft_chooseRinging rec) n) (T_Ft_chooseRinging_0 rec v0R v1I v2I v3I v4I v5I v6I σ)) 0 [(0, .ref v0R), (1, .int v1I), (2, .int v2I), (3, .int v3I), (4, .int v4I), (5, .int v5I), (6, .int v6I)] [] σ := by
  unfold T_Ft_chooseRinging_0
  refine x_iload_n C d_Ft_chooseRinging_0 2 rfl ?_
  refine x_if_gt (tgt := 18) C d_Ft_chooseRinging_1 (by decide) (fun _ => ?_) (fun _ => ?_)
  · refine x_iload_n C d_Ft_chooseRinging_18 3 rfl ?_
    refine x_istore (lv' := [(7, .int v3I), (0, .ref v0R), (1, .int v1I), (2, .int v2I), (3, .int v3I), (4, .int v4I), (5, .int v5I), (6, .int v6I)]) C d_Ft_chooseRinging_19 (by decide) rfl ?_
    refine x_lv [1, 2, 3, 5, 6, 7, 0] rfl ?_
    exact IH.2 v0R v1I v2I v4I v5I v6I v3I (σ)
  · refine x_aload_n C d_Ft_chooseRinging_4 0 rfl ?_
    refine x_iload_n C d_Ft_chooseRinging_5 1 rfl ?_
    refine x_iload_n C d_Ft_chooseRinging_6 1 rfl ?_
    refine x_iconst (v := (0 : Int32)) C d_Ft_chooseRinging_7 (by decide) ?_
    refine x_iload C d_Ft_chooseRinging_8 4 rfl ?_
    refine x_iload C d_Ft_chooseRinging_10 5 rfl ?_
    refine x_iload C d_Ft_chooseRinging_12 6 rfl ?_
    refine x_gd (fun h3 => ?_)
    refine x_callVI (As := [.int v1I, .int v1I, .int (0 : Int32), .int v4I, .int v5I, .int v6I]) C (c_Ft_chooseSilent G l v0R v1I v1I (0 : Int32) v4I v5I v6I σ) (okO_iff.mp h3) rfl w1393 w44 w1391 w1394 w129 k_Ft_chooseSilent rfl (by omega) (by decide) rfl (Nat.le_of_ble_eq_true rfl) d_Ft_chooseRinging_14 (fun r1 σ2 => ?_)
    refine x_gd (fun h4 => ?_)
    exact x_zret C (isB_narrow h4) d_Ft_chooseRinging_17
set_option maxRecDepth 20000 in
theorem s_Ft_chooseRinging_1 {G : GX} {p : Program} {l : Launch} {e : Env} {s : State} {m : MethodId} {args : Array Value} {below : List Frame} {meth : Method} {c : Code} {z0 u0 n : Nat} (C : Cx G p s m args meth c prog_5_method_9_code 10 "BellPlate$Fit" ((some FieldType.boolean))) {n0 : Nat} {rec : GT_Ft_chooseRinging} (HR : H_Ft_chooseRinging G l n0 rec) (IH : I_Ft_chooseRinging G p l e s m args below meth c n0 rec z0 u0 n) (v0R : Nat) (v1I : Int32) (v2I : Int32) (v4I : Int32) (v5I : Int32) (v6I : Int32) (v7I : Int32) (σ : AM) : VX (QM eI G args s below z0 u0) G p l e s m args below meth c (83 + n0 + 1) z0 u0 10 (lpK (lpn (F_Ft_chooseRinging rec) n) (T_Ft_chooseRinging_1 rec v0R v1I v2I v4I v5I v6I v7I σ)) 21 [(0, .ref v0R), (1, .int v1I), (2, .int v2I), (4, .int v4I), (5, .int v5I), (6, .int v6I), (7, .int v7I)] [] σ := by
  unfold T_Ft_chooseRinging_1
  refine x_iload C d_Ft_chooseRinging_21 6 rfl ?_
  refine x_aload_n C d_Ft_chooseRinging_23 0 rfl ?_
  refine x_gd (fun h1 => ?_)
  refine x_getI (k := 14) C (okO_iff.mp h1) rfl j7_ok (by decide) rfl w495 d_Ft_chooseRinging_24 ?_
  refine x_icmp_ge (tgt := 102) C d_Ft_chooseRinging_27 (by decide) (fun _ => ?_) (fun _ => ?_)
  · refine x_aload_n C d_Ft_chooseRinging_30 0 rfl ?_
    refine x_gd (fun h2 => ?_)
    refine x_getR (k := 12) (kv := 101) C (okO_iff.mp h1) rfl j7_ok (by decide) rfl (okO_iff.mp h2) (by decide) w493 d_Ft_chooseRinging_31 ?_
    refine x_iload C d_Ft_chooseRinging_34 6 rfl ?_
    refine x_gd (fun h3 => ?_)
    refine x_aldI C (okO_iff.mp h2) (inB_iff.mp h3) d_Ft_chooseRinging_36 ?_
    refine x_letI (fun x4 _ => ?_)
    refine x_istore (lv' := [(8, .int x4), (0, .ref v0R), (1, .int v1I), (2, .int v2I), (4, .int v4I), (5, .int v5I), (6, .int v6I), (7, .int v7I)]) C d_Ft_chooseRinging_37 (by decide) rfl ?_
    refine x_aload_n C d_Ft_chooseRinging_39 1 rfl ?_
    refine x_gd (fun h5 => ?_)
    refine x_getR (k := 1) (kv := 4) C (okO_iff.mp h1) rfl j7_ok (by decide) rfl (okO_iff.mp h5) (by decide) w482 d_Ft_chooseRinging_40 ?_
    refine x_iload C d_Ft_chooseRinging_43 0 rfl ?_
    refine x_callVI (As := [.int x4]) C (c_Bk_setAt G l (aR σ v0R 1) x4 σ) (okO_iff.mp h5) rfl w1371 w1372 w1370 w1373 w124 k_Bk_setAt rfl (by omega) (by decide) rfl (Nat.le_of_ble_eq_true rfl) d_Ft_chooseRinging_45 (fun r6 σ7 => ?_)
    refine x_istore (lv' := [(9, .int r6), (8, .int x4), (0, .ref v0R), (1, .int v1I), (2, .int v2I), (4, .int v4I), (5, .int v5I), (6, .int v6I), (7, .int v7I)]) C d_Ft_chooseRinging_48 (by decide) rfl ?_
    refine x_aload_n C d_Ft_chooseRinging_50 2 rfl ?_
    refine x_gd (fun h8 => ?_)
    refine x_gd (fun h9 => ?_)
    refine x_getR (k := 13) (kv := 101) C (okO_iff.mp h8) rfl j7_ok (by decide) rfl (okO_iff.mp h9) (by decide) w494 d_Ft_chooseRinging_51 ?_
    refine x_iload_n C d_Ft_chooseRinging_54 3 rfl ?_
    refine x_iload_n C d_Ft_chooseRinging_55 4 rfl ?_
    refine x_isub C d_Ft_chooseRinging_56 ?_
    refine x_iload C d_Ft_chooseRinging_57 1 rfl ?_
    refine x_gd (fun h10 => ?_)
    refine x_astI C (okO_iff.mp h9) (inB_iff.mp h10) d_Ft_chooseRinging_59 ?_
    refine x_letS (fun σ11 e12 => ?_)
    refine x_aload_n C d_Ft_chooseRinging_60 2 rfl ?_
    refine x_iload_n C d_Ft_chooseRinging_61 3 rfl ?_
    refine x_iload_n C d_Ft_chooseRinging_62 4 rfl ?_
    refine x_iconst (v := (1 : Int32)) C d_Ft_chooseRinging_63 (by decide) ?_
    refine x_isub C d_Ft_chooseRinging_64 ?_
    refine x_iload C d_Ft_chooseRinging_65 8 rfl ?_
    refine x_iload C d_Ft_chooseRinging_67 5 rfl ?_
    refine x_iload C d_Ft_chooseRinging_69 0 rfl ?_
    refine x_ior C d_Ft_chooseRinging_71 ?_
    refine x_iload C d_Ft_chooseRinging_72 6 rfl ?_
    refine x_iload C d_Ft_chooseRinging_74 5 rfl ?_
    refine x_iload C d_Ft_chooseRinging_76 0 rfl ?_
    refine x_iand C d_Ft_chooseRinging_78 ?_
    refine x_ior C d_Ft_chooseRinging_79 ?_
    refine x_iload C d_Ft_chooseRinging_80 7 rfl ?_
    refine x_iload C d_Ft_chooseRinging_82 6 rfl ?_
    refine x_iload C d_Ft_chooseRinging_84 0 rfl ?_
    refine x_iand C d_Ft_chooseRinging_86 ?_
    refine x_ior C d_Ft_chooseRinging_87 ?_
    refine x_callVI (As := [.int v1I, .int (v2I - (1 : Int32)), .int v7I, .int (v4I ||| r6), .int (v5I ||| (v4I &&& r6)), .int (v6I ||| (v5I &&& r6))]) C (HR v0R v1I (v2I - (1 : Int32)) v7I (v4I ||| r6) (v5I ||| (v4I &&& r6)) (v6I ||| (v5I &&& r6)) σ11) (by first | exact (okO_iff.mp h8) | (rw [e12]; exact (okO_iff.mp h8))) rfl w1389 w43 w1387 w1390 w129 k_Ft_chooseRinging rfl (by omega) (by decide) rfl (Nat.le_of_ble_eq_true rfl) d_Ft_chooseRinging_88 (fun r13 σ14 => ?_)
    refine x_if_eq (tgt := 96) C d_Ft_chooseRinging_91 (by decide) (fun _ => ?_) (fun _ => ?_)
    · refine x_iinc (v := v7I + (1 : Int32)) (lv' := [(7, .int (v7I + (1 : Int32))), (9, .int r6), (8, .int x4), (0, .ref v0R), (1, .int v1I), (2, .int v2I), (4, .int v4I), (5, .int v5I), (6, .int v6I)]) C d_Ft_chooseRinging_96 8 rfl rfl (by decide) rfl ?_
      refine x_goto (tgt := 21) C d_Ft_chooseRinging_99 (by decide) ?_
      refine x_lv [3, 4, 5, 6, 7, 8, 0] rfl ?_
      exact IH.2 v0R v1I v2I v4I v5I v6I (v7I + (1 : Int32)) (σ14)
    · refine x_iconst (v := (1 : Int32)) C d_Ft_chooseRinging_94 (by decide) ?_
      exact x_zret C (by decide) d_Ft_chooseRinging_95
  · refine x_iconst (v := (0 : Int32)) C d_Ft_chooseRinging_102 (by decide) ?_
    exact x_zret C (by decide) d_Ft_chooseRinging_103
theorem i_Ft_chooseRinging {G : GX} {p : Program} {l : Launch} {e : Env} {s : State} {m : MethodId} {args : Array Value} {below : List Frame} {meth : Method} {c : Code} {z0 u0 : Nat} (C : Cx G p s m args meth c prog_5_method_9_code 10 "BellPlate$Fit" ((some FieldType.boolean))) {n0 : Nat} {rec : GT_Ft_chooseRinging} (HR : H_Ft_chooseRinging G l n0 rec) (n : Nat) : I_Ft_chooseRinging G p l e s m args below meth c n0 rec z0 u0 n := by
  induction n with
  | zero => exact ⟨fun _ _ _ _ _ _ _ _ => x_none, fun _ _ _ _ _ _ _ _ => x_none⟩
  | succ n IH => exact ⟨fun v0R v1I v2I v3I v4I v5I v6I σ => s_Ft_chooseRinging_0 C HR IH v0R v1I v2I v3I v4I v5I v6I σ, fun v0R v1I v2I v4I v5I v6I v7I σ => s_Ft_chooseRinging_1 C HR IH v0R v1I v2I v4I v5I v6I v7I σ⟩
theorem n_Ft_chooseRinging (G : GX) (l : Launch) (n0 : Nat) (rec : GT_Ft_chooseRinging) (HR : H_Ft_chooseRinging G l n0 rec) (v0R : Nat) (v1I : Int32) (v2I : Int32) (v3I : Int32) (v4I : Int32) (v5I : Int32) (v6I : Int32) (σ : AM) : CT eI G l (83 + (n0 + 1)) y_Ft_chooseRinging prog_5_method_9_code 10 ((some FieldType.boolean)) [.ref v0R, .int v1I, .int v2I, .int v3I, .int v4I, .int v5I, .int v6I] σ (N_Ft_chooseRinging rec v0R v1I v2I v3I v4I v5I v6I σ) := by
  refine ct_of (by decide +kernel) (Nat.le_of_ble_eq_true rfl) (fun p e s m args below meth c C hin => ?_)
  refine x_lve (lv' := [(0, .ref v0R), (1, .int v1I), (2, .int v2I), (3, .int v3I), (4, .int v4I), (5, .int v5I), (6, .int v6I)]) rfl ?_
  intro r σ' h
  obtain ⟨n, hn⟩ := (lp_iff _ _ _).mp h
  exact (i_Ft_chooseRinging C HR n).1 v0R v1I v2I v3I v4I v5I v6I σ r σ' hn
noncomputable def Q_Ft_chooseRinging : Nat → GT_Ft_chooseRinging
  | 0 => fun _ _ _ _ _ _ _ _ => none
  | n + 1 => fun v0R v1I v2I v3I v4I v5I v6I σ => N_Ft_chooseRinging (Q_Ft_chooseRinging n) v0R v1I v2I v3I v4I v5I v6I σ
theorem q_Ft_chooseRinging (G : GX) (l : Launch) (n : Nat) : H_Ft_chooseRinging G l n (Q_Ft_chooseRinging n) := by
  induction n with
  | zero => exact fun _ _ _ _ _ _ _ _ r σ' h => absurd (show none = some (r, σ') from h) (fun q => by cases q)
  | succ n ih => exact fun v0R v1I v2I v3I v4I v5I v6I σ => n_Ft_chooseRinging G l n (Q_Ft_chooseRinging n) ih v0R v1I v2I v3I v4I v5I v6I σ
noncomputable def M_Ft_chooseRinging (v0R : Nat) (v1I : Int32) (v2I : Int32) (v3I : Int32) (v4I : Int32) (v5I : Int32) (v6I : Int32) (σ : AM) : Option (Int32 × AM) := (Q_Ft_chooseRinging 80) v0R v1I v2I v3I v4I v5I v6I σ
theorem c_Ft_chooseRinging (G : GX) (l : Launch) (v0R : Nat) (v1I : Int32) (v2I : Int32) (v3I : Int32) (v4I : Int32) (v5I : Int32) (v6I : Int32) (σ : AM) : CT eI G l 163 y_Ft_chooseRinging prog_5_method_9_code 10 ((some FieldType.boolean)) [.ref v0R, .int v1I, .int v2I, .int v3I, .int v4I, .int v5I, .int v6I] σ (M_Ft_chooseRinging v0R v1I v2I v3I v4I v5I v6I σ) := (q_Ft_chooseRinging G l 80) v0R v1I v2I v3I v4I v5I v6I σ
/-! BellPlate$Fit.seekTrade()V -/
abbrev y_Ft_seekTrade : MethodName := ⟨"BellPlate$Fit", "seekTrade", "()V"⟩
theorem k_Ft_seekTrade : y_Ft_seekTrade.cls ≠ "java/lang/invoke/MethodHandle" ∧ y_Ft_seekTrade.cls ≠ "java/lang/invoke/VarHandle" ∧ (parseMethodDescriptor y_Ft_seekTrade.desc).map (fun d => d.parameters.length) = some 0 := by decide +kernel
theorem d_Ft_seekTrade_0 : decode prog_5_method_6_code 0 = .ok (.aload_n 0, 1) := by decide +kernel
theorem d_Ft_seekTrade_1 : decode prog_5_method_6_code 1 = .ok (.invokevirtual 107, 3) := by decide +kernel
theorem d_Ft_seekTrade_4 : decode prog_5_method_6_code 4 = .ok (.aload_n 0, 1) := by decide +kernel
theorem d_Ft_seekTrade_5 : decode prog_5_method_6_code 5 = .ok (.iconst 0, 1) := by decide +kernel
theorem d_Ft_seekTrade_6 : decode prog_5_method_6_code 6 = .ok (.putfield 110, 3) := by decide +kernel
theorem d_Ft_seekTrade_9 : decode prog_5_method_6_code 9 = .ok (.iconst 1, 1) := by decide +kernel
theorem d_Ft_seekTrade_10 : decode prog_5_method_6_code 10 = .ok (.istore_n 1, 1) := by decide +kernel
theorem d_Ft_seekTrade_11 : decode prog_5_method_6_code 11 = .ok (.iload_n 1, 1) := by decide +kernel
theorem d_Ft_seekTrade_12 : decode prog_5_method_6_code 12 = .ok (.iconst 3, 1) := by decide +kernel
theorem d_Ft_seekTrade_13 : decode prog_5_method_6_code 13 = .ok (.if_icmp .gt 34, 3) := by decide +kernel
theorem d_Ft_seekTrade_16 : decode prog_5_method_6_code 16 = .ok (.aload_n 0, 1) := by decide +kernel
theorem d_Ft_seekTrade_17 : decode prog_5_method_6_code 17 = .ok (.getfield 110, 3) := by decide +kernel
theorem d_Ft_seekTrade_20 : decode prog_5_method_6_code 20 = .ok (.ifCond .ne 27, 3) := by decide +kernel
theorem d_Ft_seekTrade_23 : decode prog_5_method_6_code 23 = .ok (.aload_n 0, 1) := by decide +kernel
theorem d_Ft_seekTrade_24 : decode prog_5_method_6_code 24 = .ok (.iload_n 1, 1) := by decide +kernel
theorem d_Ft_seekTrade_25 : decode prog_5_method_6_code 25 = .ok (.iload_n 1, 1) := by decide +kernel
theorem d_Ft_seekTrade_26 : decode prog_5_method_6_code 26 = .ok (.iconst 0, 1) := by decide +kernel
theorem d_Ft_seekTrade_27 : decode prog_5_method_6_code 27 = .ok (.iconst 0, 1) := by decide +kernel
theorem d_Ft_seekTrade_28 : decode prog_5_method_6_code 28 = .ok (.iconst 0, 1) := by decide +kernel
theorem d_Ft_seekTrade_29 : decode prog_5_method_6_code 29 = .ok (.iconst 0, 1) := by decide +kernel
theorem d_Ft_seekTrade_30 : decode prog_5_method_6_code 30 = .ok (.invokevirtual 113, 3) := by decide +kernel
theorem d_Ft_seekTrade_33 : decode prog_5_method_6_code 33 = .ok (.ifCond .eq 8, 3) := by decide +kernel
theorem d_Ft_seekTrade_36 : decode prog_5_method_6_code 36 = .ok (.aload_n 0, 1) := by decide +kernel
theorem d_Ft_seekTrade_37 : decode prog_5_method_6_code 37 = .ok (.iload_n 1, 1) := by decide +kernel
theorem d_Ft_seekTrade_38 : decode prog_5_method_6_code 38 = .ok (.putfield 110, 3) := by decide +kernel
theorem d_Ft_seekTrade_41 : decode prog_5_method_6_code 41 = .ok (.iinc 1 1, 3) := by decide +kernel
theorem d_Ft_seekTrade_44 : decode prog_5_method_6_code 44 = .ok (.goto (-33), 3) := by decide +kernel
theorem d_Ft_seekTrade_47 : decode prog_5_method_6_code 47 = .ok (.return_, 1) := by decide +kernel
abbrev S_Ft_seekTrade : Type := Nat × Nat × Int32 × AM
noncomputable def T_Ft_seekTrade_0 (v0R : Nat) (σ : AM) : S_Ft_seekTrade ⊕ Option (Unit × AM) :=
  gdT (okO σ v0R 8) <| bndT (M_Ft_gatherTrials v0R σ) fun _ σ2 => gdT (okO σ2 v0R 8) <| letT (sI σ2 v0R 15 (0 : Int32)) fun σ5 => .inl (1, v0R, (1 : Int32), σ5)
noncomputable def T_Ft_seekTrade_1 (v0R : Nat) (v1I : Int32) (σ : AM) : S_Ft_seekTrade ⊕ Option (Unit × AM) :=
  if (3 : Int32) < v1I then (.inl (3, 0, 0, σ)) else (gdT (okO σ v0R 8) <| if (aI σ v0R 15) = 0 then (bndT (M_Ft_chooseRinging v0R v1I v1I (0 : Int32) (0 : Int32) (0 : Int32) (0 : Int32) σ) fun r2 σ3 => if r2 = 0 then (.inl (2, v0R, v1I, σ3)) else (gdT (okO σ3 v0R 8) <| letT (sI σ3 v0R 15 v1I) fun σ5 => .inl (2, v0R, v1I, σ5))) else (.inl (3, 0, 0, σ)))
noncomputable def T_Ft_seekTrade_2 (v0R : Nat) (v1I : Int32) (σ : AM) : S_Ft_seekTrade ⊕ Option (Unit × AM) :=
  .inl (1, v0R, v1I + (1 : Int32), σ)
noncomputable def T_Ft_seekTrade_3  (σ : AM) : S_Ft_seekTrade ⊕ Option (Unit × AM) :=
  .inr (some ((), σ))
noncomputable def F_Ft_seekTrade : S_Ft_seekTrade → S_Ft_seekTrade ⊕ Option (Unit × AM) := fun s => match s.1 with
  | 0 => T_Ft_seekTrade_0 (s.2.1) (s.2.2.2)
  | 1 => T_Ft_seekTrade_1 (s.2.1) (s.2.2.1) (s.2.2.2)
  | 2 => T_Ft_seekTrade_2 (s.2.1) (s.2.2.1) (s.2.2.2)
  | _ => T_Ft_seekTrade_3  (s.2.2.2)
noncomputable def L_Ft_seekTrade_0 (v0R : Nat) (σ : AM) : Option (Unit × AM) := lp F_Ft_seekTrade (0, v0R, 0, σ)
noncomputable def L_Ft_seekTrade_1 (v0R : Nat) (v1I : Int32) (σ : AM) : Option (Unit × AM) := lp F_Ft_seekTrade (1, v0R, v1I, σ)
noncomputable def L_Ft_seekTrade_2 (v0R : Nat) (v1I : Int32) (σ : AM) : Option (Unit × AM) := lp F_Ft_seekTrade (2, v0R, v1I, σ)
noncomputable def L_Ft_seekTrade_3  (σ : AM) : Option (Unit × AM) := lp F_Ft_seekTrade (3, 0, 0, σ)
set_option maxRecDepth 20000 in
theorem E_Ft_seekTrade_0 (v0R : Nat) (σ : AM) : L_Ft_seekTrade_0 v0R σ = (gd (okO σ v0R 8) <| bnd (M_Ft_gatherTrials v0R σ) fun _ σ2 => gd (okO σ2 v0R 8) <| letT (sI σ2 v0R 15 (0 : Int32)) fun σ5 => L_Ft_seekTrade_1 v0R ((1 : Int32)) σ5) := by
  unfold L_Ft_seekTrade_0
  rw [lp_eq]
  show lpK (lp F_Ft_seekTrade) (T_Ft_seekTrade_0 v0R σ) = _
  unfold T_Ft_seekTrade_0
  simp only [lpK_ite, lq_inl, lq_inr, lpK_bnd, lpK_gd, lq_let]
  try rfl
set_option maxRecDepth 20000 in
theorem E_Ft_seekTrade_1 (v0R : Nat) (v1I : Int32) (σ : AM) : L_Ft_seekTrade_1 v0R v1I σ = (if (3 : Int32) < v1I then (L_Ft_seekTrade_3 σ) else (gd (okO σ v0R 8) <| if (aI σ v0R 15) = 0 then (bnd (M_Ft_chooseRinging v0R v1I v1I (0 : Int32) (0 : Int32) (0 : Int32) (0 : Int32) σ) fun r2 σ3 => if r2 = 0 then (L_Ft_seekTrade_2 v0R v1I σ3) else (gd (okO σ3 v0R 8) <| letT (sI σ3 v0R 15 v1I) fun σ5 => L_Ft_seekTrade_2 v0R v1I σ5)) else (L_Ft_seekTrade_3 σ))) := by
  unfold L_Ft_seekTrade_1
  rw [lp_eq]
  show lpK (lp F_Ft_seekTrade) (T_Ft_seekTrade_1 v0R v1I σ) = _
  unfold T_Ft_seekTrade_1
  simp only [lpK_ite, lq_inl, lq_inr, lpK_bnd, lpK_gd, lq_let]
  try rfl
set_option maxRecDepth 20000 in
theorem E_Ft_seekTrade_2 (v0R : Nat) (v1I : Int32) (σ : AM) : L_Ft_seekTrade_2 v0R v1I σ = (L_Ft_seekTrade_1 v0R (v1I + (1 : Int32)) σ) := by
  unfold L_Ft_seekTrade_2
  rw [lp_eq]
  show lpK (lp F_Ft_seekTrade) (T_Ft_seekTrade_2 v0R v1I σ) = _
  unfold T_Ft_seekTrade_2
  simp only [lpK_ite, lq_inl, lq_inr, lpK_bnd, lpK_gd, lq_let]
  try rfl
set_option maxRecDepth 20000 in
theorem E_Ft_seekTrade_3  (σ : AM) : L_Ft_seekTrade_3  σ = ((some ((), σ))) := by
  unfold L_Ft_seekTrade_3
  rw [lp_eq]
  show lpK (lp F_Ft_seekTrade) (T_Ft_seekTrade_3  σ) = _
  unfold T_Ft_seekTrade_3
  simp only [lpK_ite, lq_inl, lq_inr, lpK_bnd, lpK_gd, lq_let]
  try rfl
noncomputable def M_Ft_seekTrade (v0R : Nat) (σ : AM) : Option (Unit × AM) := mw σ (L_Ft_seekTrade_0 v0R σ)
def I_Ft_seekTrade (G : GX) (p : Program) (l : Launch) (e : Env) (s : State) (m : MethodId) (args : Array Value) (below : List Frame) (meth : Method) (c : Code) (z0 u0 n : Nat) : Prop :=
  (∀ (v0R : Nat) (σ : AM), VX (QM eV G args s below z0 u0) G p l e s m args below meth c 164 z0 u0 2 (lpn F_Ft_seekTrade n (0, v0R, 0, σ)) 0 [(0, .ref v0R)] [] σ) ∧
  (∀ (v0R : Nat) (v1I : Int32) (σ : AM), VX (QM eV G args s below z0 u0) G p l e s m args below meth c 164 z0 u0 2 (lpn F_Ft_seekTrade n (1, v0R, v1I, σ)) 11 [(0, .ref v0R), (1, .int v1I)] [] σ) ∧
  (∀ (v0R : Nat) (v1I : Int32) (σ : AM), VX (QM eV G args s below z0 u0) G p l e s m args below meth c 164 z0 u0 2 (lpn F_Ft_seekTrade n (2, v0R, v1I, σ)) 41 [(0, .ref v0R), (1, .int v1I)] [] σ) ∧
  (∀ (σ : AM), VX (QM eV G args s below z0 u0) G p l e s m args below meth c 164 z0 u0 2 (lpn F_Ft_seekTrade n (3, 0, 0, σ)) 47 [] [] σ)
set_option maxRecDepth 20000 in
theorem s_Ft_seekTrade_0 {G : GX} {p : Program} {l : Launch} {e : Env} {s : State} {m : MethodId} {args : Array Value} {below : List Frame} {meth : Method} {c : Code} {z0 u0 n : Nat} (C : Cx G p s m args meth c prog_5_method_6_code 2 "BellPlate$Fit" ((none))) (IH : I_Ft_seekTrade G p l e s m args below meth c z0 u0 n) (v0R : Nat) (σ : AM) : VX (QM eV G args s below z0 u0) G p l e s m args below meth c 164 z0 u0 2 (lpK (lpn F_Ft_seekTrade n) (T_Ft_seekTrade_0 v0R σ)) 0 [(0, .ref v0R)] [] σ := by
  unfold T_Ft_seekTrade_0
  refine x_aload_n C d_Ft_seekTrade_0 0 rfl ?_
  refine x_gd (fun h3 => ?_)
  refine x_callVV (As := []) C (c_Ft_gatherTrials G l v0R  σ) (okO_iff.mp h3) rfl w1363 w41 w1361 w1364 w129 k_Ft_gatherTrials rfl (by decide) (by decide) rfl (Nat.le_of_ble_eq_true rfl) d_Ft_seekTrade_1 (fun r1 σ2 => ?_)
  refine x_aload_n C d_Ft_seekTrade_4 0 rfl ?_
  refine x_iconst (v := (0 : Int32)) C d_Ft_seekTrade_5 (by decide) ?_
  refine x_gd (fun h4 => ?_)
  refine x_putI (k := 15) C (okO_iff.mp h4) rfl j7_ok y7_ok n7_ok (by decide) rfl rfl rfl rfl w496 d_Ft_seekTrade_6 ?_
  refine x_letS (fun σ5 e6 => ?_)
  refine x_iconst (v := (1 : Int32)) C d_Ft_seekTrade_9 (by decide) ?_
  refine x_istore_n (lv' := [(1, .int (1 : Int32)), (0, .ref v0R)]) C d_Ft_seekTrade_10 (by decide) rfl rfl ?_
  refine x_lv [1, 0] rfl ?_
  exact IH.2.1 v0R ((1 : Int32)) (σ5)
set_option maxRecDepth 20000 in
theorem s_Ft_seekTrade_1 {G : GX} {p : Program} {l : Launch} {e : Env} {s : State} {m : MethodId} {args : Array Value} {below : List Frame} {meth : Method} {c : Code} {z0 u0 n : Nat} (C : Cx G p s m args meth c prog_5_method_6_code 2 "BellPlate$Fit" ((none))) (IH : I_Ft_seekTrade G p l e s m args below meth c z0 u0 n) (v0R : Nat) (v1I : Int32) (σ : AM) : VX (QM eV G args s below z0 u0) G p l e s m args below meth c 164 z0 u0 2 (lpK (lpn F_Ft_seekTrade n) (T_Ft_seekTrade_1 v0R v1I σ)) 11 [(0, .ref v0R), (1, .int v1I)] [] σ := by
  unfold T_Ft_seekTrade_1
  refine x_iload_n C d_Ft_seekTrade_11 1 rfl ?_
  refine x_iconst (v := (3 : Int32)) C d_Ft_seekTrade_12 (by decide) ?_
  refine x_icmp_gt (tgt := 47) C d_Ft_seekTrade_13 (by decide) (fun _ => ?_) (fun _ => ?_)
  · refine x_lv [] rfl ?_
    exact IH.2.2.2  (σ)
  · refine x_aload_n C d_Ft_seekTrade_16 0 rfl ?_
    refine x_gd (fun h1 => ?_)
    refine x_getI (k := 15) C (okO_iff.mp h1) rfl j7_ok (by decide) rfl w496 d_Ft_seekTrade_17 ?_
    refine x_if_ne (tgt := 47) C d_Ft_seekTrade_20 (by decide) (fun _ => ?_) (fun _ => ?_)
    · refine x_aload_n C d_Ft_seekTrade_23 0 rfl ?_
      refine x_iload_n C d_Ft_seekTrade_24 1 rfl ?_
      refine x_iload_n C d_Ft_seekTrade_25 1 rfl ?_
      refine x_iconst (v := (0 : Int32)) C d_Ft_seekTrade_26 (by decide) ?_
      refine x_iconst (v := (0 : Int32)) C d_Ft_seekTrade_27 (by decide) ?_
      refine x_iconst (v := (0 : Int32)) C d_Ft_seekTrade_28 (by decide) ?_
      refine x_iconst (v := (0 : Int32)) C d_Ft_seekTrade_29 (by decide) ?_
      refine x_callVI (As := [.int v1I, .int v1I, .int (0 : Int32), .int (0 : Int32), .int (0 : Int32), .int (0 : Int32)]) C (c_Ft_chooseRinging G l v0R v1I v1I (0 : Int32) (0 : Int32) (0 : Int32) (0 : Int32) σ) (okO_iff.mp h1) rfl w1389 w43 w1387 w1390 w129 k_Ft_chooseRinging rfl (by decide) (by decide) rfl (Nat.le_of_ble_eq_true rfl) d_Ft_seekTrade_30 (fun r2 σ3 => ?_)
      refine x_if_eq (tgt := 41) C d_Ft_seekTrade_33 (by decide) (fun _ => ?_) (fun _ => ?_)
      · exact IH.2.2.1 v0R v1I (σ3)
      · refine x_aload_n C d_Ft_seekTrade_36 0 rfl ?_
        refine x_iload_n C d_Ft_seekTrade_37 1 rfl ?_
        refine x_gd (fun h4 => ?_)
        refine x_putI (k := 15) C (okO_iff.mp h4) rfl j7_ok y7_ok n7_ok (by decide) rfl rfl rfl rfl w496 d_Ft_seekTrade_38 ?_
        refine x_letS (fun σ5 e6 => ?_)
        exact IH.2.2.1 v0R v1I (σ5)
    · refine x_lv [] rfl ?_
      exact IH.2.2.2  (σ)
set_option maxRecDepth 20000 in
theorem s_Ft_seekTrade_2 {G : GX} {p : Program} {l : Launch} {e : Env} {s : State} {m : MethodId} {args : Array Value} {below : List Frame} {meth : Method} {c : Code} {z0 u0 n : Nat} (C : Cx G p s m args meth c prog_5_method_6_code 2 "BellPlate$Fit" ((none))) (IH : I_Ft_seekTrade G p l e s m args below meth c z0 u0 n) (v0R : Nat) (v1I : Int32) (σ : AM) : VX (QM eV G args s below z0 u0) G p l e s m args below meth c 164 z0 u0 2 (lpK (lpn F_Ft_seekTrade n) (T_Ft_seekTrade_2 v0R v1I σ)) 41 [(0, .ref v0R), (1, .int v1I)] [] σ := by
  unfold T_Ft_seekTrade_2
  refine x_iinc (v := v1I + (1 : Int32)) (lv' := [(1, .int (v1I + (1 : Int32))), (0, .ref v0R)]) C d_Ft_seekTrade_41 1 rfl rfl (by decide) rfl ?_
  refine x_goto (tgt := 11) C d_Ft_seekTrade_44 (by decide) ?_
  refine x_lv [1, 0] rfl ?_
  exact IH.2.1 v0R (v1I + (1 : Int32)) (σ)
set_option maxRecDepth 20000 in
theorem s_Ft_seekTrade_3 {G : GX} {p : Program} {l : Launch} {e : Env} {s : State} {m : MethodId} {args : Array Value} {below : List Frame} {meth : Method} {c : Code} {z0 u0 n : Nat} (C : Cx G p s m args meth c prog_5_method_6_code 2 "BellPlate$Fit" ((none))) (IH : I_Ft_seekTrade G p l e s m args below meth c z0 u0 n)  (σ : AM) : VX (QM eV G args s below z0 u0) G p l e s m args below meth c 164 z0 u0 2 (lpK (lpn F_Ft_seekTrade n) (T_Ft_seekTrade_3  σ)) 47 [] [] σ := by
  unfold T_Ft_seekTrade_3
  exact x_vret C d_Ft_seekTrade_47
theorem i_Ft_seekTrade {G : GX} {p : Program} {l : Launch} {e : Env} {s : State} {m : MethodId} {args : Array Value} {below : List Frame} {meth : Method} {c : Code} {z0 u0 : Nat} (C : Cx G p s m args meth c prog_5_method_6_code 2 "BellPlate$Fit" ((none))) (n : Nat) : I_Ft_seekTrade G p l e s m args below meth c z0 u0 n := by
  induction n with
  | zero => exact ⟨fun _ _ => x_none, fun _ _ _ => x_none, fun _ _ _ => x_none, fun _ => x_none⟩
  | succ n IH => exact ⟨fun v0R σ => s_Ft_seekTrade_0 C IH v0R σ, fun v0R v1I σ => s_Ft_seekTrade_1 C IH v0R v1I σ, fun v0R v1I σ => s_Ft_seekTrade_2 C IH v0R v1I σ, fun σ => s_Ft_seekTrade_3 C IH σ⟩
theorem c_Ft_seekTrade (G : GX) (l : Launch) (v0R : Nat) (σ : AM) : CT eV G l 164 y_Ft_seekTrade prog_5_method_6_code 2 (none) [.ref v0R] σ (M_Ft_seekTrade v0R σ) := by
  refine ct_of (by decide +kernel) (Nat.le_of_ble_eq_true rfl) (fun p e s m args below meth c C hin => ?_)
  refine x_lve (lv' := [(0, .ref v0R)]) rfl ?_
  intro r σ' h
  obtain ⟨n, hn⟩ := (lp_iff _ _ _).mp h
  exact (i_Ft_seekTrade C n).1 v0R σ r σ' hn
/-! BellPlate$Fit.trade(I)I -/
abbrev y_Ft_trade : MethodName := ⟨"BellPlate$Fit", "trade", "(I)I"⟩
theorem k_Ft_trade : y_Ft_trade.cls ≠ "java/lang/invoke/MethodHandle" ∧ y_Ft_trade.cls ≠ "java/lang/invoke/VarHandle" ∧ (parseMethodDescriptor y_Ft_trade.desc).map (fun d => d.parameters.length) = some 1 := by decide +kernel
theorem d_Ft_trade_0 : decode prog_5_method_11_code 0 = .ok (.aload_n 0, 1) := by decide +kernel
theorem d_Ft_trade_1 : decode prog_5_method_11_code 1 = .ok (.getfield 110, 3) := by decide +kernel
theorem d_Ft_trade_4 : decode prog_5_method_11_code 4 = .ok (.ifCond .ne 5, 3) := by decide +kernel
theorem d_Ft_trade_7 : decode prog_5_method_11_code 7 = .ok (.iconst (-1), 1) := by decide +kernel
theorem d_Ft_trade_8 : decode prog_5_method_11_code 8 = .ok (.ireturn, 1) := by decide +kernel
theorem d_Ft_trade_9 : decode prog_5_method_11_code 9 = .ok (.iload_n 1, 1) := by decide +kernel
theorem d_Ft_trade_10 : decode prog_5_method_11_code 10 = .ok (.ifCond .ne 8, 3) := by decide +kernel
theorem d_Ft_trade_13 : decode prog_5_method_11_code 13 = .ok (.aload_n 0, 1) := by decide +kernel
theorem d_Ft_trade_14 : decode prog_5_method_11_code 14 = .ok (.getfield 110, 3) := by decide +kernel
theorem d_Ft_trade_17 : decode prog_5_method_11_code 17 = .ok (.ireturn, 1) := by decide +kernel
theorem d_Ft_trade_18 : decode prog_5_method_11_code 18 = .ok (.iload_n 1, 1) := by decide +kernel
theorem d_Ft_trade_19 : decode prog_5_method_11_code 19 = .ok (.iconst 1, 1) := by decide +kernel
theorem d_Ft_trade_20 : decode prog_5_method_11_code 20 = .ok (.isub, 1) := by decide +kernel
theorem d_Ft_trade_21 : decode prog_5_method_11_code 21 = .ok (.istore_n 2, 1) := by decide +kernel
theorem d_Ft_trade_22 : decode prog_5_method_11_code 22 = .ok (.iload_n 2, 1) := by decide +kernel
theorem d_Ft_trade_23 : decode prog_5_method_11_code 23 = .ok (.ifCond .lt 31, 3) := by decide +kernel
theorem d_Ft_trade_26 : decode prog_5_method_11_code 26 = .ok (.iload_n 2, 1) := by decide +kernel
theorem d_Ft_trade_27 : decode prog_5_method_11_code 27 = .ok (.aload_n 0, 1) := by decide +kernel
theorem d_Ft_trade_28 : decode prog_5_method_11_code 28 = .ok (.getfield 42, 3) := by decide +kernel
theorem d_Ft_trade_31 : decode prog_5_method_11_code 31 = .ok (.arraylength, 1) := by decide +kernel
theorem d_Ft_trade_32 : decode prog_5_method_11_code 32 = .ok (.if_icmp .ge 22, 3) := by decide +kernel
theorem d_Ft_trade_35 : decode prog_5_method_11_code 35 = .ok (.iload_n 2, 1) := by decide +kernel
theorem d_Ft_trade_36 : decode prog_5_method_11_code 36 = .ok (.iconst 3, 1) := by decide +kernel
theorem d_Ft_trade_37 : decode prog_5_method_11_code 37 = .ok (.irem, 1) := by decide +kernel
theorem d_Ft_trade_38 : decode prog_5_method_11_code 38 = .ok (.aload_n 0, 1) := by decide +kernel
theorem d_Ft_trade_39 : decode prog_5_method_11_code 39 = .ok (.getfield 110, 3) := by decide +kernel
theorem d_Ft_trade_42 : decode prog_5_method_11_code 42 = .ok (.if_icmp .ge 12, 3) := by decide +kernel
theorem d_Ft_trade_45 : decode prog_5_method_11_code 45 = .ok (.aload_n 0, 1) := by decide +kernel
theorem d_Ft_trade_46 : decode prog_5_method_11_code 46 = .ok (.getfield 42, 3) := by decide +kernel
theorem d_Ft_trade_49 : decode prog_5_method_11_code 49 = .ok (.iload_n 2, 1) := by decide +kernel
theorem d_Ft_trade_50 : decode prog_5_method_11_code 50 = .ok (.iaload, 1) := by decide +kernel
theorem d_Ft_trade_51 : decode prog_5_method_11_code 51 = .ok (.goto 4, 3) := by decide +kernel
theorem d_Ft_trade_54 : decode prog_5_method_11_code 54 = .ok (.iconst (-1), 1) := by decide +kernel
theorem d_Ft_trade_55 : decode prog_5_method_11_code 55 = .ok (.ireturn, 1) := by decide +kernel
abbrev S_Ft_trade : Type := Nat × Nat × Int32 × Int32 × AM
noncomputable def T_Ft_trade_0 (v0R : Nat) (v1I : Int32) (σ : AM) : S_Ft_trade ⊕ Option (Int32 × AM) :=
  gdT (okO σ v0R 8) <| if (aI σ v0R 15) = 0 then (.inr (some (((-1) : Int32), σ))) else (if v1I = 0 then (.inr (some ((aI σ v0R 15), σ))) else (letT (v1I - (1 : Int32)) fun x2 => if x2 < 0 then (.inl (1, 0, 0, 0, σ)) else (gdT (okO σ (aR σ v0R 13) 101) <| if x2 < (nI (aN σ (aR σ v0R 13))) then (if (x2 - x2 / (3 : Int32) * (3 : Int32)) < (aI σ v0R 15) then (gdT (inB x2 (aN σ (aR σ v0R 13))) <| .inl (2, 0, 0, aI σ (aR σ v0R 13) x2.toNatClampNeg, σ)) else (.inl (1, 0, 0, 0, σ))) else (.inl (1, 0, 0, 0, σ)))))
noncomputable def T_Ft_trade_1  (σ : AM) : S_Ft_trade ⊕ Option (Int32 × AM) :=
  .inl (2, 0, 0, ((-1) : Int32), σ)
noncomputable def T_Ft_trade_2 (s0I : Int32) (σ : AM) : S_Ft_trade ⊕ Option (Int32 × AM) :=
  .inr (some (s0I, σ))
noncomputable def F_Ft_trade : S_Ft_trade → S_Ft_trade ⊕ Option (Int32 × AM) := fun s => match s.1 with
  | 0 => T_Ft_trade_0 (s.2.1) (s.2.2.1) (s.2.2.2.2)
  | 1 => T_Ft_trade_1  (s.2.2.2.2)
  | _ => T_Ft_trade_2 (s.2.2.2.1) (s.2.2.2.2)
noncomputable def L_Ft_trade_0 (v0R : Nat) (v1I : Int32) (σ : AM) : Option (Int32 × AM) := lp F_Ft_trade (0, v0R, v1I, 0, σ)
noncomputable def L_Ft_trade_1  (σ : AM) : Option (Int32 × AM) := lp F_Ft_trade (1, 0, 0, 0, σ)
noncomputable def L_Ft_trade_2 (s0I : Int32) (σ : AM) : Option (Int32 × AM) := lp F_Ft_trade (2, 0, 0, s0I, σ)
set_option maxRecDepth 20000 in
theorem E_Ft_trade_0 (v0R : Nat) (v1I : Int32) (σ : AM) : L_Ft_trade_0 v0R v1I σ = (gd (okO σ v0R 8) <| if (aI σ v0R 15) = 0 then ((some (((-1) : Int32), σ))) else (if v1I = 0 then ((some ((aI σ v0R 15), σ))) else (letT (v1I - (1 : Int32)) fun x2 => if x2 < 0 then (L_Ft_trade_1 σ) else (gd (okO σ (aR σ v0R 13) 101) <| if x2 < (nI (aN σ (aR σ v0R 13))) then (if (x2 - x2 / (3 : Int32) * (3 : Int32)) < (aI σ v0R 15) then (gd (inB x2 (aN σ (aR σ v0R 13))) <| L_Ft_trade_2 (aI σ (aR σ v0R 13) x2.toNatClampNeg) σ) else (L_Ft_trade_1 σ)) else (L_Ft_trade_1 σ))))) := by
  unfold L_Ft_trade_0
  rw [lp_eq]
  show lpK (lp F_Ft_trade) (T_Ft_trade_0 v0R v1I σ) = _
  unfold T_Ft_trade_0
  simp only [lpK_ite, lq_inl, lq_inr, lpK_bnd, lpK_gd, lq_let]
  try rfl
set_option maxRecDepth 20000 in
theorem E_Ft_trade_1  (σ : AM) : L_Ft_trade_1  σ = (L_Ft_trade_2 (((-1) : Int32)) σ) := by
  unfold L_Ft_trade_1
  rw [lp_eq]
  show lpK (lp F_Ft_trade) (T_Ft_trade_1  σ) = _
  unfold T_Ft_trade_1
  simp only [lpK_ite, lq_inl, lq_inr, lpK_bnd, lpK_gd, lq_let]
  try rfl
set_option maxRecDepth 20000 in
theorem E_Ft_trade_2 (s0I : Int32) (σ : AM) : L_Ft_trade_2 s0I σ = ((some (s0I, σ))) := by
  unfold L_Ft_trade_2
  rw [lp_eq]
  show lpK (lp F_Ft_trade) (T_Ft_trade_2 s0I σ) = _
  unfold T_Ft_trade_2
  simp only [lpK_ite, lq_inl, lq_inr, lpK_bnd, lpK_gd, lq_let]
  try rfl
noncomputable def M_Ft_trade (v0R : Nat) (v1I : Int32) (σ : AM) : Option (Int32 × AM) := mw σ (L_Ft_trade_0 v0R v1I σ)
def I_Ft_trade (G : GX) (p : Program) (l : Launch) (e : Env) (s : State) (m : MethodId) (args : Array Value) (below : List Frame) (meth : Method) (c : Code) (z0 u0 n : Nat) : Prop :=
  (∀ (v0R : Nat) (v1I : Int32) (σ : AM), VX (QM eI G args s below z0 u0) G p l e s m args below meth c 0 z0 u0 3 (lpn F_Ft_trade n (0, v0R, v1I, 0, σ)) 0 [(0, .ref v0R), (1, .int v1I)] [] σ) ∧
  (∀ (σ : AM), VX (QM eI G args s below z0 u0) G p l e s m args below meth c 0 z0 u0 3 (lpn F_Ft_trade n (1, 0, 0, 0, σ)) 54 [] [] σ) ∧
  (∀ (s0I : Int32) (σ : AM), VX (QM eI G args s below z0 u0) G p l e s m args below meth c 0 z0 u0 3 (lpn F_Ft_trade n (2, 0, 0, s0I, σ)) 55 [] [.int s0I] σ)
set_option maxRecDepth 20000 in
theorem s_Ft_trade_0 {G : GX} {p : Program} {l : Launch} {e : Env} {s : State} {m : MethodId} {args : Array Value} {below : List Frame} {meth : Method} {c : Code} {z0 u0 n : Nat} (C : Cx G p s m args meth c prog_5_method_11_code 3 "BellPlate$Fit" ((some FieldType.int))) (IH : I_Ft_trade G p l e s m args below meth c z0 u0 n) (v0R : Nat) (v1I : Int32) (σ : AM) : VX (QM eI G args s below z0 u0) G p l e s m args below meth c 0 z0 u0 3 (lpK (lpn F_Ft_trade n) (T_Ft_trade_0 v0R v1I σ)) 0 [(0, .ref v0R), (1, .int v1I)] [] σ := by
  unfold T_Ft_trade_0
  refine x_aload_n C d_Ft_trade_0 0 rfl ?_
  refine x_gd (fun h1 => ?_)
  refine x_getI (k := 15) C (okO_iff.mp h1) rfl j7_ok (by decide) rfl w496 d_Ft_trade_1 ?_
  refine x_if_ne (tgt := 9) C d_Ft_trade_4 (by decide) (fun _ => ?_) (fun _ => ?_)
  · refine x_iconst (v := ((-1) : Int32)) C d_Ft_trade_7 (by decide) ?_
    exact x_iret C d_Ft_trade_8
  · refine x_iload_n C d_Ft_trade_9 1 rfl ?_
    refine x_if_ne (tgt := 18) C d_Ft_trade_10 (by decide) (fun _ => ?_) (fun _ => ?_)
    · refine x_aload_n C d_Ft_trade_13 0 rfl ?_
      refine x_getI (k := 15) C (okO_iff.mp h1) rfl j7_ok (by decide) rfl w496 d_Ft_trade_14 ?_
      exact x_iret C d_Ft_trade_17
    · refine x_iload_n C d_Ft_trade_18 1 rfl ?_
      refine x_iconst (v := (1 : Int32)) C d_Ft_trade_19 (by decide) ?_
      refine x_isub C d_Ft_trade_20 ?_
      refine x_letI (fun x2 _ => ?_)
      refine x_istore_n (lv' := [(2, .int x2), (0, .ref v0R), (1, .int v1I)]) C d_Ft_trade_21 (by decide) rfl rfl ?_
      refine x_iload_n C d_Ft_trade_22 0 rfl ?_
      refine x_if_lt (tgt := 54) C d_Ft_trade_23 (by decide) (fun _ => ?_) (fun _ => ?_)
      · refine x_lv [] rfl ?_
        exact IH.2.1  (σ)
      · refine x_iload_n C d_Ft_trade_26 0 rfl ?_
        refine x_aload_n C d_Ft_trade_27 1 rfl ?_
        refine x_gd (fun h3 => ?_)
        refine x_getR (k := 13) (kv := 101) C (okO_iff.mp h1) rfl j7_ok (by decide) rfl (okO_iff.mp h3) (by decide) w494 d_Ft_trade_28 ?_
        refine x_alen (t := 0) C (okO_iff.mp h3) (by decide) d_Ft_trade_31 ?_
        refine x_icmp_ge (tgt := 54) C d_Ft_trade_32 (by decide) (fun _ => ?_) (fun _ => ?_)
        · refine x_iload_n C d_Ft_trade_35 0 rfl ?_
          refine x_iconst (v := (3 : Int32)) C d_Ft_trade_36 (by decide) ?_
          refine x_irem C d_Ft_trade_37 (by decide) ?_
          refine x_aload_n C d_Ft_trade_38 1 rfl ?_
          refine x_getI (k := 15) C (okO_iff.mp h1) rfl j7_ok (by decide) rfl w496 d_Ft_trade_39 ?_
          refine x_icmp_ge (tgt := 54) C d_Ft_trade_42 (by decide) (fun _ => ?_) (fun _ => ?_)
          · refine x_aload_n C d_Ft_trade_45 1 rfl ?_
            refine x_getR (k := 13) (kv := 101) C (okO_iff.mp h1) rfl j7_ok (by decide) rfl (okO_iff.mp h3) (by decide) w494 d_Ft_trade_46 ?_
            refine x_iload_n C d_Ft_trade_49 0 rfl ?_
            refine x_gd (fun h4 => ?_)
            refine x_aldI C (okO_iff.mp h3) (inB_iff.mp h4) d_Ft_trade_50 ?_
            refine x_goto (tgt := 55) C d_Ft_trade_51 (by decide) ?_
            refine x_lv [] rfl ?_
            exact IH.2.2 (aI σ (aR σ v0R 13) x2.toNatClampNeg) (σ)
          · refine x_lv [] rfl ?_
            exact IH.2.1  (σ)
        · refine x_lv [] rfl ?_
          exact IH.2.1  (σ)
set_option maxRecDepth 20000 in
theorem s_Ft_trade_1 {G : GX} {p : Program} {l : Launch} {e : Env} {s : State} {m : MethodId} {args : Array Value} {below : List Frame} {meth : Method} {c : Code} {z0 u0 n : Nat} (C : Cx G p s m args meth c prog_5_method_11_code 3 "BellPlate$Fit" ((some FieldType.int))) (IH : I_Ft_trade G p l e s m args below meth c z0 u0 n)  (σ : AM) : VX (QM eI G args s below z0 u0) G p l e s m args below meth c 0 z0 u0 3 (lpK (lpn F_Ft_trade n) (T_Ft_trade_1  σ)) 54 [] [] σ := by
  unfold T_Ft_trade_1
  refine x_iconst (v := ((-1) : Int32)) C d_Ft_trade_54 (by decide) ?_
  exact IH.2.2 (((-1) : Int32)) (σ)
set_option maxRecDepth 20000 in
theorem s_Ft_trade_2 {G : GX} {p : Program} {l : Launch} {e : Env} {s : State} {m : MethodId} {args : Array Value} {below : List Frame} {meth : Method} {c : Code} {z0 u0 n : Nat} (C : Cx G p s m args meth c prog_5_method_11_code 3 "BellPlate$Fit" ((some FieldType.int))) (IH : I_Ft_trade G p l e s m args below meth c z0 u0 n) (s0I : Int32) (σ : AM) : VX (QM eI G args s below z0 u0) G p l e s m args below meth c 0 z0 u0 3 (lpK (lpn F_Ft_trade n) (T_Ft_trade_2 s0I σ)) 55 [] [.int s0I] σ := by
  unfold T_Ft_trade_2
  exact x_iret C d_Ft_trade_55
theorem i_Ft_trade {G : GX} {p : Program} {l : Launch} {e : Env} {s : State} {m : MethodId} {args : Array Value} {below : List Frame} {meth : Method} {c : Code} {z0 u0 : Nat} (C : Cx G p s m args meth c prog_5_method_11_code 3 "BellPlate$Fit" ((some FieldType.int))) (n : Nat) : I_Ft_trade G p l e s m args below meth c z0 u0 n := by
  induction n with
  | zero => exact ⟨fun _ _ _ => x_none, fun _ => x_none, fun _ _ => x_none⟩
  | succ n IH => exact ⟨fun v0R v1I σ => s_Ft_trade_0 C IH v0R v1I σ, fun σ => s_Ft_trade_1 C IH σ, fun s0I σ => s_Ft_trade_2 C IH s0I σ⟩
theorem c_Ft_trade (G : GX) (l : Launch) (v0R : Nat) (v1I : Int32) (σ : AM) : CT eI G l 0 y_Ft_trade prog_5_method_11_code 3 ((some FieldType.int)) [.ref v0R, .int v1I] σ (M_Ft_trade v0R v1I σ) := by
  refine ct_of (by decide +kernel) (Nat.le_of_ble_eq_true rfl) (fun p e s m args below meth c C hin => ?_)
  refine x_lve (lv' := [(0, .ref v0R), (1, .int v1I)]) rfl ?_
  intro r σ' h
  obtain ⟨n, hn⟩ := (lp_iff _ _ _).mp h
  exact (i_Ft_trade C n).1 v0R v1I σ r σ' hn
