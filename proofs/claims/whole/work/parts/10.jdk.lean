/-! java/util/Arrays.fill([II)V -/
abbrev y_JArr_fill2 : MethodName := ⟨"java/util/Arrays", "fill", "([II)V"⟩
theorem k_JArr_fill2 : y_JArr_fill2.cls ≠ "java/lang/invoke/MethodHandle" ∧ y_JArr_fill2.cls ≠ "java/lang/invoke/VarHandle" ∧ (parseMethodDescriptor y_JArr_fill2.desc).map (fun d => d.parameters.length) = some 2 := by decide +kernel
theorem d_JArr_fill2_0 : decode prog_31_method_103_code 0 = .ok (.iconst 0, 1) := by decide +kernel
theorem d_JArr_fill2_1 : decode prog_31_method_103_code 1 = .ok (.istore_n 2, 1) := by decide +kernel
theorem d_JArr_fill2_2 : decode prog_31_method_103_code 2 = .ok (.aload_n 0, 1) := by decide +kernel
theorem d_JArr_fill2_3 : decode prog_31_method_103_code 3 = .ok (.arraylength, 1) := by decide +kernel
theorem d_JArr_fill2_4 : decode prog_31_method_103_code 4 = .ok (.istore_n 3, 1) := by decide +kernel
theorem d_JArr_fill2_5 : decode prog_31_method_103_code 5 = .ok (.iload_n 2, 1) := by decide +kernel
theorem d_JArr_fill2_6 : decode prog_31_method_103_code 6 = .ok (.iload_n 3, 1) := by decide +kernel
theorem d_JArr_fill2_7 : decode prog_31_method_103_code 7 = .ok (.if_icmp .ge 13, 3) := by decide +kernel
theorem d_JArr_fill2_10 : decode prog_31_method_103_code 10 = .ok (.aload_n 0, 1) := by decide +kernel
theorem d_JArr_fill2_11 : decode prog_31_method_103_code 11 = .ok (.iload_n 2, 1) := by decide +kernel
theorem d_JArr_fill2_12 : decode prog_31_method_103_code 12 = .ok (.iload_n 1, 1) := by decide +kernel
theorem d_JArr_fill2_13 : decode prog_31_method_103_code 13 = .ok (.iastore, 1) := by decide +kernel
theorem d_JArr_fill2_14 : decode prog_31_method_103_code 14 = .ok (.iinc 2 1, 3) := by decide +kernel
theorem d_JArr_fill2_17 : decode prog_31_method_103_code 17 = .ok (.goto (-12), 3) := by decide +kernel
theorem d_JArr_fill2_20 : decode prog_31_method_103_code 20 = .ok (.return_, 1) := by decide +kernel
abbrev S_JArr_fill2 : Type := Nat × Nat × Int32 × Int32 × Int32 × AM
noncomputable def T_JArr_fill2_0 (v0R : Nat) (v1I : Int32) (σ : AM) : S_JArr_fill2 ⊕ Option (Unit × AM) :=
  gdT (okO σ v0R 101) <| letT (nI (aN σ v0R)) fun x2 => .inl (1, v0R, v1I, (0 : Int32), x2, σ)
noncomputable def T_JArr_fill2_1 (v0R : Nat) (v1I : Int32) (v2I : Int32) (v3I : Int32) (σ : AM) : S_JArr_fill2 ⊕ Option (Unit × AM) :=
  if v2I < v3I then (gdT (okO σ v0R 101) <| gdT (inB v2I (aN σ v0R)) <| letT (sI σ v0R v2I.toNatClampNeg v1I) fun σ3 => .inl (1, v0R, v1I, v2I + (1 : Int32), v3I, σ3)) else (.inr (some ((), σ)))
noncomputable def F_JArr_fill2 : S_JArr_fill2 → S_JArr_fill2 ⊕ Option (Unit × AM) := fun s => match s.1 with
  | 0 => T_JArr_fill2_0 (s.2.1) (s.2.2.1) (s.2.2.2.2.2)
  | _ => T_JArr_fill2_1 (s.2.1) (s.2.2.1) (s.2.2.2.1) (s.2.2.2.2.1) (s.2.2.2.2.2)
noncomputable def L_JArr_fill2_0 (v0R : Nat) (v1I : Int32) (σ : AM) : Option (Unit × AM) := lp F_JArr_fill2 (0, v0R, v1I, 0, 0, σ)
noncomputable def L_JArr_fill2_1 (v0R : Nat) (v1I : Int32) (v2I : Int32) (v3I : Int32) (σ : AM) : Option (Unit × AM) := lp F_JArr_fill2 (1, v0R, v1I, v2I, v3I, σ)
set_option maxRecDepth 20000 in
theorem E_JArr_fill2_0 (v0R : Nat) (v1I : Int32) (σ : AM) : L_JArr_fill2_0 v0R v1I σ = (gd (okO σ v0R 101) <| letT (nI (aN σ v0R)) fun x2 => L_JArr_fill2_1 v0R v1I ((0 : Int32)) x2 σ) := by
  unfold L_JArr_fill2_0
  rw [lp_eq]
  show lpK (lp F_JArr_fill2) (T_JArr_fill2_0 v0R v1I σ) = _
  unfold T_JArr_fill2_0
  simp only [lpK_ite, lq_inl, lq_inr, lpK_bnd, lpK_gd, lq_let]
  try rfl
set_option maxRecDepth 20000 in
theorem E_JArr_fill2_1 (v0R : Nat) (v1I : Int32) (v2I : Int32) (v3I : Int32) (σ : AM) : L_JArr_fill2_1 v0R v1I v2I v3I σ = (if v2I < v3I then (gd (okO σ v0R 101) <| gd (inB v2I (aN σ v0R)) <| letT (sI σ v0R v2I.toNatClampNeg v1I) fun σ3 => L_JArr_fill2_1 v0R v1I (v2I + (1 : Int32)) v3I σ3) else ((some ((), σ)))) := by
  unfold L_JArr_fill2_1
  rw [lp_eq]
  show lpK (lp F_JArr_fill2) (T_JArr_fill2_1 v0R v1I v2I v3I σ) = _
  unfold T_JArr_fill2_1
  simp only [lpK_ite, lq_inl, lq_inr, lpK_bnd, lpK_gd, lq_let]
  try rfl
noncomputable def M_JArr_fill2 (v0R : Nat) (v1I : Int32) (σ : AM) : Option (Unit × AM) := mw σ (L_JArr_fill2_0 v0R v1I σ)
def I_JArr_fill2 (G : GX) (p : Program) (l : Launch) (e : Env) (s : State) (m : MethodId) (args : Array Value) (below : List Frame) (meth : Method) (c : Code) (z0 u0 n : Nat) : Prop :=
  (∀ (v0R : Nat) (v1I : Int32) (σ : AM), VX (QM eV G args s below z0 u0) G p l e s m args below meth c 0 z0 u0 4 (lpn F_JArr_fill2 n (0, v0R, v1I, 0, 0, σ)) 0 [(0, .ref v0R), (1, .int v1I)] [] σ) ∧
  (∀ (v0R : Nat) (v1I : Int32) (v2I : Int32) (v3I : Int32) (σ : AM), VX (QM eV G args s below z0 u0) G p l e s m args below meth c 0 z0 u0 4 (lpn F_JArr_fill2 n (1, v0R, v1I, v2I, v3I, σ)) 5 [(0, .ref v0R), (1, .int v1I), (2, .int v2I), (3, .int v3I)] [] σ)
set_option maxRecDepth 20000 in
theorem s_JArr_fill2_0 {G : GX} {p : Program} {l : Launch} {e : Env} {s : State} {m : MethodId} {args : Array Value} {below : List Frame} {meth : Method} {c : Code} {z0 u0 n : Nat} (C : Cx G p s m args meth c prog_31_method_103_code 4 "java/util/Arrays" ((none))) (IH : I_JArr_fill2 G p l e s m args below meth c z0 u0 n) (v0R : Nat) (v1I : Int32) (σ : AM) : VX (QM eV G args s below z0 u0) G p l e s m args below meth c 0 z0 u0 4 (lpK (lpn F_JArr_fill2 n) (T_JArr_fill2_0 v0R v1I σ)) 0 [(0, .ref v0R), (1, .int v1I)] [] σ := by
  unfold T_JArr_fill2_0
  refine x_iconst (v := (0 : Int32)) C d_JArr_fill2_0 (by decide) ?_
  refine x_istore_n (lv' := [(2, .int (0 : Int32)), (0, .ref v0R), (1, .int v1I)]) C d_JArr_fill2_1 (by decide) rfl rfl ?_
  refine x_aload_n C d_JArr_fill2_2 1 rfl ?_
  refine x_gd (fun h1 => ?_)
  refine x_alen (t := 0) C (okO_iff.mp h1) (by decide) d_JArr_fill2_3 ?_
  refine x_letI (fun x2 _ => ?_)
  refine x_istore_n (lv' := [(3, .int x2), (2, .int (0 : Int32)), (0, .ref v0R), (1, .int v1I)]) C d_JArr_fill2_4 (by decide) rfl rfl ?_
  refine x_lv [2, 3, 1, 0] rfl ?_
  exact IH.2 v0R v1I ((0 : Int32)) x2 (σ)
set_option maxRecDepth 20000 in
theorem s_JArr_fill2_1 {G : GX} {p : Program} {l : Launch} {e : Env} {s : State} {m : MethodId} {args : Array Value} {below : List Frame} {meth : Method} {c : Code} {z0 u0 n : Nat} (C : Cx G p s m args meth c prog_31_method_103_code 4 "java/util/Arrays" ((none))) (IH : I_JArr_fill2 G p l e s m args below meth c z0 u0 n) (v0R : Nat) (v1I : Int32) (v2I : Int32) (v3I : Int32) (σ : AM) : VX (QM eV G args s below z0 u0) G p l e s m args below meth c 0 z0 u0 4 (lpK (lpn F_JArr_fill2 n) (T_JArr_fill2_1 v0R v1I v2I v3I σ)) 5 [(0, .ref v0R), (1, .int v1I), (2, .int v2I), (3, .int v3I)] [] σ := by
  unfold T_JArr_fill2_1
  refine x_iload_n C d_JArr_fill2_5 2 rfl ?_
  refine x_iload_n C d_JArr_fill2_6 3 rfl ?_
  refine x_icmp_ge (tgt := 20) C d_JArr_fill2_7 (by decide) (fun _ => ?_) (fun _ => ?_)
  · refine x_aload_n C d_JArr_fill2_10 0 rfl ?_
    refine x_iload_n C d_JArr_fill2_11 2 rfl ?_
    refine x_iload_n C d_JArr_fill2_12 1 rfl ?_
    refine x_gd (fun h1 => ?_)
    refine x_gd (fun h2 => ?_)
    refine x_astI C (okO_iff.mp h1) (inB_iff.mp h2) d_JArr_fill2_13 ?_
    refine x_letS (fun σ3 e4 => ?_)
    refine x_iinc (v := v2I + (1 : Int32)) (lv' := [(2, .int (v2I + (1 : Int32))), (0, .ref v0R), (1, .int v1I), (3, .int v3I)]) C d_JArr_fill2_14 2 rfl rfl (by decide) rfl ?_
    refine x_goto (tgt := 5) C d_JArr_fill2_17 (by decide) ?_
    refine x_lv [1, 2, 0, 3] rfl ?_
    exact IH.2 v0R v1I (v2I + (1 : Int32)) v3I (σ3)
  · exact x_vret C d_JArr_fill2_20
theorem i_JArr_fill2 {G : GX} {p : Program} {l : Launch} {e : Env} {s : State} {m : MethodId} {args : Array Value} {below : List Frame} {meth : Method} {c : Code} {z0 u0 : Nat} (C : Cx G p s m args meth c prog_31_method_103_code 4 "java/util/Arrays" ((none))) (n : Nat) : I_JArr_fill2 G p l e s m args below meth c z0 u0 n := by
  induction n with
  | zero => exact ⟨fun _ _ _ => x_none, fun _ _ _ _ _ => x_none⟩
  | succ n IH => exact ⟨fun v0R v1I σ => s_JArr_fill2_0 C IH v0R v1I σ, fun v0R v1I v2I v3I σ => s_JArr_fill2_1 C IH v0R v1I v2I v3I σ⟩
theorem c_JArr_fill2 (G : GX) (l : Launch) (v0R : Nat) (v1I : Int32) (σ : AM) : CT eV G l 0 y_JArr_fill2 prog_31_method_103_code 4 (none) [.ref v0R, .int v1I] σ (M_JArr_fill2 v0R v1I σ) := by
  refine ct_of (by decide +kernel) (Nat.le_of_ble_eq_true rfl) (fun p e s m args below meth c C hin => ?_)
  refine x_lve (lv' := [(0, .ref v0R), (1, .int v1I)]) rfl ?_
  intro r σ' h
  obtain ⟨n, hn⟩ := (lp_iff _ _ _).mp h
  exact (i_JArr_fill2 C n).1 v0R v1I σ r σ' hn
/-! java/lang/Long.bitCount(J)I -/
abbrev y_JLong_bitCount : MethodName := ⟨"java/lang/Long", "bitCount", "(J)I"⟩
theorem k_JLong_bitCount : y_JLong_bitCount.cls ≠ "java/lang/invoke/MethodHandle" ∧ y_JLong_bitCount.cls ≠ "java/lang/invoke/VarHandle" ∧ (parseMethodDescriptor y_JLong_bitCount.desc).map (fun d => d.parameters.length) = some 1 := by decide +kernel
theorem d_JLong_bitCount_0 : decode prog_21_method_50_code 0 = .ok (.lload_n 0, 1) := by decide +kernel
theorem d_JLong_bitCount_1 : decode prog_21_method_50_code 1 = .ok (.lload_n 0, 1) := by decide +kernel
theorem d_JLong_bitCount_2 : decode prog_21_method_50_code 2 = .ok (.iconst 1, 1) := by decide +kernel
theorem d_JLong_bitCount_3 : decode prog_21_method_50_code 3 = .ok (.lushr, 1) := by decide +kernel
theorem d_JLong_bitCount_4 : decode prog_21_method_50_code 4 = .ok (.ldc2_w 314, 3) := by decide +kernel
theorem d_JLong_bitCount_7 : decode prog_21_method_50_code 7 = .ok (.land, 1) := by decide +kernel
theorem d_JLong_bitCount_8 : decode prog_21_method_50_code 8 = .ok (.lsub, 1) := by decide +kernel
theorem d_JLong_bitCount_9 : decode prog_21_method_50_code 9 = .ok (.lstore_n 0, 1) := by decide +kernel
theorem d_JLong_bitCount_10 : decode prog_21_method_50_code 10 = .ok (.lload_n 0, 1) := by decide +kernel
theorem d_JLong_bitCount_11 : decode prog_21_method_50_code 11 = .ok (.ldc2_w 316, 3) := by decide +kernel
theorem d_JLong_bitCount_14 : decode prog_21_method_50_code 14 = .ok (.land, 1) := by decide +kernel
theorem d_JLong_bitCount_15 : decode prog_21_method_50_code 15 = .ok (.lload_n 0, 1) := by decide +kernel
theorem d_JLong_bitCount_16 : decode prog_21_method_50_code 16 = .ok (.iconst 2, 1) := by decide +kernel
theorem d_JLong_bitCount_17 : decode prog_21_method_50_code 17 = .ok (.lushr, 1) := by decide +kernel
theorem d_JLong_bitCount_18 : decode prog_21_method_50_code 18 = .ok (.ldc2_w 316, 3) := by decide +kernel
theorem d_JLong_bitCount_21 : decode prog_21_method_50_code 21 = .ok (.land, 1) := by decide +kernel
theorem d_JLong_bitCount_22 : decode prog_21_method_50_code 22 = .ok (.ladd, 1) := by decide +kernel
theorem d_JLong_bitCount_23 : decode prog_21_method_50_code 23 = .ok (.lstore_n 0, 1) := by decide +kernel
theorem d_JLong_bitCount_24 : decode prog_21_method_50_code 24 = .ok (.lload_n 0, 1) := by decide +kernel
theorem d_JLong_bitCount_25 : decode prog_21_method_50_code 25 = .ok (.lload_n 0, 1) := by decide +kernel
theorem d_JLong_bitCount_26 : decode prog_21_method_50_code 26 = .ok (.iconst 4, 1) := by decide +kernel
theorem d_JLong_bitCount_27 : decode prog_21_method_50_code 27 = .ok (.lushr, 1) := by decide +kernel
theorem d_JLong_bitCount_28 : decode prog_21_method_50_code 28 = .ok (.ladd, 1) := by decide +kernel
theorem d_JLong_bitCount_29 : decode prog_21_method_50_code 29 = .ok (.ldc2_w 318, 3) := by decide +kernel
theorem d_JLong_bitCount_32 : decode prog_21_method_50_code 32 = .ok (.land, 1) := by decide +kernel
theorem d_JLong_bitCount_33 : decode prog_21_method_50_code 33 = .ok (.lstore_n 0, 1) := by decide +kernel
theorem d_JLong_bitCount_34 : decode prog_21_method_50_code 34 = .ok (.lload_n 0, 1) := by decide +kernel
theorem d_JLong_bitCount_35 : decode prog_21_method_50_code 35 = .ok (.lload_n 0, 1) := by decide +kernel
theorem d_JLong_bitCount_36 : decode prog_21_method_50_code 36 = .ok (.bipush 8, 2) := by decide +kernel
theorem d_JLong_bitCount_38 : decode prog_21_method_50_code 38 = .ok (.lushr, 1) := by decide +kernel
theorem d_JLong_bitCount_39 : decode prog_21_method_50_code 39 = .ok (.ladd, 1) := by decide +kernel
theorem d_JLong_bitCount_40 : decode prog_21_method_50_code 40 = .ok (.lstore_n 0, 1) := by decide +kernel
theorem d_JLong_bitCount_41 : decode prog_21_method_50_code 41 = .ok (.lload_n 0, 1) := by decide +kernel
theorem d_JLong_bitCount_42 : decode prog_21_method_50_code 42 = .ok (.lload_n 0, 1) := by decide +kernel
theorem d_JLong_bitCount_43 : decode prog_21_method_50_code 43 = .ok (.bipush 16, 2) := by decide +kernel
theorem d_JLong_bitCount_45 : decode prog_21_method_50_code 45 = .ok (.lushr, 1) := by decide +kernel
theorem d_JLong_bitCount_46 : decode prog_21_method_50_code 46 = .ok (.ladd, 1) := by decide +kernel
theorem d_JLong_bitCount_47 : decode prog_21_method_50_code 47 = .ok (.lstore_n 0, 1) := by decide +kernel
theorem d_JLong_bitCount_48 : decode prog_21_method_50_code 48 = .ok (.lload_n 0, 1) := by decide +kernel
theorem d_JLong_bitCount_49 : decode prog_21_method_50_code 49 = .ok (.lload_n 0, 1) := by decide +kernel
theorem d_JLong_bitCount_50 : decode prog_21_method_50_code 50 = .ok (.bipush 32, 2) := by decide +kernel
theorem d_JLong_bitCount_52 : decode prog_21_method_50_code 52 = .ok (.lushr, 1) := by decide +kernel
theorem d_JLong_bitCount_53 : decode prog_21_method_50_code 53 = .ok (.ladd, 1) := by decide +kernel
theorem d_JLong_bitCount_54 : decode prog_21_method_50_code 54 = .ok (.lstore_n 0, 1) := by decide +kernel
theorem d_JLong_bitCount_55 : decode prog_21_method_50_code 55 = .ok (.lload_n 0, 1) := by decide +kernel
theorem d_JLong_bitCount_56 : decode prog_21_method_50_code 56 = .ok (.l2i, 1) := by decide +kernel
theorem d_JLong_bitCount_57 : decode prog_21_method_50_code 57 = .ok (.bipush 127, 2) := by decide +kernel
theorem d_JLong_bitCount_59 : decode prog_21_method_50_code 59 = .ok (.iand, 1) := by decide +kernel
theorem d_JLong_bitCount_60 : decode prog_21_method_50_code 60 = .ok (.ireturn, 1) := by decide +kernel
abbrev S_JLong_bitCount : Type := Nat × Int64 × AM
noncomputable def T_JLong_bitCount_0 (v0J : Int64) (σ : AM) : S_JLong_bitCount ⊕ Option (Int32 × AM) :=
  letT (v0J - (((v0J.toUInt64 >>> ((1 : Int32).toInt64.toUInt64 &&& Int64.toUInt64 63)).toInt64) &&& (6148914691236517205 : Int64))) fun x1 => letT ((x1 &&& (3689348814741910323 : Int64)) + (((x1.toUInt64 >>> ((2 : Int32).toInt64.toUInt64 &&& Int64.toUInt64 63)).toInt64) &&& (3689348814741910323 : Int64))) fun x2 => letT ((x2 + ((x2.toUInt64 >>> ((4 : Int32).toInt64.toUInt64 &&& Int64.toUInt64 63)).toInt64)) &&& (1085102592571150095 : Int64)) fun x3 => letT (x3 + ((x3.toUInt64 >>> ((8 : Int32).toInt64.toUInt64 &&& Int64.toUInt64 63)).toInt64)) fun x4 => letT (x4 + ((x4.toUInt64 >>> ((16 : Int32).toInt64.toUInt64 &&& Int64.toUInt64 63)).toInt64)) fun x5 => letT (x5 + ((x5.toUInt64 >>> ((32 : Int32).toInt64.toUInt64 &&& Int64.toUInt64 63)).toInt64)) fun x6 => .inr (some (((x6.toInt32) &&& (127 : Int32)), σ))
noncomputable def F_JLong_bitCount : S_JLong_bitCount → S_JLong_bitCount ⊕ Option (Int32 × AM) := fun s => match s.1 with
  | _ => T_JLong_bitCount_0 (s.2.1) (s.2.2)
noncomputable def L_JLong_bitCount_0 (v0J : Int64) (σ : AM) : Option (Int32 × AM) := lp F_JLong_bitCount (0, v0J, σ)
set_option maxRecDepth 20000 in
theorem E_JLong_bitCount_0 (v0J : Int64) (σ : AM) : L_JLong_bitCount_0 v0J σ = (letT (v0J - (((v0J.toUInt64 >>> ((1 : Int32).toInt64.toUInt64 &&& Int64.toUInt64 63)).toInt64) &&& (6148914691236517205 : Int64))) fun x1 => letT ((x1 &&& (3689348814741910323 : Int64)) + (((x1.toUInt64 >>> ((2 : Int32).toInt64.toUInt64 &&& Int64.toUInt64 63)).toInt64) &&& (3689348814741910323 : Int64))) fun x2 => letT ((x2 + ((x2.toUInt64 >>> ((4 : Int32).toInt64.toUInt64 &&& Int64.toUInt64 63)).toInt64)) &&& (1085102592571150095 : Int64)) fun x3 => letT (x3 + ((x3.toUInt64 >>> ((8 : Int32).toInt64.toUInt64 &&& Int64.toUInt64 63)).toInt64)) fun x4 => letT (x4 + ((x4.toUInt64 >>> ((16 : Int32).toInt64.toUInt64 &&& Int64.toUInt64 63)).toInt64)) fun x5 => letT (x5 + ((x5.toUInt64 >>> ((32 : Int32).toInt64.toUInt64 &&& Int64.toUInt64 63)).toInt64)) fun x6 => (some (((x6.toInt32) &&& (127 : Int32)), σ))) := by
  unfold L_JLong_bitCount_0
  rw [lp_eq]
  show lpK (lp F_JLong_bitCount) (T_JLong_bitCount_0 v0J σ) = _
  unfold T_JLong_bitCount_0
  simp only [lpK_ite, lq_inl, lq_inr, lpK_bnd, lpK_gd, lq_let]
  try rfl
noncomputable def M_JLong_bitCount (v0J : Int64) (σ : AM) : Option (Int32 × AM) := mw σ (L_JLong_bitCount_0 v0J σ)
def I_JLong_bitCount (G : GX) (p : Program) (l : Launch) (e : Env) (s : State) (m : MethodId) (args : Array Value) (below : List Frame) (meth : Method) (c : Code) (z0 u0 n : Nat) : Prop :=
  (∀ (v0J : Int64) (σ : AM), VX (QM eI G args s below z0 u0) G p l e s m args below meth c 0 z0 u0 2 (lpn F_JLong_bitCount n (0, v0J, σ)) 0 [(0, .long v0J)] [] σ)
set_option maxRecDepth 20000 in
theorem s_JLong_bitCount_0 {G : GX} {p : Program} {l : Launch} {e : Env} {s : State} {m : MethodId} {args : Array Value} {below : List Frame} {meth : Method} {c : Code} {z0 u0 n : Nat} (C : Cx G p s m args meth c prog_21_method_50_code 2 "java/lang/Long" ((some FieldType.int))) (IH : I_JLong_bitCount G p l e s m args below meth c z0 u0 n) (v0J : Int64) (σ : AM) : VX (QM eI G args s below z0 u0) G p l e s m args below meth c 0 z0 u0 2 (lpK (lpn F_JLong_bitCount n) (T_JLong_bitCount_0 v0J σ)) 0 [(0, .long v0J)] [] σ := by
  unfold T_JLong_bitCount_0
  refine x_lload_n C d_JLong_bitCount_0 0 rfl ?_
  refine x_lload_n C d_JLong_bitCount_1 0 rfl ?_
  refine x_iconst (v := (1 : Int32)) C d_JLong_bitCount_2 (by decide) ?_
  refine x_lushr C d_JLong_bitCount_3 ?_
  refine x_ldc2 C d_JLong_bitCount_4 w1068 ?_
  refine x_land C d_JLong_bitCount_7 ?_
  refine x_lsub C d_JLong_bitCount_8 ?_
  refine x_letJ (fun x1 _ => ?_)
  refine x_lstore_n (lv' := [(0, .long x1)]) C d_JLong_bitCount_9 (by decide) rfl rfl ?_
  refine x_lload_n C d_JLong_bitCount_10 0 rfl ?_
  refine x_ldc2 C d_JLong_bitCount_11 w1069 ?_
  refine x_land C d_JLong_bitCount_14 ?_
  refine x_lload_n C d_JLong_bitCount_15 0 rfl ?_
  refine x_iconst (v := (2 : Int32)) C d_JLong_bitCount_16 (by decide) ?_
  refine x_lushr C d_JLong_bitCount_17 ?_
  refine x_ldc2 C d_JLong_bitCount_18 w1069 ?_
  refine x_land C d_JLong_bitCount_21 ?_
  refine x_ladd C d_JLong_bitCount_22 ?_
  refine x_letJ (fun x2 _ => ?_)
  refine x_lstore_n (lv' := [(0, .long x2)]) C d_JLong_bitCount_23 (by decide) rfl rfl ?_
  refine x_lload_n C d_JLong_bitCount_24 0 rfl ?_
  refine x_lload_n C d_JLong_bitCount_25 0 rfl ?_
  refine x_iconst (v := (4 : Int32)) C d_JLong_bitCount_26 (by decide) ?_
  refine x_lushr C d_JLong_bitCount_27 ?_
  refine x_ladd C d_JLong_bitCount_28 ?_
  refine x_ldc2 C d_JLong_bitCount_29 w1070 ?_
  refine x_land C d_JLong_bitCount_32 ?_
  refine x_letJ (fun x3 _ => ?_)
  refine x_lstore_n (lv' := [(0, .long x3)]) C d_JLong_bitCount_33 (by decide) rfl rfl ?_
  refine x_lload_n C d_JLong_bitCount_34 0 rfl ?_
  refine x_lload_n C d_JLong_bitCount_35 0 rfl ?_
  refine x_bipush (v := (8 : Int32)) C d_JLong_bitCount_36 (by decide) ?_
  refine x_lushr C d_JLong_bitCount_38 ?_
  refine x_ladd C d_JLong_bitCount_39 ?_
  refine x_letJ (fun x4 _ => ?_)
  refine x_lstore_n (lv' := [(0, .long x4)]) C d_JLong_bitCount_40 (by decide) rfl rfl ?_
  refine x_lload_n C d_JLong_bitCount_41 0 rfl ?_
  refine x_lload_n C d_JLong_bitCount_42 0 rfl ?_
  refine x_bipush (v := (16 : Int32)) C d_JLong_bitCount_43 (by decide) ?_
  refine x_lushr C d_JLong_bitCount_45 ?_
  refine x_ladd C d_JLong_bitCount_46 ?_
  refine x_letJ (fun x5 _ => ?_)
  refine x_lstore_n (lv' := [(0, .long x5)]) C d_JLong_bitCount_47 (by decide) rfl rfl ?_
  refine x_lload_n C d_JLong_bitCount_48 0 rfl ?_
  refine x_lload_n C d_JLong_bitCount_49 0 rfl ?_
  refine x_bipush (v := (32 : Int32)) C d_JLong_bitCount_50 (by decide) ?_
  refine x_lushr C d_JLong_bitCount_52 ?_
  refine x_ladd C d_JLong_bitCount_53 ?_
  refine x_letJ (fun x6 _ => ?_)
  refine x_lstore_n (lv' := [(0, .long x6)]) C d_JLong_bitCount_54 (by decide) rfl rfl ?_
  refine x_lload_n C d_JLong_bitCount_55 0 rfl ?_
  refine x_l2i C d_JLong_bitCount_56 ?_
  refine x_bipush (v := (127 : Int32)) C d_JLong_bitCount_57 (by decide) ?_
  refine x_iand C d_JLong_bitCount_59 ?_
  exact x_iret C d_JLong_bitCount_60
theorem i_JLong_bitCount {G : GX} {p : Program} {l : Launch} {e : Env} {s : State} {m : MethodId} {args : Array Value} {below : List Frame} {meth : Method} {c : Code} {z0 u0 : Nat} (C : Cx G p s m args meth c prog_21_method_50_code 2 "java/lang/Long" ((some FieldType.int))) (n : Nat) : I_JLong_bitCount G p l e s m args below meth c z0 u0 n := by
  induction n with
  | zero => exact fun _ _ => x_none
  | succ n IH => exact fun v0J σ => s_JLong_bitCount_0 C IH v0J σ
theorem c_JLong_bitCount (G : GX) (l : Launch) (v0J : Int64) (σ : AM) : CT eI G l 0 y_JLong_bitCount prog_21_method_50_code 2 ((some FieldType.int)) [.long v0J] σ (M_JLong_bitCount v0J σ) := by
  refine ct_of (by decide +kernel) (Nat.le_of_ble_eq_true rfl) (fun p e s m args below meth c C hin => ?_)
  refine x_lve (lv' := [(0, .long v0J)]) rfl ?_
  intro r σ' h
  obtain ⟨n, hn⟩ := (lp_iff _ _ _).mp h
  exact (i_JLong_bitCount C n) v0J σ r σ' hn
/-! java/util/Arrays.fill([JJ)V -/
abbrev y_JArr_fill : MethodName := ⟨"java/util/Arrays", "fill", "([JJ)V"⟩
theorem k_JArr_fill : y_JArr_fill.cls ≠ "java/lang/invoke/MethodHandle" ∧ y_JArr_fill.cls ≠ "java/lang/invoke/VarHandle" ∧ (parseMethodDescriptor y_JArr_fill.desc).map (fun d => d.parameters.length) = some 2 := by decide +kernel
theorem d_JArr_fill_0 : decode prog_31_method_101_code 0 = .ok (.iconst 0, 1) := by decide +kernel
theorem d_JArr_fill_1 : decode prog_31_method_101_code 1 = .ok (.istore_n 3, 1) := by decide +kernel
theorem d_JArr_fill_2 : decode prog_31_method_101_code 2 = .ok (.aload_n 0, 1) := by decide +kernel
theorem d_JArr_fill_3 : decode prog_31_method_101_code 3 = .ok (.arraylength, 1) := by decide +kernel
theorem d_JArr_fill_4 : decode prog_31_method_101_code 4 = .ok (.istore 4, 2) := by decide +kernel
theorem d_JArr_fill_6 : decode prog_31_method_101_code 6 = .ok (.iload_n 3, 1) := by decide +kernel
theorem d_JArr_fill_7 : decode prog_31_method_101_code 7 = .ok (.iload 4, 2) := by decide +kernel
theorem d_JArr_fill_9 : decode prog_31_method_101_code 9 = .ok (.if_icmp .ge 13, 3) := by decide +kernel
theorem d_JArr_fill_12 : decode prog_31_method_101_code 12 = .ok (.aload_n 0, 1) := by decide +kernel
theorem d_JArr_fill_13 : decode prog_31_method_101_code 13 = .ok (.iload_n 3, 1) := by decide +kernel
theorem d_JArr_fill_14 : decode prog_31_method_101_code 14 = .ok (.lload_n 1, 1) := by decide +kernel
theorem d_JArr_fill_15 : decode prog_31_method_101_code 15 = .ok (.lastore, 1) := by decide +kernel
theorem d_JArr_fill_16 : decode prog_31_method_101_code 16 = .ok (.iinc 3 1, 3) := by decide +kernel
theorem d_JArr_fill_19 : decode prog_31_method_101_code 19 = .ok (.goto (-13), 3) := by decide +kernel
theorem d_JArr_fill_22 : decode prog_31_method_101_code 22 = .ok (.return_, 1) := by decide +kernel
abbrev S_JArr_fill : Type := Nat × Nat × Int64 × Int32 × Int32 × AM
noncomputable def T_JArr_fill_0 (v0R : Nat) (v1J : Int64) (σ : AM) : S_JArr_fill ⊕ Option (Unit × AM) :=
  gdT (okO σ v0R 102) <| letT (nI (aN σ v0R)) fun x2 => .inl (1, v0R, v1J, (0 : Int32), x2, σ)
noncomputable def T_JArr_fill_1 (v0R : Nat) (v1J : Int64) (v3I : Int32) (v4I : Int32) (σ : AM) : S_JArr_fill ⊕ Option (Unit × AM) :=
  if v3I < v4I then (gdT (okO σ v0R 102) <| gdT (inB v3I (aN σ v0R)) <| letT (sL σ v0R v3I.toNatClampNeg v1J) fun σ3 => .inl (1, v0R, v1J, v3I + (1 : Int32), v4I, σ3)) else (.inr (some ((), σ)))
noncomputable def F_JArr_fill : S_JArr_fill → S_JArr_fill ⊕ Option (Unit × AM) := fun s => match s.1 with
  | 0 => T_JArr_fill_0 (s.2.1) (s.2.2.1) (s.2.2.2.2.2)
  | _ => T_JArr_fill_1 (s.2.1) (s.2.2.1) (s.2.2.2.1) (s.2.2.2.2.1) (s.2.2.2.2.2)
noncomputable def L_JArr_fill_0 (v0R : Nat) (v1J : Int64) (σ : AM) : Option (Unit × AM) := lp F_JArr_fill (0, v0R, v1J, 0, 0, σ)
noncomputable def L_JArr_fill_1 (v0R : Nat) (v1J : Int64) (v3I : Int32) (v4I : Int32) (σ : AM) : Option (Unit × AM) := lp F_JArr_fill (1, v0R, v1J, v3I, v4I, σ)
set_option maxRecDepth 20000 in
theorem E_JArr_fill_0 (v0R : Nat) (v1J : Int64) (σ : AM) : L_JArr_fill_0 v0R v1J σ = (gd (okO σ v0R 102) <| letT (nI (aN σ v0R)) fun x2 => L_JArr_fill_1 v0R v1J ((0 : Int32)) x2 σ) := by
  unfold L_JArr_fill_0
  rw [lp_eq]
  show lpK (lp F_JArr_fill) (T_JArr_fill_0 v0R v1J σ) = _
  unfold T_JArr_fill_0
  simp only [lpK_ite, lq_inl, lq_inr, lpK_bnd, lpK_gd, lq_let]
  try rfl
set_option maxRecDepth 20000 in
theorem E_JArr_fill_1 (v0R : Nat) (v1J : Int64) (v3I : Int32) (v4I : Int32) (σ : AM) : L_JArr_fill_1 v0R v1J v3I v4I σ = (if v3I < v4I then (gd (okO σ v0R 102) <| gd (inB v3I (aN σ v0R)) <| letT (sL σ v0R v3I.toNatClampNeg v1J) fun σ3 => L_JArr_fill_1 v0R v1J (v3I + (1 : Int32)) v4I σ3) else ((some ((), σ)))) := by
  unfold L_JArr_fill_1
  rw [lp_eq]
  show lpK (lp F_JArr_fill) (T_JArr_fill_1 v0R v1J v3I v4I σ) = _
  unfold T_JArr_fill_1
  simp only [lpK_ite, lq_inl, lq_inr, lpK_bnd, lpK_gd, lq_let]
  try rfl
noncomputable def M_JArr_fill (v0R : Nat) (v1J : Int64) (σ : AM) : Option (Unit × AM) := mw σ (L_JArr_fill_0 v0R v1J σ)
def I_JArr_fill (G : GX) (p : Program) (l : Launch) (e : Env) (s : State) (m : MethodId) (args : Array Value) (below : List Frame) (meth : Method) (c : Code) (z0 u0 n : Nat) : Prop :=
  (∀ (v0R : Nat) (v1J : Int64) (σ : AM), VX (QM eV G args s below z0 u0) G p l e s m args below meth c 0 z0 u0 5 (lpn F_JArr_fill n (0, v0R, v1J, 0, 0, σ)) 0 [(0, .ref v0R), (1, .long v1J)] [] σ) ∧
  (∀ (v0R : Nat) (v1J : Int64) (v3I : Int32) (v4I : Int32) (σ : AM), VX (QM eV G args s below z0 u0) G p l e s m args below meth c 0 z0 u0 5 (lpn F_JArr_fill n (1, v0R, v1J, v3I, v4I, σ)) 6 [(0, .ref v0R), (1, .long v1J), (3, .int v3I), (4, .int v4I)] [] σ)
set_option maxRecDepth 20000 in
theorem s_JArr_fill_0 {G : GX} {p : Program} {l : Launch} {e : Env} {s : State} {m : MethodId} {args : Array Value} {below : List Frame} {meth : Method} {c : Code} {z0 u0 n : Nat} (C : Cx G p s m args meth c prog_31_method_101_code 5 "java/util/Arrays" ((none))) (IH : I_JArr_fill G p l e s m args below meth c z0 u0 n) (v0R : Nat) (v1J : Int64) (σ : AM) : VX (QM eV G args s below z0 u0) G p l e s m args below meth c 0 z0 u0 5 (lpK (lpn F_JArr_fill n) (T_JArr_fill_0 v0R v1J σ)) 0 [(0, .ref v0R), (1, .long v1J)] [] σ := by
  unfold T_JArr_fill_0
  refine x_iconst (v := (0 : Int32)) C d_JArr_fill_0 (by decide) ?_
  refine x_istore_n (lv' := [(3, .int (0 : Int32)), (0, .ref v0R), (1, .long v1J)]) C d_JArr_fill_1 (by decide) rfl rfl ?_
  refine x_aload_n C d_JArr_fill_2 1 rfl ?_
  refine x_gd (fun h1 => ?_)
  refine x_alen (t := 1) C (okO_iff.mp h1) (by decide) d_JArr_fill_3 ?_
  refine x_letI (fun x2 _ => ?_)
  refine x_istore (lv' := [(4, .int x2), (3, .int (0 : Int32)), (0, .ref v0R), (1, .long v1J)]) C d_JArr_fill_4 (by decide) rfl ?_
  refine x_lv [2, 3, 1, 0] rfl ?_
  exact IH.2 v0R v1J ((0 : Int32)) x2 (σ)
set_option maxRecDepth 20000 in
theorem s_JArr_fill_1 {G : GX} {p : Program} {l : Launch} {e : Env} {s : State} {m : MethodId} {args : Array Value} {below : List Frame} {meth : Method} {c : Code} {z0 u0 n : Nat} (C : Cx G p s m args meth c prog_31_method_101_code 5 "java/util/Arrays" ((none))) (IH : I_JArr_fill G p l e s m args below meth c z0 u0 n) (v0R : Nat) (v1J : Int64) (v3I : Int32) (v4I : Int32) (σ : AM) : VX (QM eV G args s below z0 u0) G p l e s m args below meth c 0 z0 u0 5 (lpK (lpn F_JArr_fill n) (T_JArr_fill_1 v0R v1J v3I v4I σ)) 6 [(0, .ref v0R), (1, .long v1J), (3, .int v3I), (4, .int v4I)] [] σ := by
  unfold T_JArr_fill_1
  refine x_iload_n C d_JArr_fill_6 2 rfl ?_
  refine x_iload C d_JArr_fill_7 3 rfl ?_
  refine x_icmp_ge (tgt := 22) C d_JArr_fill_9 (by decide) (fun _ => ?_) (fun _ => ?_)
  · refine x_aload_n C d_JArr_fill_12 0 rfl ?_
    refine x_iload_n C d_JArr_fill_13 2 rfl ?_
    refine x_lload_n C d_JArr_fill_14 1 rfl ?_
    refine x_gd (fun h1 => ?_)
    refine x_gd (fun h2 => ?_)
    refine x_astJ C (okO_iff.mp h1) (inB_iff.mp h2) d_JArr_fill_15 ?_
    refine x_letS (fun σ3 e4 => ?_)
    refine x_iinc (v := v3I + (1 : Int32)) (lv' := [(3, .int (v3I + (1 : Int32))), (0, .ref v0R), (1, .long v1J), (4, .int v4I)]) C d_JArr_fill_16 2 rfl rfl (by decide) rfl ?_
    refine x_goto (tgt := 6) C d_JArr_fill_19 (by decide) ?_
    refine x_lv [1, 2, 0, 3] rfl ?_
    exact IH.2 v0R v1J (v3I + (1 : Int32)) v4I (σ3)
  · exact x_vret C d_JArr_fill_22
theorem i_JArr_fill {G : GX} {p : Program} {l : Launch} {e : Env} {s : State} {m : MethodId} {args : Array Value} {below : List Frame} {meth : Method} {c : Code} {z0 u0 : Nat} (C : Cx G p s m args meth c prog_31_method_101_code 5 "java/util/Arrays" ((none))) (n : Nat) : I_JArr_fill G p l e s m args below meth c z0 u0 n := by
  induction n with
  | zero => exact ⟨fun _ _ _ => x_none, fun _ _ _ _ _ => x_none⟩
  | succ n IH => exact ⟨fun v0R v1J σ => s_JArr_fill_0 C IH v0R v1J σ, fun v0R v1J v3I v4I σ => s_JArr_fill_1 C IH v0R v1J v3I v4I σ⟩
theorem c_JArr_fill (G : GX) (l : Launch) (v0R : Nat) (v1J : Int64) (σ : AM) : CT eV G l 0 y_JArr_fill prog_31_method_101_code 5 (none) [.ref v0R, .long v1J] σ (M_JArr_fill v0R v1J σ) := by
  refine ct_of (by decide +kernel) (Nat.le_of_ble_eq_true rfl) (fun p e s m args below meth c C hin => ?_)
  refine x_lve (lv' := [(0, .ref v0R), (1, .long v1J)]) rfl ?_
  intro r σ' h
  obtain ⟨n, hn⟩ := (lp_iff _ _ _).mp h
  exact (i_JArr_fill C n).1 v0R v1J σ r σ' hn
/-! java/util/Arrays.rangeCheck(III)V -/
abbrev y_JArr_rangeCheck : MethodName := ⟨"java/util/Arrays", "rangeCheck", "(III)V"⟩
theorem k_JArr_rangeCheck : y_JArr_rangeCheck.cls ≠ "java/lang/invoke/MethodHandle" ∧ y_JArr_rangeCheck.cls ≠ "java/lang/invoke/VarHandle" ∧ (parseMethodDescriptor y_JArr_rangeCheck.desc).map (fun d => d.parameters.length) = some 3 := by decide +kernel
theorem d_JArr_rangeCheck_0 : decode prog_31_method_30_code 0 = .ok (.iload_n 1, 1) := by decide +kernel
theorem d_JArr_rangeCheck_1 : decode prog_31_method_30_code 1 = .ok (.iload_n 2, 1) := by decide +kernel
theorem d_JArr_rangeCheck_2 : decode prog_31_method_30_code 2 = .ok (.if_icmp .le 44, 3) := by decide +kernel
theorem d_JArr_rangeCheck_5 : decode prog_31_method_30_code 5 = .ok (.new 43, 3) := by decide +kernel
theorem d_JArr_rangeCheck_46 : decode prog_31_method_30_code 46 = .ok (.iload_n 1, 1) := by decide +kernel
theorem d_JArr_rangeCheck_47 : decode prog_31_method_30_code 47 = .ok (.ifCond .ge 12, 3) := by decide +kernel
theorem d_JArr_rangeCheck_50 : decode prog_31_method_30_code 50 = .ok (.new 68, 3) := by decide +kernel
theorem d_JArr_rangeCheck_59 : decode prog_31_method_30_code 59 = .ok (.iload_n 2, 1) := by decide +kernel
theorem d_JArr_rangeCheck_60 : decode prog_31_method_30_code 60 = .ok (.iload_n 0, 1) := by decide +kernel
theorem d_JArr_rangeCheck_61 : decode prog_31_method_30_code 61 = .ok (.if_icmp .le 12, 3) := by decide +kernel
theorem d_JArr_rangeCheck_64 : decode prog_31_method_30_code 64 = .ok (.new 68, 3) := by decide +kernel
theorem d_JArr_rangeCheck_73 : decode prog_31_method_30_code 73 = .ok (.return_, 1) := by decide +kernel
abbrev S_JArr_rangeCheck : Type := Nat × Int32 × Int32 × Int32 × AM
noncomputable def T_JArr_rangeCheck_0 (v0I : Int32) (v1I : Int32) (v2I : Int32) (σ : AM) : S_JArr_rangeCheck ⊕ Option (Unit × AM) :=
  if v2I < v1I then (.inr none) else (if v1I < 0 then (.inr none) else (if v0I < v2I then (.inr none) else (.inr (some ((), σ)))))
noncomputable def F_JArr_rangeCheck : S_JArr_rangeCheck → S_JArr_rangeCheck ⊕ Option (Unit × AM) := fun s => match s.1 with
  | _ => T_JArr_rangeCheck_0 (s.2.1) (s.2.2.1) (s.2.2.2.1) (s.2.2.2.2)
noncomputable def L_JArr_rangeCheck_0 (v0I : Int32) (v1I : Int32) (v2I : Int32) (σ : AM) : Option (Unit × AM) := lp F_JArr_rangeCheck (0, v0I, v1I, v2I, σ)
set_option maxRecDepth 20000 in
theorem E_JArr_rangeCheck_0 (v0I : Int32) (v1I : Int32) (v2I : Int32) (σ : AM) : L_JArr_rangeCheck_0 v0I v1I v2I σ = (if v2I < v1I then (none) else (if v1I < 0 then (none) else (if v0I < v2I then (none) else ((some ((), σ)))))) := by
  unfold L_JArr_rangeCheck_0
  rw [lp_eq]
  show lpK (lp F_JArr_rangeCheck) (T_JArr_rangeCheck_0 v0I v1I v2I σ) = _
  unfold T_JArr_rangeCheck_0
  simp only [lpK_ite, lq_inl, lq_inr, lpK_bnd, lpK_gd, lq_let]
  try rfl
noncomputable def M_JArr_rangeCheck (v0I : Int32) (v1I : Int32) (v2I : Int32) (σ : AM) : Option (Unit × AM) := mw σ (L_JArr_rangeCheck_0 v0I v1I v2I σ)
def I_JArr_rangeCheck (G : GX) (p : Program) (l : Launch) (e : Env) (s : State) (m : MethodId) (args : Array Value) (below : List Frame) (meth : Method) (c : Code) (z0 u0 n : Nat) : Prop :=
  (∀ (v0I : Int32) (v1I : Int32) (v2I : Int32) (σ : AM), VX (QM eV G args s below z0 u0) G p l e s m args below meth c 0 z0 u0 3 (lpn F_JArr_rangeCheck n (0, v0I, v1I, v2I, σ)) 0 [(0, .int v0I), (1, .int v1I), (2, .int v2I)] [] σ)
set_option maxRecDepth 20000 in
theorem s_JArr_rangeCheck_0 {G : GX} {p : Program} {l : Launch} {e : Env} {s : State} {m : MethodId} {args : Array Value} {below : List Frame} {meth : Method} {c : Code} {z0 u0 n : Nat} (C : Cx G p s m args meth c prog_31_method_30_code 3 "java/util/Arrays" ((none))) (IH : I_JArr_rangeCheck G p l e s m args below meth c z0 u0 n) (v0I : Int32) (v1I : Int32) (v2I : Int32) (σ : AM) : VX (QM eV G args s below z0 u0) G p l e s m args below meth c 0 z0 u0 3 (lpK (lpn F_JArr_rangeCheck n) (T_JArr_rangeCheck_0 v0I v1I v2I σ)) 0 [(0, .int v0I), (1, .int v1I), (2, .int v2I)] [] σ := by
  unfold T_JArr_rangeCheck_0
  refine x_iload_n C d_JArr_rangeCheck_0 1 rfl ?_
  refine x_iload_n C d_JArr_rangeCheck_1 2 rfl ?_
  refine x_icmp_le (tgt := 46) C d_JArr_rangeCheck_2 (by decide) (fun _ => ?_) (fun _ => ?_)
  · exact x_die
  · refine x_iload_n C d_JArr_rangeCheck_46 1 rfl ?_
    refine x_if_ge (tgt := 59) C d_JArr_rangeCheck_47 (by decide) (fun _ => ?_) (fun _ => ?_)
    · exact x_die
    · refine x_iload_n C d_JArr_rangeCheck_59 2 rfl ?_
      refine x_iload_n C d_JArr_rangeCheck_60 0 rfl ?_
      refine x_icmp_le (tgt := 73) C d_JArr_rangeCheck_61 (by decide) (fun _ => ?_) (fun _ => ?_)
      · exact x_die
      · exact x_vret C d_JArr_rangeCheck_73
theorem i_JArr_rangeCheck {G : GX} {p : Program} {l : Launch} {e : Env} {s : State} {m : MethodId} {args : Array Value} {below : List Frame} {meth : Method} {c : Code} {z0 u0 : Nat} (C : Cx G p s m args meth c prog_31_method_30_code 3 "java/util/Arrays" ((none))) (n : Nat) : I_JArr_rangeCheck G p l e s m args below meth c z0 u0 n := by
  induction n with
  | zero => exact fun _ _ _ _ => x_none
  | succ n IH => exact fun v0I v1I v2I σ => s_JArr_rangeCheck_0 C IH v0I v1I v2I σ
theorem c_JArr_rangeCheck (G : GX) (l : Launch) (v0I : Int32) (v1I : Int32) (v2I : Int32) (σ : AM) : CT eV G l 0 y_JArr_rangeCheck prog_31_method_30_code 3 (none) [.int v0I, .int v1I, .int v2I] σ (M_JArr_rangeCheck v0I v1I v2I σ) := by
  refine ct_of (by decide +kernel) (Nat.le_of_ble_eq_true rfl) (fun p e s m args below meth c C hin => ?_)
  refine x_lve (lv' := [(0, .int v0I), (1, .int v1I), (2, .int v2I)]) rfl ?_
  intro r σ' h
  obtain ⟨n, hn⟩ := (lp_iff _ _ _).mp h
  exact (i_JArr_rangeCheck C n) v0I v1I v2I σ r σ' hn
/-! java/util/Arrays.fill([BIIB)V -/
abbrev y_JArr_fill3 : MethodName := ⟨"java/util/Arrays", "fill", "([BIIB)V"⟩
theorem k_JArr_fill3 : y_JArr_fill3.cls ≠ "java/lang/invoke/MethodHandle" ∧ y_JArr_fill3.cls ≠ "java/lang/invoke/VarHandle" ∧ (parseMethodDescriptor y_JArr_fill3.desc).map (fun d => d.parameters.length) = some 4 := by decide +kernel
theorem d_JArr_fill3_0 : decode prog_31_method_110_code 0 = .ok (.aload_n 0, 1) := by decide +kernel
theorem d_JArr_fill3_1 : decode prog_31_method_110_code 1 = .ok (.arraylength, 1) := by decide +kernel
theorem d_JArr_fill3_2 : decode prog_31_method_110_code 2 = .ok (.iload_n 1, 1) := by decide +kernel
theorem d_JArr_fill3_3 : decode prog_31_method_110_code 3 = .ok (.iload_n 2, 1) := by decide +kernel
theorem d_JArr_fill3_4 : decode prog_31_method_110_code 4 = .ok (.invokestatic 13, 3) := by decide +kernel
theorem d_JArr_fill3_7 : decode prog_31_method_110_code 7 = .ok (.iload_n 1, 1) := by decide +kernel
theorem d_JArr_fill3_8 : decode prog_31_method_110_code 8 = .ok (.istore 4, 2) := by decide +kernel
theorem d_JArr_fill3_10 : decode prog_31_method_110_code 10 = .ok (.iload 4, 2) := by decide +kernel
theorem d_JArr_fill3_12 : decode prog_31_method_110_code 12 = .ok (.iload_n 2, 1) := by decide +kernel
theorem d_JArr_fill3_13 : decode prog_31_method_110_code 13 = .ok (.if_icmp .ge 14, 3) := by decide +kernel
theorem d_JArr_fill3_16 : decode prog_31_method_110_code 16 = .ok (.aload_n 0, 1) := by decide +kernel
theorem d_JArr_fill3_17 : decode prog_31_method_110_code 17 = .ok (.iload 4, 2) := by decide +kernel
theorem d_JArr_fill3_19 : decode prog_31_method_110_code 19 = .ok (.iload_n 3, 1) := by decide +kernel
theorem d_JArr_fill3_20 : decode prog_31_method_110_code 20 = .ok (.bastore, 1) := by decide +kernel
theorem d_JArr_fill3_21 : decode prog_31_method_110_code 21 = .ok (.iinc 4 1, 3) := by decide +kernel
theorem d_JArr_fill3_24 : decode prog_31_method_110_code 24 = .ok (.goto (-14), 3) := by decide +kernel
theorem d_JArr_fill3_27 : decode prog_31_method_110_code 27 = .ok (.return_, 1) := by decide +kernel
abbrev S_JArr_fill3 : Type := Nat × Nat × Int32 × Int32 × Int32 × Int32 × AM
noncomputable def T_JArr_fill3_0 (v0R : Nat) (v1I : Int32) (v2I : Int32) (v3I : Int32) (σ : AM) : S_JArr_fill3 ⊕ Option (Unit × AM) :=
  gdT (okO σ v0R 105) <| bndT (M_JArr_rangeCheck (nI (aN σ v0R)) v1I v2I σ) fun _ σ3 => .inl (1, v0R, 0, v2I, v3I, v1I, σ3)
noncomputable def T_JArr_fill3_1 (v0R : Nat) (v2I : Int32) (v3I : Int32) (v4I : Int32) (σ : AM) : S_JArr_fill3 ⊕ Option (Unit × AM) :=
  if v4I < v2I then (gdT (okO σ v0R 105) <| gdT (inB v4I (aN σ v0R)) <| letT (sI σ v0R v4I.toNatClampNeg (vp_nar .byte v3I)) fun σ3 => .inl (1, v0R, 0, v2I, v3I, v4I + (1 : Int32), σ3)) else (.inr (some ((), σ)))
noncomputable def F_JArr_fill3 : S_JArr_fill3 → S_JArr_fill3 ⊕ Option (Unit × AM) := fun s => match s.1 with
  | 0 => T_JArr_fill3_0 (s.2.1) (s.2.2.1) (s.2.2.2.1) (s.2.2.2.2.1) (s.2.2.2.2.2.2)
  | _ => T_JArr_fill3_1 (s.2.1) (s.2.2.2.1) (s.2.2.2.2.1) (s.2.2.2.2.2.1) (s.2.2.2.2.2.2)
noncomputable def L_JArr_fill3_0 (v0R : Nat) (v1I : Int32) (v2I : Int32) (v3I : Int32) (σ : AM) : Option (Unit × AM) := lp F_JArr_fill3 (0, v0R, v1I, v2I, v3I, 0, σ)
noncomputable def L_JArr_fill3_1 (v0R : Nat) (v2I : Int32) (v3I : Int32) (v4I : Int32) (σ : AM) : Option (Unit × AM) := lp F_JArr_fill3 (1, v0R, 0, v2I, v3I, v4I, σ)
set_option maxRecDepth 20000 in
theorem E_JArr_fill3_0 (v0R : Nat) (v1I : Int32) (v2I : Int32) (v3I : Int32) (σ : AM) : L_JArr_fill3_0 v0R v1I v2I v3I σ = (gd (okO σ v0R 105) <| bnd (M_JArr_rangeCheck (nI (aN σ v0R)) v1I v2I σ) fun _ σ3 => L_JArr_fill3_1 v0R v2I v3I v1I σ3) := by
  unfold L_JArr_fill3_0
  rw [lp_eq]
  show lpK (lp F_JArr_fill3) (T_JArr_fill3_0 v0R v1I v2I v3I σ) = _
  unfold T_JArr_fill3_0
  simp only [lpK_ite, lq_inl, lq_inr, lpK_bnd, lpK_gd, lq_let]
  try rfl
set_option maxRecDepth 20000 in
theorem E_JArr_fill3_1 (v0R : Nat) (v2I : Int32) (v3I : Int32) (v4I : Int32) (σ : AM) : L_JArr_fill3_1 v0R v2I v3I v4I σ = (if v4I < v2I then (gd (okO σ v0R 105) <| gd (inB v4I (aN σ v0R)) <| letT (sI σ v0R v4I.toNatClampNeg (vp_nar .byte v3I)) fun σ3 => L_JArr_fill3_1 v0R v2I v3I (v4I + (1 : Int32)) σ3) else ((some ((), σ)))) := by
  unfold L_JArr_fill3_1
  rw [lp_eq]
  show lpK (lp F_JArr_fill3) (T_JArr_fill3_1 v0R v2I v3I v4I σ) = _
  unfold T_JArr_fill3_1
  simp only [lpK_ite, lq_inl, lq_inr, lpK_bnd, lpK_gd, lq_let]
  try rfl
noncomputable def M_JArr_fill3 (v0R : Nat) (v1I : Int32) (v2I : Int32) (v3I : Int32) (σ : AM) : Option (Unit × AM) := mw σ (L_JArr_fill3_0 v0R v1I v2I v3I σ)
def I_JArr_fill3 (G : GX) (p : Program) (l : Launch) (e : Env) (s : State) (m : MethodId) (args : Array Value) (below : List Frame) (meth : Method) (c : Code) (z0 u0 n : Nat) : Prop :=
  (∀ (v0R : Nat) (v1I : Int32) (v2I : Int32) (v3I : Int32) (σ : AM), VX (QM eV G args s below z0 u0) G p l e s m args below meth c 1 z0 u0 5 (lpn F_JArr_fill3 n (0, v0R, v1I, v2I, v3I, 0, σ)) 0 [(0, .ref v0R), (1, .int v1I), (2, .int v2I), (3, .int v3I)] [] σ) ∧
  (∀ (v0R : Nat) (v2I : Int32) (v3I : Int32) (v4I : Int32) (σ : AM), VX (QM eV G args s below z0 u0) G p l e s m args below meth c 1 z0 u0 5 (lpn F_JArr_fill3 n (1, v0R, 0, v2I, v3I, v4I, σ)) 10 [(0, .ref v0R), (2, .int v2I), (3, .int v3I), (4, .int v4I)] [] σ)
set_option maxRecDepth 20000 in
theorem s_JArr_fill3_0 {G : GX} {p : Program} {l : Launch} {e : Env} {s : State} {m : MethodId} {args : Array Value} {below : List Frame} {meth : Method} {c : Code} {z0 u0 n : Nat} (C : Cx G p s m args meth c prog_31_method_110_code 5 "java/util/Arrays" ((none))) (IH : I_JArr_fill3 G p l e s m args below meth c z0 u0 n) (v0R : Nat) (v1I : Int32) (v2I : Int32) (v3I : Int32) (σ : AM) : VX (QM eV G args s below z0 u0) G p l e s m args below meth c 1 z0 u0 5 (lpK (lpn F_JArr_fill3 n) (T_JArr_fill3_0 v0R v1I v2I v3I σ)) 0 [(0, .ref v0R), (1, .int v1I), (2, .int v2I), (3, .int v3I)] [] σ := by
  unfold T_JArr_fill3_0
  refine x_aload_n C d_JArr_fill3_0 0 rfl ?_
  refine x_gd (fun h1 => ?_)
  refine x_alen (t := 4) C (okO_iff.mp h1) (by decide) d_JArr_fill3_1 ?_
  refine x_iload_n C d_JArr_fill3_2 1 rfl ?_
  refine x_iload_n C d_JArr_fill3_3 2 rfl ?_
  refine x_callSV (As := [.int (nI (aN σ v0R)), .int v1I, .int v2I]) C (c_JArr_rangeCheck G l (nI (aN σ v0R)) v1I v2I σ) w1223 w1222 w1224 w127 k_JArr_rangeCheck rfl (by decide) (by decide) rfl (Nat.le_of_ble_eq_true rfl) d_JArr_fill3_4 (fun r2 σ3 => ?_)
  refine x_iload_n C d_JArr_fill3_7 1 rfl ?_
  refine x_istore (lv' := [(4, .int v1I), (0, .ref v0R), (1, .int v1I), (2, .int v2I), (3, .int v3I)]) C d_JArr_fill3_8 (by decide) rfl ?_
  refine x_lv [1, 3, 4, 0] rfl ?_
  exact IH.2 v0R v2I v3I v1I (σ3)
set_option maxRecDepth 20000 in
theorem s_JArr_fill3_1 {G : GX} {p : Program} {l : Launch} {e : Env} {s : State} {m : MethodId} {args : Array Value} {below : List Frame} {meth : Method} {c : Code} {z0 u0 n : Nat} (C : Cx G p s m args meth c prog_31_method_110_code 5 "java/util/Arrays" ((none))) (IH : I_JArr_fill3 G p l e s m args below meth c z0 u0 n) (v0R : Nat) (v2I : Int32) (v3I : Int32) (v4I : Int32) (σ : AM) : VX (QM eV G args s below z0 u0) G p l e s m args below meth c 1 z0 u0 5 (lpK (lpn F_JArr_fill3 n) (T_JArr_fill3_1 v0R v2I v3I v4I σ)) 10 [(0, .ref v0R), (2, .int v2I), (3, .int v3I), (4, .int v4I)] [] σ := by
  unfold T_JArr_fill3_1
  refine x_iload C d_JArr_fill3_10 3 rfl ?_
  refine x_iload_n C d_JArr_fill3_12 1 rfl ?_
  refine x_icmp_ge (tgt := 27) C d_JArr_fill3_13 (by decide) (fun _ => ?_) (fun _ => ?_)
  · refine x_aload_n C d_JArr_fill3_16 0 rfl ?_
    refine x_iload C d_JArr_fill3_17 3 rfl ?_
    refine x_iload_n C d_JArr_fill3_19 2 rfl ?_
    refine x_gd (fun h1 => ?_)
    refine x_gd (fun h2 => ?_)
    refine x_astB C (okO_iff.mp h1) (inB_iff.mp h2) d_JArr_fill3_20 ?_
    refine x_letS (fun σ3 e4 => ?_)
    refine x_iinc (v := v4I + (1 : Int32)) (lv' := [(4, .int (v4I + (1 : Int32))), (0, .ref v0R), (2, .int v2I), (3, .int v3I)]) C d_JArr_fill3_21 3 rfl rfl (by decide) rfl ?_
    refine x_goto (tgt := 10) C d_JArr_fill3_24 (by decide) ?_
    refine x_lv [1, 2, 3, 0] rfl ?_
    exact IH.2 v0R v2I v3I (v4I + (1 : Int32)) (σ3)
  · exact x_vret C d_JArr_fill3_27
theorem i_JArr_fill3 {G : GX} {p : Program} {l : Launch} {e : Env} {s : State} {m : MethodId} {args : Array Value} {below : List Frame} {meth : Method} {c : Code} {z0 u0 : Nat} (C : Cx G p s m args meth c prog_31_method_110_code 5 "java/util/Arrays" ((none))) (n : Nat) : I_JArr_fill3 G p l e s m args below meth c z0 u0 n := by
  induction n with
  | zero => exact ⟨fun _ _ _ _ _ => x_none, fun _ _ _ _ _ => x_none⟩
  | succ n IH => exact ⟨fun v0R v1I v2I v3I σ => s_JArr_fill3_0 C IH v0R v1I v2I v3I σ, fun v0R v2I v3I v4I σ => s_JArr_fill3_1 C IH v0R v2I v3I v4I σ⟩
theorem c_JArr_fill3 (G : GX) (l : Launch) (v0R : Nat) (v1I : Int32) (v2I : Int32) (v3I : Int32) (σ : AM) : CT eV G l 1 y_JArr_fill3 prog_31_method_110_code 5 (none) [.ref v0R, .int v1I, .int v2I, .int v3I] σ (M_JArr_fill3 v0R v1I v2I v3I σ) := by
  refine ct_of (by decide +kernel) (Nat.le_of_ble_eq_true rfl) (fun p e s m args below meth c C hin => ?_)
  refine x_lve (lv' := [(0, .ref v0R), (1, .int v1I), (2, .int v2I), (3, .int v3I)]) rfl ?_
  intro r σ' h
  obtain ⟨n, hn⟩ := (lp_iff _ _ _).mp h
  exact (i_JArr_fill3 C n).1 v0R v1I v2I v3I σ r σ' hn
/-! java/lang/Integer.bitCount(I)I -/
abbrev y_JInt_bitCount : MethodName := ⟨"java/lang/Integer", "bitCount", "(I)I"⟩
theorem k_JInt_bitCount : y_JInt_bitCount.cls ≠ "java/lang/invoke/MethodHandle" ∧ y_JInt_bitCount.cls ≠ "java/lang/invoke/VarHandle" ∧ (parseMethodDescriptor y_JInt_bitCount.desc).map (fun d => d.parameters.length) = some 1 := by decide +kernel
theorem d_JInt_bitCount_0 : decode prog_20_method_49_code 0 = .ok (.iload_n 0, 1) := by decide +kernel
theorem d_JInt_bitCount_1 : decode prog_20_method_49_code 1 = .ok (.iload_n 0, 1) := by decide +kernel
theorem d_JInt_bitCount_2 : decode prog_20_method_49_code 2 = .ok (.iconst 1, 1) := by decide +kernel
theorem d_JInt_bitCount_3 : decode prog_20_method_49_code 3 = .ok (.iushr, 1) := by decide +kernel
theorem d_JInt_bitCount_4 : decode prog_20_method_49_code 4 = .ok (.ldc_w 265, 3) := by decide +kernel
theorem d_JInt_bitCount_7 : decode prog_20_method_49_code 7 = .ok (.iand, 1) := by decide +kernel
theorem d_JInt_bitCount_8 : decode prog_20_method_49_code 8 = .ok (.isub, 1) := by decide +kernel
theorem d_JInt_bitCount_9 : decode prog_20_method_49_code 9 = .ok (.istore_n 0, 1) := by decide +kernel
theorem d_JInt_bitCount_10 : decode prog_20_method_49_code 10 = .ok (.iload_n 0, 1) := by decide +kernel
theorem d_JInt_bitCount_11 : decode prog_20_method_49_code 11 = .ok (.ldc_w 266, 3) := by decide +kernel
theorem d_JInt_bitCount_14 : decode prog_20_method_49_code 14 = .ok (.iand, 1) := by decide +kernel
theorem d_JInt_bitCount_15 : decode prog_20_method_49_code 15 = .ok (.iload_n 0, 1) := by decide +kernel
theorem d_JInt_bitCount_16 : decode prog_20_method_49_code 16 = .ok (.iconst 2, 1) := by decide +kernel
theorem d_JInt_bitCount_17 : decode prog_20_method_49_code 17 = .ok (.iushr, 1) := by decide +kernel
theorem d_JInt_bitCount_18 : decode prog_20_method_49_code 18 = .ok (.ldc_w 266, 3) := by decide +kernel
theorem d_JInt_bitCount_21 : decode prog_20_method_49_code 21 = .ok (.iand, 1) := by decide +kernel
theorem d_JInt_bitCount_22 : decode prog_20_method_49_code 22 = .ok (.iadd, 1) := by decide +kernel
theorem d_JInt_bitCount_23 : decode prog_20_method_49_code 23 = .ok (.istore_n 0, 1) := by decide +kernel
theorem d_JInt_bitCount_24 : decode prog_20_method_49_code 24 = .ok (.iload_n 0, 1) := by decide +kernel
theorem d_JInt_bitCount_25 : decode prog_20_method_49_code 25 = .ok (.iload_n 0, 1) := by decide +kernel
theorem d_JInt_bitCount_26 : decode prog_20_method_49_code 26 = .ok (.iconst 4, 1) := by decide +kernel
theorem d_JInt_bitCount_27 : decode prog_20_method_49_code 27 = .ok (.iushr, 1) := by decide +kernel
theorem d_JInt_bitCount_28 : decode prog_20_method_49_code 28 = .ok (.iadd, 1) := by decide +kernel
theorem d_JInt_bitCount_29 : decode prog_20_method_49_code 29 = .ok (.ldc_w 267, 3) := by decide +kernel
theorem d_JInt_bitCount_32 : decode prog_20_method_49_code 32 = .ok (.iand, 1) := by decide +kernel
theorem d_JInt_bitCount_33 : decode prog_20_method_49_code 33 = .ok (.istore_n 0, 1) := by decide +kernel
theorem d_JInt_bitCount_34 : decode prog_20_method_49_code 34 = .ok (.iload_n 0, 1) := by decide +kernel
theorem d_JInt_bitCount_35 : decode prog_20_method_49_code 35 = .ok (.iload_n 0, 1) := by decide +kernel
theorem d_JInt_bitCount_36 : decode prog_20_method_49_code 36 = .ok (.bipush 8, 2) := by decide +kernel
theorem d_JInt_bitCount_38 : decode prog_20_method_49_code 38 = .ok (.iushr, 1) := by decide +kernel
theorem d_JInt_bitCount_39 : decode prog_20_method_49_code 39 = .ok (.iadd, 1) := by decide +kernel
theorem d_JInt_bitCount_40 : decode prog_20_method_49_code 40 = .ok (.istore_n 0, 1) := by decide +kernel
theorem d_JInt_bitCount_41 : decode prog_20_method_49_code 41 = .ok (.iload_n 0, 1) := by decide +kernel
theorem d_JInt_bitCount_42 : decode prog_20_method_49_code 42 = .ok (.iload_n 0, 1) := by decide +kernel
theorem d_JInt_bitCount_43 : decode prog_20_method_49_code 43 = .ok (.bipush 16, 2) := by decide +kernel
theorem d_JInt_bitCount_45 : decode prog_20_method_49_code 45 = .ok (.iushr, 1) := by decide +kernel
theorem d_JInt_bitCount_46 : decode prog_20_method_49_code 46 = .ok (.iadd, 1) := by decide +kernel
theorem d_JInt_bitCount_47 : decode prog_20_method_49_code 47 = .ok (.istore_n 0, 1) := by decide +kernel
theorem d_JInt_bitCount_48 : decode prog_20_method_49_code 48 = .ok (.iload_n 0, 1) := by decide +kernel
theorem d_JInt_bitCount_49 : decode prog_20_method_49_code 49 = .ok (.bipush 63, 2) := by decide +kernel
theorem d_JInt_bitCount_51 : decode prog_20_method_49_code 51 = .ok (.iand, 1) := by decide +kernel
theorem d_JInt_bitCount_52 : decode prog_20_method_49_code 52 = .ok (.ireturn, 1) := by decide +kernel
abbrev S_JInt_bitCount : Type := Nat × Int32 × AM
noncomputable def T_JInt_bitCount_0 (v0I : Int32) (σ : AM) : S_JInt_bitCount ⊕ Option (Int32 × AM) :=
  letT (v0I - (((v0I.toUInt32 >>> ((1 : Int32).toUInt32 &&& Int32.toUInt32 31)).toInt32) &&& (1431655765 : Int32))) fun x1 => letT ((x1 &&& (858993459 : Int32)) + (((x1.toUInt32 >>> ((2 : Int32).toUInt32 &&& Int32.toUInt32 31)).toInt32) &&& (858993459 : Int32))) fun x2 => letT ((x2 + ((x2.toUInt32 >>> ((4 : Int32).toUInt32 &&& Int32.toUInt32 31)).toInt32)) &&& (252645135 : Int32)) fun x3 => letT (x3 + ((x3.toUInt32 >>> ((8 : Int32).toUInt32 &&& Int32.toUInt32 31)).toInt32)) fun x4 => letT (x4 + ((x4.toUInt32 >>> ((16 : Int32).toUInt32 &&& Int32.toUInt32 31)).toInt32)) fun x5 => .inr (some ((x5 &&& (63 : Int32)), σ))
noncomputable def F_JInt_bitCount : S_JInt_bitCount → S_JInt_bitCount ⊕ Option (Int32 × AM) := fun s => match s.1 with
  | _ => T_JInt_bitCount_0 (s.2.1) (s.2.2)
noncomputable def L_JInt_bitCount_0 (v0I : Int32) (σ : AM) : Option (Int32 × AM) := lp F_JInt_bitCount (0, v0I, σ)
set_option maxRecDepth 20000 in
theorem E_JInt_bitCount_0 (v0I : Int32) (σ : AM) : L_JInt_bitCount_0 v0I σ = (letT (v0I - (((v0I.toUInt32 >>> ((1 : Int32).toUInt32 &&& Int32.toUInt32 31)).toInt32) &&& (1431655765 : Int32))) fun x1 => letT ((x1 &&& (858993459 : Int32)) + (((x1.toUInt32 >>> ((2 : Int32).toUInt32 &&& Int32.toUInt32 31)).toInt32) &&& (858993459 : Int32))) fun x2 => letT ((x2 + ((x2.toUInt32 >>> ((4 : Int32).toUInt32 &&& Int32.toUInt32 31)).toInt32)) &&& (252645135 : Int32)) fun x3 => letT (x3 + ((x3.toUInt32 >>> ((8 : Int32).toUInt32 &&& Int32.toUInt32 31)).toInt32)) fun x4 => letT (x4 + ((x4.toUInt32 >>> ((16 : Int32).toUInt32 &&& Int32.toUInt32 31)).toInt32)) fun x5 => (some ((x5 &&& (63 : Int32)), σ))) := by
  unfold L_JInt_bitCount_0
  rw [lp_eq]
  show lpK (lp F_JInt_bitCount) (T_JInt_bitCount_0 v0I σ) = _
  unfold T_JInt_bitCount_0
  simp only [lpK_ite, lq_inl, lq_inr, lpK_bnd, lpK_gd, lq_let]
  try rfl
noncomputable def M_JInt_bitCount (v0I : Int32) (σ : AM) : Option (Int32 × AM) := mw σ (L_JInt_bitCount_0 v0I σ)
def I_JInt_bitCount (G : GX) (p : Program) (l : Launch) (e : Env) (s : State) (m : MethodId) (args : Array Value) (below : List Frame) (meth : Method) (c : Code) (z0 u0 n : Nat) : Prop :=
  (∀ (v0I : Int32) (σ : AM), VX (QM eI G args s below z0 u0) G p l e s m args below meth c 0 z0 u0 1 (lpn F_JInt_bitCount n (0, v0I, σ)) 0 [(0, .int v0I)] [] σ)
set_option maxRecDepth 20000 in
theorem s_JInt_bitCount_0 {G : GX} {p : Program} {l : Launch} {e : Env} {s : State} {m : MethodId} {args : Array Value} {below : List Frame} {meth : Method} {c : Code} {z0 u0 n : Nat} (C : Cx G p s m args meth c prog_20_method_49_code 1 "java/lang/Integer" ((some FieldType.int))) (IH : I_JInt_bitCount G p l e s m args below meth c z0 u0 n) (v0I : Int32) (σ : AM) : VX (QM eI G args s below z0 u0) G p l e s m args below meth c 0 z0 u0 1 (lpK (lpn F_JInt_bitCount n) (T_JInt_bitCount_0 v0I σ)) 0 [(0, .int v0I)] [] σ := by
  unfold T_JInt_bitCount_0
  refine x_iload_n C d_JInt_bitCount_0 0 rfl ?_
  refine x_iload_n C d_JInt_bitCount_1 0 rfl ?_
  refine x_iconst (v := (1 : Int32)) C d_JInt_bitCount_2 (by decide) ?_
  refine x_iushr C d_JInt_bitCount_3 ?_
  refine x_ldcw C d_JInt_bitCount_4 w606 ?_
  refine x_iand C d_JInt_bitCount_7 ?_
  refine x_isub C d_JInt_bitCount_8 ?_
  refine x_letI (fun x1 _ => ?_)
  refine x_istore_n (lv' := [(0, .int x1)]) C d_JInt_bitCount_9 (by decide) rfl rfl ?_
  refine x_iload_n C d_JInt_bitCount_10 0 rfl ?_
  refine x_ldcw C d_JInt_bitCount_11 w607 ?_
  refine x_iand C d_JInt_bitCount_14 ?_
  refine x_iload_n C d_JInt_bitCount_15 0 rfl ?_
  refine x_iconst (v := (2 : Int32)) C d_JInt_bitCount_16 (by decide) ?_
  refine x_iushr C d_JInt_bitCount_17 ?_
  refine x_ldcw C d_JInt_bitCount_18 w607 ?_
  refine x_iand C d_JInt_bitCount_21 ?_
  refine x_iadd C d_JInt_bitCount_22 ?_
  refine x_letI (fun x2 _ => ?_)
  refine x_istore_n (lv' := [(0, .int x2)]) C d_JInt_bitCount_23 (by decide) rfl rfl ?_
  refine x_iload_n C d_JInt_bitCount_24 0 rfl ?_
  refine x_iload_n C d_JInt_bitCount_25 0 rfl ?_
  refine x_iconst (v := (4 : Int32)) C d_JInt_bitCount_26 (by decide) ?_
  refine x_iushr C d_JInt_bitCount_27 ?_
  refine x_iadd C d_JInt_bitCount_28 ?_
  refine x_ldcw C d_JInt_bitCount_29 w608 ?_
  refine x_iand C d_JInt_bitCount_32 ?_
  refine x_letI (fun x3 _ => ?_)
  refine x_istore_n (lv' := [(0, .int x3)]) C d_JInt_bitCount_33 (by decide) rfl rfl ?_
  refine x_iload_n C d_JInt_bitCount_34 0 rfl ?_
  refine x_iload_n C d_JInt_bitCount_35 0 rfl ?_
  refine x_bipush (v := (8 : Int32)) C d_JInt_bitCount_36 (by decide) ?_
  refine x_iushr C d_JInt_bitCount_38 ?_
  refine x_iadd C d_JInt_bitCount_39 ?_
  refine x_letI (fun x4 _ => ?_)
  refine x_istore_n (lv' := [(0, .int x4)]) C d_JInt_bitCount_40 (by decide) rfl rfl ?_
  refine x_iload_n C d_JInt_bitCount_41 0 rfl ?_
  refine x_iload_n C d_JInt_bitCount_42 0 rfl ?_
  refine x_bipush (v := (16 : Int32)) C d_JInt_bitCount_43 (by decide) ?_
  refine x_iushr C d_JInt_bitCount_45 ?_
  refine x_iadd C d_JInt_bitCount_46 ?_
  refine x_letI (fun x5 _ => ?_)
  refine x_istore_n (lv' := [(0, .int x5)]) C d_JInt_bitCount_47 (by decide) rfl rfl ?_
  refine x_iload_n C d_JInt_bitCount_48 0 rfl ?_
  refine x_bipush (v := (63 : Int32)) C d_JInt_bitCount_49 (by decide) ?_
  refine x_iand C d_JInt_bitCount_51 ?_
  exact x_iret C d_JInt_bitCount_52
theorem i_JInt_bitCount {G : GX} {p : Program} {l : Launch} {e : Env} {s : State} {m : MethodId} {args : Array Value} {below : List Frame} {meth : Method} {c : Code} {z0 u0 : Nat} (C : Cx G p s m args meth c prog_20_method_49_code 1 "java/lang/Integer" ((some FieldType.int))) (n : Nat) : I_JInt_bitCount G p l e s m args below meth c z0 u0 n := by
  induction n with
  | zero => exact fun _ _ => x_none
  | succ n IH => exact fun v0I σ => s_JInt_bitCount_0 C IH v0I σ
theorem c_JInt_bitCount (G : GX) (l : Launch) (v0I : Int32) (σ : AM) : CT eI G l 0 y_JInt_bitCount prog_20_method_49_code 1 ((some FieldType.int)) [.int v0I] σ (M_JInt_bitCount v0I σ) := by
  refine ct_of (by decide +kernel) (Nat.le_of_ble_eq_true rfl) (fun p e s m args below meth c C hin => ?_)
  refine x_lve (lv' := [(0, .int v0I)]) rfl ?_
  intro r σ' h
  obtain ⟨n, hn⟩ := (lp_iff _ _ _).mp h
  exact (i_JInt_bitCount C n) v0I σ r σ' hn
/-! java/lang/String.isLatin1()Z -/
abbrev y_JStr_isLatin1 : MethodName := ⟨"java/lang/String", "isLatin1", "()Z"⟩
theorem k_JStr_isLatin1 : y_JStr_isLatin1.cls ≠ "java/lang/invoke/MethodHandle" ∧ y_JStr_isLatin1.cls ≠ "java/lang/invoke/VarHandle" ∧ (parseMethodDescriptor y_JStr_isLatin1.desc).map (fun d => d.parameters.length) = some 0 := by decide +kernel
theorem d_JStr_isLatin1_0 : decode prog_24_method_154_code 0 = .ok (.getstatic 38, 3) := by decide +kernel
theorem d_JStr_isLatin1_3 : decode prog_24_method_154_code 3 = .ok (.ifCond .eq 14, 3) := by decide +kernel
theorem d_JStr_isLatin1_6 : decode prog_24_method_154_code 6 = .ok (.aload_n 0, 1) := by decide +kernel
theorem d_JStr_isLatin1_7 : decode prog_24_method_154_code 7 = .ok (.getfield 15, 3) := by decide +kernel
theorem d_JStr_isLatin1_10 : decode prog_24_method_154_code 10 = .ok (.ifCond .ne 7, 3) := by decide +kernel
theorem d_JStr_isLatin1_13 : decode prog_24_method_154_code 13 = .ok (.iconst 1, 1) := by decide +kernel
theorem d_JStr_isLatin1_14 : decode prog_24_method_154_code 14 = .ok (.goto 4, 3) := by decide +kernel
theorem d_JStr_isLatin1_17 : decode prog_24_method_154_code 17 = .ok (.iconst 0, 1) := by decide +kernel
theorem d_JStr_isLatin1_18 : decode prog_24_method_154_code 18 = .ok (.ireturn, 1) := by decide +kernel
abbrev S_JStr_isLatin1 : Type := Nat × Int32 × AM
noncomputable def T_JStr_isLatin1_0  (σ : AM) : S_JStr_isLatin1 ⊕ Option (Int32 × AM) :=
  if (1 : Int32) = 0 then (.inl (1, 0, σ)) else (if (0 : Int32) = 0 then (.inl (2, (1 : Int32), σ)) else (.inl (1, 0, σ)))
noncomputable def T_JStr_isLatin1_1  (σ : AM) : S_JStr_isLatin1 ⊕ Option (Int32 × AM) :=
  .inl (2, (0 : Int32), σ)
noncomputable def T_JStr_isLatin1_2 (s0I : Int32) (σ : AM) : S_JStr_isLatin1 ⊕ Option (Int32 × AM) :=
  gdT (isB s0I) <| .inr (some (s0I, σ))
noncomputable def F_JStr_isLatin1 : S_JStr_isLatin1 → S_JStr_isLatin1 ⊕ Option (Int32 × AM) := fun s => match s.1 with
  | 0 => T_JStr_isLatin1_0  (s.2.2)
  | 1 => T_JStr_isLatin1_1  (s.2.2)
  | _ => T_JStr_isLatin1_2 (s.2.1) (s.2.2)
noncomputable def L_JStr_isLatin1_0  (σ : AM) : Option (Int32 × AM) := lp F_JStr_isLatin1 (0, 0, σ)
noncomputable def L_JStr_isLatin1_1  (σ : AM) : Option (Int32 × AM) := lp F_JStr_isLatin1 (1, 0, σ)
noncomputable def L_JStr_isLatin1_2 (s0I : Int32) (σ : AM) : Option (Int32 × AM) := lp F_JStr_isLatin1 (2, s0I, σ)
set_option maxRecDepth 20000 in
theorem E_JStr_isLatin1_0  (σ : AM) : L_JStr_isLatin1_0  σ = (if (1 : Int32) = 0 then (L_JStr_isLatin1_1 σ) else (if (0 : Int32) = 0 then (L_JStr_isLatin1_2 ((1 : Int32)) σ) else (L_JStr_isLatin1_1 σ))) := by
  unfold L_JStr_isLatin1_0
  rw [lp_eq]
  show lpK (lp F_JStr_isLatin1) (T_JStr_isLatin1_0  σ) = _
  unfold T_JStr_isLatin1_0
  simp only [lpK_ite, lq_inl, lq_inr, lpK_bnd, lpK_gd, lq_let]
  try rfl
set_option maxRecDepth 20000 in
theorem E_JStr_isLatin1_1  (σ : AM) : L_JStr_isLatin1_1  σ = (L_JStr_isLatin1_2 ((0 : Int32)) σ) := by
  unfold L_JStr_isLatin1_1
  rw [lp_eq]
  show lpK (lp F_JStr_isLatin1) (T_JStr_isLatin1_1  σ) = _
  unfold T_JStr_isLatin1_1
  simp only [lpK_ite, lq_inl, lq_inr, lpK_bnd, lpK_gd, lq_let]
  try rfl
set_option maxRecDepth 20000 in
theorem E_JStr_isLatin1_2 (s0I : Int32) (σ : AM) : L_JStr_isLatin1_2 s0I σ = (gd (isB s0I) <| (some (s0I, σ))) := by
  unfold L_JStr_isLatin1_2
  rw [lp_eq]
  show lpK (lp F_JStr_isLatin1) (T_JStr_isLatin1_2 s0I σ) = _
  unfold T_JStr_isLatin1_2
  simp only [lpK_ite, lq_inl, lq_inr, lpK_bnd, lpK_gd, lq_let]
  try rfl
noncomputable def M_JStr_isLatin1  (σ : AM) : Option (Int32 × AM) := mw σ (L_JStr_isLatin1_0  σ)
def I_JStr_isLatin1 (G : GX) (p : Program) (l : Launch) (e : Env) (s : State) (m : MethodId) (args : Array Value) (below : List Frame) (meth : Method) (c : Code) (z0 u0 n : Nat) : Prop :=
  (∀ (σ : AM), VX (QM eI G args s below z0 u0) G p l e s m args below meth c 0 z0 u0 1 (lpn F_JStr_isLatin1 n (0, 0, σ)) 0 [(0, .ref (G.2.2.2 4))] [] σ) ∧
  (∀ (σ : AM), VX (QM eI G args s below z0 u0) G p l e s m args below meth c 0 z0 u0 1 (lpn F_JStr_isLatin1 n (1, 0, σ)) 17 [] [] σ) ∧
  (∀ (s0I : Int32) (σ : AM), VX (QM eI G args s below z0 u0) G p l e s m args below meth c 0 z0 u0 1 (lpn F_JStr_isLatin1 n (2, s0I, σ)) 18 [] [.int s0I] σ)
set_option maxRecDepth 20000 in
theorem s_JStr_isLatin1_0 {G : GX} {p : Program} {l : Launch} {e : Env} {s : State} {m : MethodId} {args : Array Value} {below : List Frame} {meth : Method} {c : Code} {z0 u0 n : Nat} (C : Cx G p s m args meth c prog_24_method_154_code 1 "java/lang/String" ((some FieldType.boolean))) (IH : I_JStr_isLatin1 G p l e s m args below meth c z0 u0 n)  (σ : AM) : VX (QM eI G args s below z0 u0) G p l e s m args below meth c 0 z0 u0 1 (lpK (lpn F_JStr_isLatin1 n) (T_JStr_isLatin1_0  σ)) 0 [(0, .ref (G.2.2.2 4))] [] σ := by
  unfold T_JStr_isLatin1_0
  refine x_gsC C w788 d_JStr_isLatin1_0 ?_
  refine x_if_eq (tgt := 17) C d_JStr_isLatin1_3 (by decide) (fun _ => ?_) (fun _ => ?_)
  · refine x_lv [] rfl ?_
    exact IH.2.1  (σ)
  · refine x_aload_n C d_JStr_isLatin1_6 0 rfl ?_
    refine x_sgC C w2525 d_JStr_isLatin1_7 ?_
    refine x_if_ne (tgt := 17) C d_JStr_isLatin1_10 (by decide) (fun _ => ?_) (fun _ => ?_)
    · refine x_iconst (v := (1 : Int32)) C d_JStr_isLatin1_13 (by decide) ?_
      refine x_goto (tgt := 18) C d_JStr_isLatin1_14 (by decide) ?_
      refine x_lv [] rfl ?_
      exact IH.2.2 ((1 : Int32)) (σ)
    · refine x_lv [] rfl ?_
      exact IH.2.1  (σ)
set_option maxRecDepth 20000 in
theorem s_JStr_isLatin1_1 {G : GX} {p : Program} {l : Launch} {e : Env} {s : State} {m : MethodId} {args : Array Value} {below : List Frame} {meth : Method} {c : Code} {z0 u0 n : Nat} (C : Cx G p s m args meth c prog_24_method_154_code 1 "java/lang/String" ((some FieldType.boolean))) (IH : I_JStr_isLatin1 G p l e s m args below meth c z0 u0 n)  (σ : AM) : VX (QM eI G args s below z0 u0) G p l e s m args below meth c 0 z0 u0 1 (lpK (lpn F_JStr_isLatin1 n) (T_JStr_isLatin1_1  σ)) 17 [] [] σ := by
  unfold T_JStr_isLatin1_1
  refine x_iconst (v := (0 : Int32)) C d_JStr_isLatin1_17 (by decide) ?_
  exact IH.2.2 ((0 : Int32)) (σ)
set_option maxRecDepth 20000 in
theorem s_JStr_isLatin1_2 {G : GX} {p : Program} {l : Launch} {e : Env} {s : State} {m : MethodId} {args : Array Value} {below : List Frame} {meth : Method} {c : Code} {z0 u0 n : Nat} (C : Cx G p s m args meth c prog_24_method_154_code 1 "java/lang/String" ((some FieldType.boolean))) (IH : I_JStr_isLatin1 G p l e s m args below meth c z0 u0 n) (s0I : Int32) (σ : AM) : VX (QM eI G args s below z0 u0) G p l e s m args below meth c 0 z0 u0 1 (lpK (lpn F_JStr_isLatin1 n) (T_JStr_isLatin1_2 s0I σ)) 18 [] [.int s0I] σ := by
  unfold T_JStr_isLatin1_2
  refine x_gd (fun h1 => ?_)
  exact x_zret C (isB_narrow h1) d_JStr_isLatin1_18
theorem i_JStr_isLatin1 {G : GX} {p : Program} {l : Launch} {e : Env} {s : State} {m : MethodId} {args : Array Value} {below : List Frame} {meth : Method} {c : Code} {z0 u0 : Nat} (C : Cx G p s m args meth c prog_24_method_154_code 1 "java/lang/String" ((some FieldType.boolean))) (n : Nat) : I_JStr_isLatin1 G p l e s m args below meth c z0 u0 n := by
  induction n with
  | zero => exact ⟨fun _ => x_none, fun _ => x_none, fun _ _ => x_none⟩
  | succ n IH => exact ⟨fun σ => s_JStr_isLatin1_0 C IH σ, fun σ => s_JStr_isLatin1_1 C IH σ, fun s0I σ => s_JStr_isLatin1_2 C IH s0I σ⟩
theorem c_JStr_isLatin1 (G : GX) (l : Launch)  (σ : AM) : CT eI G l 0 y_JStr_isLatin1 prog_24_method_154_code 1 ((some FieldType.boolean)) [.ref (G.2.2.2 4)] σ (M_JStr_isLatin1  σ) := by
  refine ct_of (by decide +kernel) (Nat.le_of_ble_eq_true rfl) (fun p e s m args below meth c C hin => ?_)
  refine x_lve (lv' := [(0, .ref (G.2.2.2 4))]) rfl ?_
  intro r σ' h
  obtain ⟨n, hn⟩ := (lp_iff _ _ _).mp h
  exact (i_JStr_isLatin1 C n).1  σ r σ' hn
/-! java/lang/String.coder()B -/
abbrev y_JStr_coder : MethodName := ⟨"java/lang/String", "coder", "()B"⟩
theorem k_JStr_coder : y_JStr_coder.cls ≠ "java/lang/invoke/MethodHandle" ∧ y_JStr_coder.cls ≠ "java/lang/invoke/VarHandle" ∧ (parseMethodDescriptor y_JStr_coder.desc).map (fun d => d.parameters.length) = some 0 := by decide +kernel
theorem d_JStr_coder_0 : decode prog_24_method_152_code 0 = .ok (.getstatic 38, 3) := by decide +kernel
theorem d_JStr_coder_3 : decode prog_24_method_152_code 3 = .ok (.ifCond .eq 10, 3) := by decide +kernel
theorem d_JStr_coder_6 : decode prog_24_method_152_code 6 = .ok (.aload_n 0, 1) := by decide +kernel
theorem d_JStr_coder_7 : decode prog_24_method_152_code 7 = .ok (.getfield 15, 3) := by decide +kernel
theorem d_JStr_coder_10 : decode prog_24_method_152_code 10 = .ok (.goto 4, 3) := by decide +kernel
theorem d_JStr_coder_13 : decode prog_24_method_152_code 13 = .ok (.iconst 1, 1) := by decide +kernel
theorem d_JStr_coder_14 : decode prog_24_method_152_code 14 = .ok (.ireturn, 1) := by decide +kernel
abbrev S_JStr_coder : Type := Nat × Int32 × AM
noncomputable def T_JStr_coder_0  (σ : AM) : S_JStr_coder ⊕ Option (Int32 × AM) :=
  if (1 : Int32) = 0 then (.inl (1, (1 : Int32), σ)) else (.inl (1, (0 : Int32), σ))
noncomputable def T_JStr_coder_1 (s0I : Int32) (σ : AM) : S_JStr_coder ⊕ Option (Int32 × AM) :=
  gdT (isB s0I) <| .inr (some (s0I, σ))
noncomputable def F_JStr_coder : S_JStr_coder → S_JStr_coder ⊕ Option (Int32 × AM) := fun s => match s.1 with
  | 0 => T_JStr_coder_0  (s.2.2)
  | _ => T_JStr_coder_1 (s.2.1) (s.2.2)
noncomputable def L_JStr_coder_0  (σ : AM) : Option (Int32 × AM) := lp F_JStr_coder (0, 0, σ)
noncomputable def L_JStr_coder_1 (s0I : Int32) (σ : AM) : Option (Int32 × AM) := lp F_JStr_coder (1, s0I, σ)
set_option maxRecDepth 20000 in
theorem E_JStr_coder_0  (σ : AM) : L_JStr_coder_0  σ = (if (1 : Int32) = 0 then (L_JStr_coder_1 ((1 : Int32)) σ) else (L_JStr_coder_1 ((0 : Int32)) σ)) := by
  unfold L_JStr_coder_0
  rw [lp_eq]
  show lpK (lp F_JStr_coder) (T_JStr_coder_0  σ) = _
  unfold T_JStr_coder_0
  simp only [lpK_ite, lq_inl, lq_inr, lpK_bnd, lpK_gd, lq_let]
  try rfl
set_option maxRecDepth 20000 in
theorem E_JStr_coder_1 (s0I : Int32) (σ : AM) : L_JStr_coder_1 s0I σ = (gd (isB s0I) <| (some (s0I, σ))) := by
  unfold L_JStr_coder_1
  rw [lp_eq]
  show lpK (lp F_JStr_coder) (T_JStr_coder_1 s0I σ) = _
  unfold T_JStr_coder_1
  simp only [lpK_ite, lq_inl, lq_inr, lpK_bnd, lpK_gd, lq_let]
  try rfl
noncomputable def M_JStr_coder  (σ : AM) : Option (Int32 × AM) := mw σ (L_JStr_coder_0  σ)
def I_JStr_coder (G : GX) (p : Program) (l : Launch) (e : Env) (s : State) (m : MethodId) (args : Array Value) (below : List Frame) (meth : Method) (c : Code) (z0 u0 n : Nat) : Prop :=
  (∀ (σ : AM), VX (QM eI G args s below z0 u0) G p l e s m args below meth c 0 z0 u0 1 (lpn F_JStr_coder n (0, 0, σ)) 0 [(0, .ref (G.2.2.2 4))] [] σ) ∧
  (∀ (s0I : Int32) (σ : AM), VX (QM eI G args s below z0 u0) G p l e s m args below meth c 0 z0 u0 1 (lpn F_JStr_coder n (1, s0I, σ)) 14 [] [.int s0I] σ)
set_option maxRecDepth 20000 in
theorem s_JStr_coder_0 {G : GX} {p : Program} {l : Launch} {e : Env} {s : State} {m : MethodId} {args : Array Value} {below : List Frame} {meth : Method} {c : Code} {z0 u0 n : Nat} (C : Cx G p s m args meth c prog_24_method_152_code 1 "java/lang/String" ((some FieldType.byte))) (IH : I_JStr_coder G p l e s m args below meth c z0 u0 n)  (σ : AM) : VX (QM eI G args s below z0 u0) G p l e s m args below meth c 0 z0 u0 1 (lpK (lpn F_JStr_coder n) (T_JStr_coder_0  σ)) 0 [(0, .ref (G.2.2.2 4))] [] σ := by
  unfold T_JStr_coder_0
  refine x_gsC C w788 d_JStr_coder_0 ?_
  refine x_if_eq (tgt := 13) C d_JStr_coder_3 (by decide) (fun _ => ?_) (fun _ => ?_)
  · refine x_iconst (v := (1 : Int32)) C d_JStr_coder_13 (by decide) ?_
    refine x_lv [] rfl ?_
    exact IH.2 ((1 : Int32)) (σ)
  · refine x_aload_n C d_JStr_coder_6 0 rfl ?_
    refine x_sgC C w2525 d_JStr_coder_7 ?_
    refine x_goto (tgt := 14) C d_JStr_coder_10 (by decide) ?_
    refine x_lv [] rfl ?_
    exact IH.2 ((0 : Int32)) (σ)
set_option maxRecDepth 20000 in
theorem s_JStr_coder_1 {G : GX} {p : Program} {l : Launch} {e : Env} {s : State} {m : MethodId} {args : Array Value} {below : List Frame} {meth : Method} {c : Code} {z0 u0 n : Nat} (C : Cx G p s m args meth c prog_24_method_152_code 1 "java/lang/String" ((some FieldType.byte))) (IH : I_JStr_coder G p l e s m args below meth c z0 u0 n) (s0I : Int32) (σ : AM) : VX (QM eI G args s below z0 u0) G p l e s m args below meth c 0 z0 u0 1 (lpK (lpn F_JStr_coder n) (T_JStr_coder_1 s0I σ)) 14 [] [.int s0I] σ := by
  unfold T_JStr_coder_1
  refine x_gd (fun h1 => ?_)
  exact x_zret C (isB_narrowB h1) d_JStr_coder_14
theorem i_JStr_coder {G : GX} {p : Program} {l : Launch} {e : Env} {s : State} {m : MethodId} {args : Array Value} {below : List Frame} {meth : Method} {c : Code} {z0 u0 : Nat} (C : Cx G p s m args meth c prog_24_method_152_code 1 "java/lang/String" ((some FieldType.byte))) (n : Nat) : I_JStr_coder G p l e s m args below meth c z0 u0 n := by
  induction n with
  | zero => exact ⟨fun _ => x_none, fun _ _ => x_none⟩
  | succ n IH => exact ⟨fun σ => s_JStr_coder_0 C IH σ, fun s0I σ => s_JStr_coder_1 C IH s0I σ⟩
theorem c_JStr_coder (G : GX) (l : Launch)  (σ : AM) : CT eI G l 0 y_JStr_coder prog_24_method_152_code 1 ((some FieldType.byte)) [.ref (G.2.2.2 4)] σ (M_JStr_coder  σ) := by
  refine ct_of (by decide +kernel) (Nat.le_of_ble_eq_true rfl) (fun p e s m args below meth c C hin => ?_)
  refine x_lve (lv' := [(0, .ref (G.2.2.2 4))]) rfl ?_
  intro r σ' h
  obtain ⟨n, hn⟩ := (lp_iff _ _ _).mp h
  exact (i_JStr_coder C n).1  σ r σ' hn
/-! java/lang/String.length()I -/
abbrev y_JStr_length : MethodName := ⟨"java/lang/String", "length", "()I"⟩
theorem k_JStr_length : y_JStr_length.cls ≠ "java/lang/invoke/MethodHandle" ∧ y_JStr_length.cls ≠ "java/lang/invoke/VarHandle" ∧ (parseMethodDescriptor y_JStr_length.desc).map (fun d => d.parameters.length) = some 0 := by decide +kernel
theorem d_JStr_length_0 : decode prog_24_method_54_code 0 = .ok (.aload_n 0, 1) := by decide +kernel
theorem d_JStr_length_1 : decode prog_24_method_54_code 1 = .ok (.getfield 9, 3) := by decide +kernel
theorem d_JStr_length_4 : decode prog_24_method_54_code 4 = .ok (.arraylength, 1) := by decide +kernel
theorem d_JStr_length_5 : decode prog_24_method_54_code 5 = .ok (.aload_n 0, 1) := by decide +kernel
theorem d_JStr_length_6 : decode prog_24_method_54_code 6 = .ok (.invokevirtual 335, 3) := by decide +kernel
theorem d_JStr_length_9 : decode prog_24_method_54_code 9 = .ok (.ishr, 1) := by decide +kernel
theorem d_JStr_length_10 : decode prog_24_method_54_code 10 = .ok (.ireturn, 1) := by decide +kernel
abbrev S_JStr_length : Type := Nat × AM
noncomputable def T_JStr_length_0  (σ : AM) : S_JStr_length ⊕ Option (Int32 × AM) :=
  bndT (M_JStr_coder  σ) fun r1 σ2 => .inr (some (((8 : Int32) >>> (r1 &&& 31)), σ2))
noncomputable def F_JStr_length : S_JStr_length → S_JStr_length ⊕ Option (Int32 × AM) := fun s => match s.1 with
  | _ => T_JStr_length_0  (s.2)
noncomputable def L_JStr_length_0  (σ : AM) : Option (Int32 × AM) := lp F_JStr_length (0, σ)
set_option maxRecDepth 20000 in
theorem E_JStr_length_0  (σ : AM) : L_JStr_length_0  σ = (bnd (M_JStr_coder  σ) fun r1 σ2 => (some (((8 : Int32) >>> (r1 &&& 31)), σ2))) := by
  unfold L_JStr_length_0
  rw [lp_eq]
  show lpK (lp F_JStr_length) (T_JStr_length_0  σ) = _
  unfold T_JStr_length_0
  simp only [lpK_ite, lq_inl, lq_inr, lpK_bnd, lpK_gd, lq_let]
  try rfl
noncomputable def M_JStr_length  (σ : AM) : Option (Int32 × AM) := mw σ (L_JStr_length_0  σ)
def I_JStr_length (G : GX) (p : Program) (l : Launch) (e : Env) (s : State) (m : MethodId) (args : Array Value) (below : List Frame) (meth : Method) (c : Code) (z0 u0 n : Nat) : Prop :=
  (∀ (σ : AM), VX (QM eI G args s below z0 u0) G p l e s m args below meth c 1 z0 u0 1 (lpn F_JStr_length n (0, σ)) 0 [(0, .ref (G.2.2.2 4))] [] σ)
set_option maxRecDepth 20000 in
theorem s_JStr_length_0 {G : GX} {p : Program} {l : Launch} {e : Env} {s : State} {m : MethodId} {args : Array Value} {below : List Frame} {meth : Method} {c : Code} {z0 u0 n : Nat} (C : Cx G p s m args meth c prog_24_method_54_code 1 "java/lang/String" ((some FieldType.int))) (IH : I_JStr_length G p l e s m args below meth c z0 u0 n)  (σ : AM) : VX (QM eI G args s below z0 u0) G p l e s m args below meth c 1 z0 u0 1 (lpK (lpn F_JStr_length n) (T_JStr_length_0  σ)) 0 [(0, .ref (G.2.2.2 4))] [] σ := by
  unfold T_JStr_length_0
  refine x_aload_n C d_JStr_length_0 0 rfl ?_
  refine x_sgV C w2526 d_JStr_length_1 ?_
  refine x_sn5 C d_JStr_length_4 ?_
  refine x_aload_n C d_JStr_length_5 0 rfl ?_
  refine x_callT (As := []) C (c_JStr_coder G l  σ) w795 w796 w794 w797 w135 k_JStr_coder rfl (by decide) (by decide) rfl (Nat.le_of_ble_eq_true rfl) d_JStr_length_6 (fun r1 σ2 => ?_)
  refine x_ishr C d_JStr_length_9 ?_
  exact x_iret C d_JStr_length_10
theorem i_JStr_length {G : GX} {p : Program} {l : Launch} {e : Env} {s : State} {m : MethodId} {args : Array Value} {below : List Frame} {meth : Method} {c : Code} {z0 u0 : Nat} (C : Cx G p s m args meth c prog_24_method_54_code 1 "java/lang/String" ((some FieldType.int))) (n : Nat) : I_JStr_length G p l e s m args below meth c z0 u0 n := by
  induction n with
  | zero => exact fun _ => x_none
  | succ n IH => exact fun σ => s_JStr_length_0 C IH σ
theorem c_JStr_length (G : GX) (l : Launch)  (σ : AM) : CT eI G l 1 y_JStr_length prog_24_method_54_code 1 ((some FieldType.int)) [.ref (G.2.2.2 4)] σ (M_JStr_length  σ) := by
  refine ct_of (by decide +kernel) (Nat.le_of_ble_eq_true rfl) (fun p e s m args below meth c C hin => ?_)
  refine x_lve (lv' := [(0, .ref (G.2.2.2 4))]) rfl ?_
  intro r σ' h
  obtain ⟨n, hn⟩ := (lp_iff _ _ _).mp h
  exact (i_JStr_length C n)  σ r σ' hn
/-! java/lang/StringLatin1.canEncode(I)Z -/
abbrev y_JLat_canEncode : MethodName := ⟨"java/lang/StringLatin1", "canEncode", "(I)Z"⟩
theorem k_JLat_canEncode : y_JLat_canEncode.cls ≠ "java/lang/invoke/MethodHandle" ∧ y_JLat_canEncode.cls ≠ "java/lang/invoke/VarHandle" ∧ (parseMethodDescriptor y_JLat_canEncode.desc).map (fun d => d.parameters.length) = some 1 := by decide +kernel
theorem d_JLat_canEncode_0 : decode prog_25_method_4_code 0 = .ok (.iload_n 0, 1) := by decide +kernel
theorem d_JLat_canEncode_1 : decode prog_25_method_4_code 1 = .ok (.ifCond .lt 14, 3) := by decide +kernel
theorem d_JLat_canEncode_4 : decode prog_25_method_4_code 4 = .ok (.iload_n 0, 1) := by decide +kernel
theorem d_JLat_canEncode_5 : decode prog_25_method_4_code 5 = .ok (.sipush 255, 3) := by decide +kernel
theorem d_JLat_canEncode_8 : decode prog_25_method_4_code 8 = .ok (.if_icmp .gt 7, 3) := by decide +kernel
theorem d_JLat_canEncode_11 : decode prog_25_method_4_code 11 = .ok (.iconst 1, 1) := by decide +kernel
theorem d_JLat_canEncode_12 : decode prog_25_method_4_code 12 = .ok (.goto 4, 3) := by decide +kernel
theorem d_JLat_canEncode_15 : decode prog_25_method_4_code 15 = .ok (.iconst 0, 1) := by decide +kernel
theorem d_JLat_canEncode_16 : decode prog_25_method_4_code 16 = .ok (.ireturn, 1) := by decide +kernel
abbrev S_JLat_canEncode : Type := Nat × Int32 × Int32 × AM
noncomputable def T_JLat_canEncode_0 (v0I : Int32) (σ : AM) : S_JLat_canEncode ⊕ Option (Int32 × AM) :=
  if v0I < 0 then (.inl (1, 0, 0, σ)) else (if (255 : Int32) < v0I then (.inl (1, 0, 0, σ)) else (.inl (2, 0, (1 : Int32), σ)))
noncomputable def T_JLat_canEncode_1  (σ : AM) : S_JLat_canEncode ⊕ Option (Int32 × AM) :=
  .inl (2, 0, (0 : Int32), σ)
noncomputable def T_JLat_canEncode_2 (s0I : Int32) (σ : AM) : S_JLat_canEncode ⊕ Option (Int32 × AM) :=
  gdT (isB s0I) <| .inr (some (s0I, σ))
noncomputable def F_JLat_canEncode : S_JLat_canEncode → S_JLat_canEncode ⊕ Option (Int32 × AM) := fun s => match s.1 with
  | 0 => T_JLat_canEncode_0 (s.2.1) (s.2.2.2)
  | 1 => T_JLat_canEncode_1  (s.2.2.2)
  | _ => T_JLat_canEncode_2 (s.2.2.1) (s.2.2.2)
noncomputable def L_JLat_canEncode_0 (v0I : Int32) (σ : AM) : Option (Int32 × AM) := lp F_JLat_canEncode (0, v0I, 0, σ)
noncomputable def L_JLat_canEncode_1  (σ : AM) : Option (Int32 × AM) := lp F_JLat_canEncode (1, 0, 0, σ)
noncomputable def L_JLat_canEncode_2 (s0I : Int32) (σ : AM) : Option (Int32 × AM) := lp F_JLat_canEncode (2, 0, s0I, σ)
set_option maxRecDepth 20000 in
theorem E_JLat_canEncode_0 (v0I : Int32) (σ : AM) : L_JLat_canEncode_0 v0I σ = (if v0I < 0 then (L_JLat_canEncode_1 σ) else (if (255 : Int32) < v0I then (L_JLat_canEncode_1 σ) else (L_JLat_canEncode_2 ((1 : Int32)) σ))) := by
  unfold L_JLat_canEncode_0
  rw [lp_eq]
  show lpK (lp F_JLat_canEncode) (T_JLat_canEncode_0 v0I σ) = _
  unfold T_JLat_canEncode_0
  simp only [lpK_ite, lq_inl, lq_inr, lpK_bnd, lpK_gd, lq_let]
  try rfl
set_option maxRecDepth 20000 in
theorem E_JLat_canEncode_1  (σ : AM) : L_JLat_canEncode_1  σ = (L_JLat_canEncode_2 ((0 : Int32)) σ) := by
  unfold L_JLat_canEncode_1
  rw [lp_eq]
  show lpK (lp F_JLat_canEncode) (T_JLat_canEncode_1  σ) = _
  unfold T_JLat_canEncode_1
  simp only [lpK_ite, lq_inl, lq_inr, lpK_bnd, lpK_gd, lq_let]
  try rfl
set_option maxRecDepth 20000 in
theorem E_JLat_canEncode_2 (s0I : Int32) (σ : AM) : L_JLat_canEncode_2 s0I σ = (gd (isB s0I) <| (some (s0I, σ))) := by
  unfold L_JLat_canEncode_2
  rw [lp_eq]
  show lpK (lp F_JLat_canEncode) (T_JLat_canEncode_2 s0I σ) = _
  unfold T_JLat_canEncode_2
  simp only [lpK_ite, lq_inl, lq_inr, lpK_bnd, lpK_gd, lq_let]
  try rfl
noncomputable def M_JLat_canEncode (v0I : Int32) (σ : AM) : Option (Int32 × AM) := mw σ (L_JLat_canEncode_0 v0I σ)
def I_JLat_canEncode (G : GX) (p : Program) (l : Launch) (e : Env) (s : State) (m : MethodId) (args : Array Value) (below : List Frame) (meth : Method) (c : Code) (z0 u0 n : Nat) : Prop :=
  (∀ (v0I : Int32) (σ : AM), VX (QM eI G args s below z0 u0) G p l e s m args below meth c 0 z0 u0 1 (lpn F_JLat_canEncode n (0, v0I, 0, σ)) 0 [(0, .int v0I)] [] σ) ∧
  (∀ (σ : AM), VX (QM eI G args s below z0 u0) G p l e s m args below meth c 0 z0 u0 1 (lpn F_JLat_canEncode n (1, 0, 0, σ)) 15 [] [] σ) ∧
  (∀ (s0I : Int32) (σ : AM), VX (QM eI G args s below z0 u0) G p l e s m args below meth c 0 z0 u0 1 (lpn F_JLat_canEncode n (2, 0, s0I, σ)) 16 [] [.int s0I] σ)
set_option maxRecDepth 20000 in
theorem s_JLat_canEncode_0 {G : GX} {p : Program} {l : Launch} {e : Env} {s : State} {m : MethodId} {args : Array Value} {below : List Frame} {meth : Method} {c : Code} {z0 u0 n : Nat} (C : Cx G p s m args meth c prog_25_method_4_code 1 "java/lang/StringLatin1" ((some FieldType.boolean))) (IH : I_JLat_canEncode G p l e s m args below meth c z0 u0 n) (v0I : Int32) (σ : AM) : VX (QM eI G args s below z0 u0) G p l e s m args below meth c 0 z0 u0 1 (lpK (lpn F_JLat_canEncode n) (T_JLat_canEncode_0 v0I σ)) 0 [(0, .int v0I)] [] σ := by
  unfold T_JLat_canEncode_0
  refine x_iload_n C d_JLat_canEncode_0 0 rfl ?_
  refine x_if_lt (tgt := 15) C d_JLat_canEncode_1 (by decide) (fun _ => ?_) (fun _ => ?_)
  · refine x_lv [] rfl ?_
    exact IH.2.1  (σ)
  · refine x_iload_n C d_JLat_canEncode_4 0 rfl ?_
    refine x_sipush (v := (255 : Int32)) C d_JLat_canEncode_5 (by decide) ?_
    refine x_icmp_gt (tgt := 15) C d_JLat_canEncode_8 (by decide) (fun _ => ?_) (fun _ => ?_)
    · refine x_lv [] rfl ?_
      exact IH.2.1  (σ)
    · refine x_iconst (v := (1 : Int32)) C d_JLat_canEncode_11 (by decide) ?_
      refine x_goto (tgt := 16) C d_JLat_canEncode_12 (by decide) ?_
      refine x_lv [] rfl ?_
      exact IH.2.2 ((1 : Int32)) (σ)
set_option maxRecDepth 20000 in
theorem s_JLat_canEncode_1 {G : GX} {p : Program} {l : Launch} {e : Env} {s : State} {m : MethodId} {args : Array Value} {below : List Frame} {meth : Method} {c : Code} {z0 u0 n : Nat} (C : Cx G p s m args meth c prog_25_method_4_code 1 "java/lang/StringLatin1" ((some FieldType.boolean))) (IH : I_JLat_canEncode G p l e s m args below meth c z0 u0 n)  (σ : AM) : VX (QM eI G args s below z0 u0) G p l e s m args below meth c 0 z0 u0 1 (lpK (lpn F_JLat_canEncode n) (T_JLat_canEncode_1  σ)) 15 [] [] σ := by
  unfold T_JLat_canEncode_1
  refine x_iconst (v := (0 : Int32)) C d_JLat_canEncode_15 (by decide) ?_
  exact IH.2.2 ((0 : Int32)) (σ)
set_option maxRecDepth 20000 in
theorem s_JLat_canEncode_2 {G : GX} {p : Program} {l : Launch} {e : Env} {s : State} {m : MethodId} {args : Array Value} {below : List Frame} {meth : Method} {c : Code} {z0 u0 n : Nat} (C : Cx G p s m args meth c prog_25_method_4_code 1 "java/lang/StringLatin1" ((some FieldType.boolean))) (IH : I_JLat_canEncode G p l e s m args below meth c z0 u0 n) (s0I : Int32) (σ : AM) : VX (QM eI G args s below z0 u0) G p l e s m args below meth c 0 z0 u0 1 (lpK (lpn F_JLat_canEncode n) (T_JLat_canEncode_2 s0I σ)) 16 [] [.int s0I] σ := by
  unfold T_JLat_canEncode_2
  refine x_gd (fun h1 => ?_)
  exact x_zret C (isB_narrow h1) d_JLat_canEncode_16
theorem i_JLat_canEncode {G : GX} {p : Program} {l : Launch} {e : Env} {s : State} {m : MethodId} {args : Array Value} {below : List Frame} {meth : Method} {c : Code} {z0 u0 : Nat} (C : Cx G p s m args meth c prog_25_method_4_code 1 "java/lang/StringLatin1" ((some FieldType.boolean))) (n : Nat) : I_JLat_canEncode G p l e s m args below meth c z0 u0 n := by
  induction n with
  | zero => exact ⟨fun _ _ => x_none, fun _ => x_none, fun _ _ => x_none⟩
  | succ n IH => exact ⟨fun v0I σ => s_JLat_canEncode_0 C IH v0I σ, fun σ => s_JLat_canEncode_1 C IH σ, fun s0I σ => s_JLat_canEncode_2 C IH s0I σ⟩
theorem c_JLat_canEncode (G : GX) (l : Launch) (v0I : Int32) (σ : AM) : CT eI G l 0 y_JLat_canEncode prog_25_method_4_code 1 ((some FieldType.boolean)) [.int v0I] σ (M_JLat_canEncode v0I σ) := by
  refine ct_of (by decide +kernel) (Nat.le_of_ble_eq_true rfl) (fun p e s m args below meth c C hin => ?_)
  refine x_lve (lv' := [(0, .int v0I)]) rfl ?_
  intro r σ' h
  obtain ⟨n, hn⟩ := (lp_iff _ _ _).mp h
  exact (i_JLat_canEncode C n).1 v0I σ r σ' hn
/-! java/lang/StringLatin1.indexOfChar([BIII)I -/
abbrev y_JLat_indexOfChar : MethodName := ⟨"java/lang/StringLatin1", "indexOfChar", "([BIII)I"⟩
theorem k_JLat_indexOfChar : y_JLat_indexOfChar.cls ≠ "java/lang/invoke/MethodHandle" ∧ y_JLat_indexOfChar.cls ≠ "java/lang/invoke/VarHandle" ∧ (parseMethodDescriptor y_JLat_indexOfChar.desc).map (fun d => d.parameters.length) = some 4 := by decide +kernel
theorem d_JLat_indexOfChar_0 : decode prog_25_method_23_code 0 = .ok (.iload_n 1, 1) := by decide +kernel
theorem d_JLat_indexOfChar_1 : decode prog_25_method_23_code 1 = .ok (.i2b, 1) := by decide +kernel
theorem d_JLat_indexOfChar_2 : decode prog_25_method_23_code 2 = .ok (.istore 4, 2) := by decide +kernel
theorem d_JLat_indexOfChar_4 : decode prog_25_method_23_code 4 = .ok (.iload_n 2, 1) := by decide +kernel
theorem d_JLat_indexOfChar_5 : decode prog_25_method_23_code 5 = .ok (.istore 5, 2) := by decide +kernel
theorem d_JLat_indexOfChar_7 : decode prog_25_method_23_code 7 = .ok (.iload 5, 2) := by decide +kernel
theorem d_JLat_indexOfChar_9 : decode prog_25_method_23_code 9 = .ok (.iload_n 3, 1) := by decide +kernel
theorem d_JLat_indexOfChar_10 : decode prog_25_method_23_code 10 = .ok (.if_icmp .ge 21, 3) := by decide +kernel
theorem d_JLat_indexOfChar_13 : decode prog_25_method_23_code 13 = .ok (.aload_n 0, 1) := by decide +kernel
theorem d_JLat_indexOfChar_14 : decode prog_25_method_23_code 14 = .ok (.iload 5, 2) := by decide +kernel
theorem d_JLat_indexOfChar_16 : decode prog_25_method_23_code 16 = .ok (.baload, 1) := by decide +kernel
theorem d_JLat_indexOfChar_17 : decode prog_25_method_23_code 17 = .ok (.iload 4, 2) := by decide +kernel
theorem d_JLat_indexOfChar_19 : decode prog_25_method_23_code 19 = .ok (.if_icmp .ne 6, 3) := by decide +kernel
theorem d_JLat_indexOfChar_22 : decode prog_25_method_23_code 22 = .ok (.iload 5, 2) := by decide +kernel
theorem d_JLat_indexOfChar_24 : decode prog_25_method_23_code 24 = .ok (.ireturn, 1) := by decide +kernel
theorem d_JLat_indexOfChar_25 : decode prog_25_method_23_code 25 = .ok (.iinc 5 1, 3) := by decide +kernel
theorem d_JLat_indexOfChar_28 : decode prog_25_method_23_code 28 = .ok (.goto (-21), 3) := by decide +kernel
theorem d_JLat_indexOfChar_31 : decode prog_25_method_23_code 31 = .ok (.iconst (-1), 1) := by decide +kernel
theorem d_JLat_indexOfChar_32 : decode prog_25_method_23_code 32 = .ok (.ireturn, 1) := by decide +kernel
abbrev S_JLat_indexOfChar : Type := Nat × Int32 × Int32 × Int32 × Int32 × Int32 × AM
noncomputable def T_JLat_indexOfChar_0 (v1I : Int32) (v2I : Int32) (v3I : Int32) (σ : AM) : S_JLat_indexOfChar ⊕ Option (Int32 × AM) :=
  letT (v1I.toInt8.toInt32) fun x1 => .inl (1, 0, 0, v3I, x1, v2I, σ)
noncomputable def T_JLat_indexOfChar_1 (v3I : Int32) (v4I : Int32) (v5I : Int32) (σ : AM) : S_JLat_indexOfChar ⊕ Option (Int32 × AM) :=
  if v5I < v3I then (gdT (inB v5I 8) <| if (tbSIGNS v5I.toNatClampNeg) = v4I then (.inr (some (v5I, σ))) else (.inl (1, 0, 0, v3I, v4I, v5I + (1 : Int32), σ))) else (.inr (some (((-1) : Int32), σ)))
noncomputable def F_JLat_indexOfChar : S_JLat_indexOfChar → S_JLat_indexOfChar ⊕ Option (Int32 × AM) := fun s => match s.1 with
  | 0 => T_JLat_indexOfChar_0 (s.2.1) (s.2.2.1) (s.2.2.2.1) (s.2.2.2.2.2.2)
  | _ => T_JLat_indexOfChar_1 (s.2.2.2.1) (s.2.2.2.2.1) (s.2.2.2.2.2.1) (s.2.2.2.2.2.2)
noncomputable def L_JLat_indexOfChar_0 (v1I : Int32) (v2I : Int32) (v3I : Int32) (σ : AM) : Option (Int32 × AM) := lp F_JLat_indexOfChar (0, v1I, v2I, v3I, 0, 0, σ)
noncomputable def L_JLat_indexOfChar_1 (v3I : Int32) (v4I : Int32) (v5I : Int32) (σ : AM) : Option (Int32 × AM) := lp F_JLat_indexOfChar (1, 0, 0, v3I, v4I, v5I, σ)
set_option maxRecDepth 20000 in
theorem E_JLat_indexOfChar_0 (v1I : Int32) (v2I : Int32) (v3I : Int32) (σ : AM) : L_JLat_indexOfChar_0 v1I v2I v3I σ = (letT (v1I.toInt8.toInt32) fun x1 => L_JLat_indexOfChar_1 v3I x1 v2I σ) := by
  unfold L_JLat_indexOfChar_0
  rw [lp_eq]
  show lpK (lp F_JLat_indexOfChar) (T_JLat_indexOfChar_0 v1I v2I v3I σ) = _
  unfold T_JLat_indexOfChar_0
  simp only [lpK_ite, lq_inl, lq_inr, lpK_bnd, lpK_gd, lq_let]
  try rfl
set_option maxRecDepth 20000 in
theorem E_JLat_indexOfChar_1 (v3I : Int32) (v4I : Int32) (v5I : Int32) (σ : AM) : L_JLat_indexOfChar_1 v3I v4I v5I σ = (if v5I < v3I then (gd (inB v5I 8) <| if (tbSIGNS v5I.toNatClampNeg) = v4I then ((some (v5I, σ))) else (L_JLat_indexOfChar_1 v3I v4I (v5I + (1 : Int32)) σ)) else ((some (((-1) : Int32), σ)))) := by
  unfold L_JLat_indexOfChar_1
  rw [lp_eq]
  show lpK (lp F_JLat_indexOfChar) (T_JLat_indexOfChar_1 v3I v4I v5I σ) = _
  unfold T_JLat_indexOfChar_1
  simp only [lpK_ite, lq_inl, lq_inr, lpK_bnd, lpK_gd, lq_let]
  try rfl
noncomputable def M_JLat_indexOfChar (v1I : Int32) (v2I : Int32) (v3I : Int32) (σ : AM) : Option (Int32 × AM) := mw σ (L_JLat_indexOfChar_0 v1I v2I v3I σ)
def I_JLat_indexOfChar (G : GX) (p : Program) (l : Launch) (e : Env) (s : State) (m : MethodId) (args : Array Value) (below : List Frame) (meth : Method) (c : Code) (z0 u0 n : Nat) : Prop :=
  (∀ (v1I : Int32) (v2I : Int32) (v3I : Int32) (σ : AM), VX (QM eI G args s below z0 u0) G p l e s m args below meth c 0 z0 u0 6 (lpn F_JLat_indexOfChar n (0, v1I, v2I, v3I, 0, 0, σ)) 0 [(0, .ref (G.2.2.2 5)), (1, .int v1I), (2, .int v2I), (3, .int v3I)] [] σ) ∧
  (∀ (v3I : Int32) (v4I : Int32) (v5I : Int32) (σ : AM), VX (QM eI G args s below z0 u0) G p l e s m args below meth c 0 z0 u0 6 (lpn F_JLat_indexOfChar n (1, 0, 0, v3I, v4I, v5I, σ)) 7 [(0, .ref (G.2.2.2 5)), (3, .int v3I), (4, .int v4I), (5, .int v5I)] [] σ)
set_option maxRecDepth 20000 in
theorem s_JLat_indexOfChar_0 {G : GX} {p : Program} {l : Launch} {e : Env} {s : State} {m : MethodId} {args : Array Value} {below : List Frame} {meth : Method} {c : Code} {z0 u0 n : Nat} (C : Cx G p s m args meth c prog_25_method_23_code 6 "java/lang/StringLatin1" ((some FieldType.int))) (IH : I_JLat_indexOfChar G p l e s m args below meth c z0 u0 n) (v1I : Int32) (v2I : Int32) (v3I : Int32) (σ : AM) : VX (QM eI G args s below z0 u0) G p l e s m args below meth c 0 z0 u0 6 (lpK (lpn F_JLat_indexOfChar n) (T_JLat_indexOfChar_0 v1I v2I v3I σ)) 0 [(0, .ref (G.2.2.2 5)), (1, .int v1I), (2, .int v2I), (3, .int v3I)] [] σ := by
  unfold T_JLat_indexOfChar_0
  refine x_iload_n C d_JLat_indexOfChar_0 1 rfl ?_
  refine x_i2b C d_JLat_indexOfChar_1 ?_
  refine x_letI (fun x1 _ => ?_)
  refine x_istore (lv' := [(4, .int x1), (0, .ref (G.2.2.2 5)), (1, .int v1I), (2, .int v2I), (3, .int v3I)]) C d_JLat_indexOfChar_2 (by decide) rfl ?_
  refine x_iload_n C d_JLat_indexOfChar_4 3 rfl ?_
  refine x_istore (lv' := [(5, .int v2I), (4, .int x1), (0, .ref (G.2.2.2 5)), (1, .int v1I), (2, .int v2I), (3, .int v3I)]) C d_JLat_indexOfChar_5 (by decide) rfl ?_
  refine x_lv [2, 5, 1, 0] rfl ?_
  exact IH.2 v3I x1 v2I (σ)
set_option maxRecDepth 20000 in
theorem s_JLat_indexOfChar_1 {G : GX} {p : Program} {l : Launch} {e : Env} {s : State} {m : MethodId} {args : Array Value} {below : List Frame} {meth : Method} {c : Code} {z0 u0 n : Nat} (C : Cx G p s m args meth c prog_25_method_23_code 6 "java/lang/StringLatin1" ((some FieldType.int))) (IH : I_JLat_indexOfChar G p l e s m args below meth c z0 u0 n) (v3I : Int32) (v4I : Int32) (v5I : Int32) (σ : AM) : VX (QM eI G args s below z0 u0) G p l e s m args below meth c 0 z0 u0 6 (lpK (lpn F_JLat_indexOfChar n) (T_JLat_indexOfChar_1 v3I v4I v5I σ)) 7 [(0, .ref (G.2.2.2 5)), (3, .int v3I), (4, .int v4I), (5, .int v5I)] [] σ := by
  unfold T_JLat_indexOfChar_1
  refine x_iload C d_JLat_indexOfChar_7 3 rfl ?_
  refine x_iload_n C d_JLat_indexOfChar_9 1 rfl ?_
  refine x_icmp_ge (tgt := 31) C d_JLat_indexOfChar_10 (by decide) (fun _ => ?_) (fun _ => ?_)
  · refine x_aload_n C d_JLat_indexOfChar_13 0 rfl ?_
    refine x_iload C d_JLat_indexOfChar_14 3 rfl ?_
    refine x_gd (fun h1 => ?_)
    refine x_sl5 C (inB_iff.mp h1) d_JLat_indexOfChar_16 ?_
    refine x_iload C d_JLat_indexOfChar_17 2 rfl ?_
    refine x_icmp_ne (tgt := 25) C d_JLat_indexOfChar_19 (by decide) (fun _ => ?_) (fun _ => ?_)
    · refine x_iload C d_JLat_indexOfChar_22 3 rfl ?_
      exact x_iret C d_JLat_indexOfChar_24
    · refine x_iinc (v := v5I + (1 : Int32)) (lv' := [(5, .int (v5I + (1 : Int32))), (0, .ref (G.2.2.2 5)), (3, .int v3I), (4, .int v4I)]) C d_JLat_indexOfChar_25 3 rfl rfl (by decide) rfl ?_
      refine x_goto (tgt := 7) C d_JLat_indexOfChar_28 (by decide) ?_
      refine x_lv [1, 2, 3, 0] rfl ?_
      exact IH.2 v3I v4I (v5I + (1 : Int32)) (σ)
  · refine x_iconst (v := ((-1) : Int32)) C d_JLat_indexOfChar_31 (by decide) ?_
    exact x_iret C d_JLat_indexOfChar_32
theorem i_JLat_indexOfChar {G : GX} {p : Program} {l : Launch} {e : Env} {s : State} {m : MethodId} {args : Array Value} {below : List Frame} {meth : Method} {c : Code} {z0 u0 : Nat} (C : Cx G p s m args meth c prog_25_method_23_code 6 "java/lang/StringLatin1" ((some FieldType.int))) (n : Nat) : I_JLat_indexOfChar G p l e s m args below meth c z0 u0 n := by
  induction n with
  | zero => exact ⟨fun _ _ _ _ => x_none, fun _ _ _ _ => x_none⟩
  | succ n IH => exact ⟨fun v1I v2I v3I σ => s_JLat_indexOfChar_0 C IH v1I v2I v3I σ, fun v3I v4I v5I σ => s_JLat_indexOfChar_1 C IH v3I v4I v5I σ⟩
theorem c_JLat_indexOfChar (G : GX) (l : Launch) (v1I : Int32) (v2I : Int32) (v3I : Int32) (σ : AM) : CT eI G l 0 y_JLat_indexOfChar prog_25_method_23_code 6 ((some FieldType.int)) [.ref (G.2.2.2 5), .int v1I, .int v2I, .int v3I] σ (M_JLat_indexOfChar v1I v2I v3I σ) := by
  refine ct_of (by decide +kernel) (Nat.le_of_ble_eq_true rfl) (fun p e s m args below meth c C hin => ?_)
  refine x_lve (lv' := [(0, .ref (G.2.2.2 5)), (1, .int v1I), (2, .int v2I), (3, .int v3I)]) rfl ?_
  intro r σ' h
  obtain ⟨n, hn⟩ := (lp_iff _ _ _).mp h
  exact (i_JLat_indexOfChar C n).1 v1I v2I v3I σ r σ' hn
/-! java/lang/StringLatin1.indexOf([BIII)I -/
abbrev y_JLat_indexOf : MethodName := ⟨"java/lang/StringLatin1", "indexOf", "([BIII)I"⟩
theorem k_JLat_indexOf : y_JLat_indexOf.cls ≠ "java/lang/invoke/MethodHandle" ∧ y_JLat_indexOf.cls ≠ "java/lang/invoke/VarHandle" ∧ (parseMethodDescriptor y_JLat_indexOf.desc).map (fun d => d.parameters.length) = some 4 := by decide +kernel
theorem d_JLat_indexOf_0 : decode prog_25_method_22_code 0 = .ok (.iload_n 1, 1) := by decide +kernel
theorem d_JLat_indexOf_1 : decode prog_25_method_22_code 1 = .ok (.invokestatic 88, 3) := by decide +kernel
theorem d_JLat_indexOf_4 : decode prog_25_method_22_code 4 = .ok (.ifCond .ne 5, 3) := by decide +kernel
theorem d_JLat_indexOf_7 : decode prog_25_method_22_code 7 = .ok (.iconst (-1), 1) := by decide +kernel
theorem d_JLat_indexOf_8 : decode prog_25_method_22_code 8 = .ok (.ireturn, 1) := by decide +kernel
theorem d_JLat_indexOf_9 : decode prog_25_method_22_code 9 = .ok (.iload_n 2, 1) := by decide +kernel
theorem d_JLat_indexOf_10 : decode prog_25_method_22_code 10 = .ok (.iconst 0, 1) := by decide +kernel
theorem d_JLat_indexOf_11 : decode prog_25_method_22_code 11 = .ok (.invokestatic 92, 3) := by decide +kernel
theorem d_JLat_indexOf_14 : decode prog_25_method_22_code 14 = .ok (.istore_n 2, 1) := by decide +kernel
theorem d_JLat_indexOf_15 : decode prog_25_method_22_code 15 = .ok (.iload_n 3, 1) := by decide +kernel
theorem d_JLat_indexOf_16 : decode prog_25_method_22_code 16 = .ok (.aload_n 0, 1) := by decide +kernel
theorem d_JLat_indexOf_17 : decode prog_25_method_22_code 17 = .ok (.arraylength, 1) := by decide +kernel
theorem d_JLat_indexOf_18 : decode prog_25_method_22_code 18 = .ok (.invokestatic 38, 3) := by decide +kernel
theorem d_JLat_indexOf_21 : decode prog_25_method_22_code 21 = .ok (.istore_n 3, 1) := by decide +kernel
theorem d_JLat_indexOf_22 : decode prog_25_method_22_code 22 = .ok (.iload_n 2, 1) := by decide +kernel
theorem d_JLat_indexOf_23 : decode prog_25_method_22_code 23 = .ok (.iload_n 3, 1) := by decide +kernel
theorem d_JLat_indexOf_24 : decode prog_25_method_22_code 24 = .ok (.if_icmp .lt 5, 3) := by decide +kernel
theorem d_JLat_indexOf_27 : decode prog_25_method_22_code 27 = .ok (.iconst (-1), 1) := by decide +kernel
theorem d_JLat_indexOf_28 : decode prog_25_method_22_code 28 = .ok (.ireturn, 1) := by decide +kernel
theorem d_JLat_indexOf_29 : decode prog_25_method_22_code 29 = .ok (.aload_n 0, 1) := by decide +kernel
theorem d_JLat_indexOf_30 : decode prog_25_method_22_code 30 = .ok (.iload_n 1, 1) := by decide +kernel
theorem d_JLat_indexOf_31 : decode prog_25_method_22_code 31 = .ok (.iload_n 2, 1) := by decide +kernel
theorem d_JLat_indexOf_32 : decode prog_25_method_22_code 32 = .ok (.iload_n 3, 1) := by decide +kernel
theorem d_JLat_indexOf_33 : decode prog_25_method_22_code 33 = .ok (.invokestatic 95, 3) := by decide +kernel
theorem d_JLat_indexOf_36 : decode prog_25_method_22_code 36 = .ok (.ireturn, 1) := by decide +kernel
abbrev S_JLat_indexOf : Type := Nat × Int32 × Int32 × Int32 × AM
noncomputable def T_JLat_indexOf_0 (v1I : Int32) (v2I : Int32) (v3I : Int32) (σ : AM) : S_JLat_indexOf ⊕ Option (Int32 × AM) :=
  bndT (M_JLat_canEncode v1I σ) fun r1 σ2 => if r1 = 0 then (.inr (some (((-1) : Int32), σ2))) else (letT (mxI v2I (0 : Int32)) fun x3 => letT (mnI v3I (8 : Int32)) fun x4 => if x3 < x4 then (bndT (M_JLat_indexOfChar v1I x3 x4 σ2) fun r5 σ6 => .inr (some (r5, σ6))) else (.inr (some (((-1) : Int32), σ2))))
noncomputable def F_JLat_indexOf : S_JLat_indexOf → S_JLat_indexOf ⊕ Option (Int32 × AM) := fun s => match s.1 with
  | _ => T_JLat_indexOf_0 (s.2.1) (s.2.2.1) (s.2.2.2.1) (s.2.2.2.2)
noncomputable def L_JLat_indexOf_0 (v1I : Int32) (v2I : Int32) (v3I : Int32) (σ : AM) : Option (Int32 × AM) := lp F_JLat_indexOf (0, v1I, v2I, v3I, σ)
set_option maxRecDepth 20000 in
theorem E_JLat_indexOf_0 (v1I : Int32) (v2I : Int32) (v3I : Int32) (σ : AM) : L_JLat_indexOf_0 v1I v2I v3I σ = (bnd (M_JLat_canEncode v1I σ) fun r1 σ2 => if r1 = 0 then ((some (((-1) : Int32), σ2))) else (letT (mxI v2I (0 : Int32)) fun x3 => letT (mnI v3I (8 : Int32)) fun x4 => if x3 < x4 then (bnd (M_JLat_indexOfChar v1I x3 x4 σ2) fun r5 σ6 => (some (r5, σ6))) else ((some (((-1) : Int32), σ2))))) := by
  unfold L_JLat_indexOf_0
  rw [lp_eq]
  show lpK (lp F_JLat_indexOf) (T_JLat_indexOf_0 v1I v2I v3I σ) = _
  unfold T_JLat_indexOf_0
  simp only [lpK_ite, lq_inl, lq_inr, lpK_bnd, lpK_gd, lq_let]
  try rfl
noncomputable def M_JLat_indexOf (v1I : Int32) (v2I : Int32) (v3I : Int32) (σ : AM) : Option (Int32 × AM) := mw σ (L_JLat_indexOf_0 v1I v2I v3I σ)
def I_JLat_indexOf (G : GX) (p : Program) (l : Launch) (e : Env) (s : State) (m : MethodId) (args : Array Value) (below : List Frame) (meth : Method) (c : Code) (z0 u0 n : Nat) : Prop :=
  (∀ (v1I : Int32) (v2I : Int32) (v3I : Int32) (σ : AM), VX (QM eI G args s below z0 u0) G p l e s m args below meth c 1 z0 u0 4 (lpn F_JLat_indexOf n (0, v1I, v2I, v3I, σ)) 0 [(0, .ref (G.2.2.2 5)), (1, .int v1I), (2, .int v2I), (3, .int v3I)] [] σ)
set_option maxRecDepth 20000 in
theorem s_JLat_indexOf_0 {G : GX} {p : Program} {l : Launch} {e : Env} {s : State} {m : MethodId} {args : Array Value} {below : List Frame} {meth : Method} {c : Code} {z0 u0 n : Nat} (C : Cx G p s m args meth c prog_25_method_22_code 4 "java/lang/StringLatin1" ((some FieldType.int))) (IH : I_JLat_indexOf G p l e s m args below meth c z0 u0 n) (v1I : Int32) (v2I : Int32) (v3I : Int32) (σ : AM) : VX (QM eI G args s below z0 u0) G p l e s m args below meth c 1 z0 u0 4 (lpK (lpn F_JLat_indexOf n) (T_JLat_indexOf_0 v1I v2I v3I σ)) 0 [(0, .ref (G.2.2.2 5)), (1, .int v1I), (2, .int v2I), (3, .int v3I)] [] σ := by
  unfold T_JLat_indexOf_0
  refine x_iload_n C d_JLat_indexOf_0 1 rfl ?_
  refine x_callSI (As := [.int v1I]) C (c_JLat_canEncode G l v1I σ) w802 w801 w803 w136 k_JLat_canEncode rfl (by decide) (by decide) rfl (Nat.le_of_ble_eq_true rfl) d_JLat_indexOf_1 (fun r1 σ2 => ?_)
  refine x_if_ne (tgt := 9) C d_JLat_indexOf_4 (by decide) (fun _ => ?_) (fun _ => ?_)
  · refine x_iconst (v := ((-1) : Int32)) C d_JLat_indexOf_7 (by decide) ?_
    exact x_iret C d_JLat_indexOf_8
  · refine x_iload_n C d_JLat_indexOf_9 2 rfl ?_
    refine x_iconst (v := (0 : Int32)) C d_JLat_indexOf_10 (by decide) ?_
    refine x_mmax C w804 (by decide) (Nat.le_of_ble_eq_true rfl) d_JLat_indexOf_11 ?_
    refine x_letI (fun x3 _ => ?_)
    refine x_istore_n (lv' := [(2, .int x3), (0, .ref (G.2.2.2 5)), (1, .int v1I), (3, .int v3I)]) C d_JLat_indexOf_14 (by decide) rfl rfl ?_
    refine x_iload_n C d_JLat_indexOf_15 3 rfl ?_
    refine x_aload_n C d_JLat_indexOf_16 1 rfl ?_
    refine x_sn5 C d_JLat_indexOf_17 ?_
    refine x_mmin C w805 (by decide) (Nat.le_of_ble_eq_true rfl) d_JLat_indexOf_18 ?_
    refine x_letI (fun x4 _ => ?_)
    refine x_istore_n (lv' := [(3, .int x4), (2, .int x3), (0, .ref (G.2.2.2 5)), (1, .int v1I)]) C d_JLat_indexOf_21 (by decide) rfl rfl ?_
    refine x_iload_n C d_JLat_indexOf_22 1 rfl ?_
    refine x_iload_n C d_JLat_indexOf_23 0 rfl ?_
    refine x_icmp_lt (tgt := 29) C d_JLat_indexOf_24 (by decide) (fun _ => ?_) (fun _ => ?_)
    · refine x_aload_n C d_JLat_indexOf_29 2 rfl ?_
      refine x_iload_n C d_JLat_indexOf_30 3 rfl ?_
      refine x_iload_n C d_JLat_indexOf_31 1 rfl ?_
      refine x_iload_n C d_JLat_indexOf_32 0 rfl ?_
      refine x_callSI (As := [.ref (G.2.2.2 5), .int v1I, .int x3, .int x4]) C (c_JLat_indexOfChar G l v1I x3 x4 σ2) w807 w806 w808 w136 k_JLat_indexOfChar rfl (by decide) (by decide) rfl (Nat.le_of_ble_eq_true rfl) d_JLat_indexOf_33 (fun r5 σ6 => ?_)
      exact x_iret C d_JLat_indexOf_36
    · refine x_iconst (v := ((-1) : Int32)) C d_JLat_indexOf_27 (by decide) ?_
      exact x_iret C d_JLat_indexOf_28
theorem i_JLat_indexOf {G : GX} {p : Program} {l : Launch} {e : Env} {s : State} {m : MethodId} {args : Array Value} {below : List Frame} {meth : Method} {c : Code} {z0 u0 : Nat} (C : Cx G p s m args meth c prog_25_method_22_code 4 "java/lang/StringLatin1" ((some FieldType.int))) (n : Nat) : I_JLat_indexOf G p l e s m args below meth c z0 u0 n := by
  induction n with
  | zero => exact fun _ _ _ _ => x_none
  | succ n IH => exact fun v1I v2I v3I σ => s_JLat_indexOf_0 C IH v1I v2I v3I σ
theorem c_JLat_indexOf (G : GX) (l : Launch) (v1I : Int32) (v2I : Int32) (v3I : Int32) (σ : AM) : CT eI G l 1 y_JLat_indexOf prog_25_method_22_code 4 ((some FieldType.int)) [.ref (G.2.2.2 5), .int v1I, .int v2I, .int v3I] σ (M_JLat_indexOf v1I v2I v3I σ) := by
  refine ct_of (by decide +kernel) (Nat.le_of_ble_eq_true rfl) (fun p e s m args below meth c C hin => ?_)
  refine x_lve (lv' := [(0, .ref (G.2.2.2 5)), (1, .int v1I), (2, .int v2I), (3, .int v3I)]) rfl ?_
  intro r σ' h
  obtain ⟨n, hn⟩ := (lp_iff _ _ _).mp h
  exact (i_JLat_indexOf C n) v1I v2I v3I σ r σ' hn
/-! java/lang/String.indexOf(II)I -/
abbrev y_JStr_indexOf2 : MethodName := ⟨"java/lang/String", "indexOf", "(II)I"⟩
theorem k_JStr_indexOf2 : y_JStr_indexOf2.cls ≠ "java/lang/invoke/MethodHandle" ∧ y_JStr_indexOf2.cls ≠ "java/lang/invoke/VarHandle" ∧ (parseMethodDescriptor y_JStr_indexOf2.desc).map (fun d => d.parameters.length) = some 2 := by decide +kernel
theorem d_JStr_indexOf2_0 : decode prog_24_method_80_code 0 = .ok (.aload_n 0, 1) := by decide +kernel
theorem d_JStr_indexOf2_1 : decode prog_24_method_80_code 1 = .ok (.invokevirtual 492, 3) := by decide +kernel
theorem d_JStr_indexOf2_4 : decode prog_24_method_80_code 4 = .ok (.ifCond .eq 19, 3) := by decide +kernel
theorem d_JStr_indexOf2_7 : decode prog_24_method_80_code 7 = .ok (.aload_n 0, 1) := by decide +kernel
theorem d_JStr_indexOf2_8 : decode prog_24_method_80_code 8 = .ok (.getfield 9, 3) := by decide +kernel
theorem d_JStr_indexOf2_11 : decode prog_24_method_80_code 11 = .ok (.iload_n 1, 1) := by decide +kernel
theorem d_JStr_indexOf2_12 : decode prog_24_method_80_code 12 = .ok (.iload_n 2, 1) := by decide +kernel
theorem d_JStr_indexOf2_13 : decode prog_24_method_80_code 13 = .ok (.aload_n 0, 1) := by decide +kernel
theorem d_JStr_indexOf2_14 : decode prog_24_method_80_code 14 = .ok (.invokevirtual 505, 3) := by decide +kernel
theorem d_JStr_indexOf2_17 : decode prog_24_method_80_code 17 = .ok (.invokestatic 637, 3) := by decide +kernel
theorem d_JStr_indexOf2_20 : decode prog_24_method_80_code 20 = .ok (.goto 16, 3) := by decide +kernel
theorem d_JStr_indexOf2_23 : decode prog_24_method_80_code 23 = .ok (.aload_n 0, 1) := by decide +kernel
theorem d_JStr_indexOf2_24 : decode prog_24_method_80_code 24 = .ok (.getfield 9, 3) := by decide +kernel
theorem d_JStr_indexOf2_27 : decode prog_24_method_80_code 27 = .ok (.iload_n 1, 1) := by decide +kernel
theorem d_JStr_indexOf2_28 : decode prog_24_method_80_code 28 = .ok (.iload_n 2, 1) := by decide +kernel
theorem d_JStr_indexOf2_29 : decode prog_24_method_80_code 29 = .ok (.aload_n 0, 1) := by decide +kernel
theorem d_JStr_indexOf2_30 : decode prog_24_method_80_code 30 = .ok (.invokevirtual 505, 3) := by decide +kernel
theorem d_JStr_indexOf2_33 : decode prog_24_method_80_code 33 = .ok (.invokestatic 640, 3) := by decide +kernel
theorem d_JStr_indexOf2_36 : decode prog_24_method_80_code 36 = .ok (.ireturn, 1) := by decide +kernel
abbrev S_JStr_indexOf2 : Type := Nat × Int32 × Int32 × AM
noncomputable def T_JStr_indexOf2_0 (v1I : Int32) (v2I : Int32) (σ : AM) : S_JStr_indexOf2 ⊕ Option (Int32 × AM) :=
  bndT (M_JStr_isLatin1  σ) fun r1 σ2 => if r1 = 0 then (bndT (M_JStr_length  σ2) fun r3 σ4 => .inr none) else (bndT (M_JStr_length  σ2) fun r5 σ6 => bndT (M_JLat_indexOf v1I v2I r5 σ6) fun r7 σ8 => .inr (some (r7, σ8)))
noncomputable def F_JStr_indexOf2 : S_JStr_indexOf2 → S_JStr_indexOf2 ⊕ Option (Int32 × AM) := fun s => match s.1 with
  | _ => T_JStr_indexOf2_0 (s.2.1) (s.2.2.1) (s.2.2.2)
noncomputable def L_JStr_indexOf2_0 (v1I : Int32) (v2I : Int32) (σ : AM) : Option (Int32 × AM) := lp F_JStr_indexOf2 (0, v1I, v2I, σ)
set_option maxRecDepth 20000 in
theorem E_JStr_indexOf2_0 (v1I : Int32) (v2I : Int32) (σ : AM) : L_JStr_indexOf2_0 v1I v2I σ = (bnd (M_JStr_isLatin1  σ) fun r1 σ2 => if r1 = 0 then (bnd (M_JStr_length  σ2) fun r3 σ4 => none) else (bnd (M_JStr_length  σ2) fun r5 σ6 => bnd (M_JLat_indexOf v1I v2I r5 σ6) fun r7 σ8 => (some (r7, σ8)))) := by
  unfold L_JStr_indexOf2_0
  rw [lp_eq]
  show lpK (lp F_JStr_indexOf2) (T_JStr_indexOf2_0 v1I v2I σ) = _
  unfold T_JStr_indexOf2_0
  simp only [lpK_ite, lq_inl, lq_inr, lpK_bnd, lpK_gd, lq_let]
  try rfl
noncomputable def M_JStr_indexOf2 (v1I : Int32) (v2I : Int32) (σ : AM) : Option (Int32 × AM) := mw σ (L_JStr_indexOf2_0 v1I v2I σ)
def I_JStr_indexOf2 (G : GX) (p : Program) (l : Launch) (e : Env) (s : State) (m : MethodId) (args : Array Value) (below : List Frame) (meth : Method) (c : Code) (z0 u0 n : Nat) : Prop :=
  (∀ (v1I : Int32) (v2I : Int32) (σ : AM), VX (QM eI G args s below z0 u0) G p l e s m args below meth c 2 z0 u0 3 (lpn F_JStr_indexOf2 n (0, v1I, v2I, σ)) 0 [(0, .ref (G.2.2.2 4)), (1, .int v1I), (2, .int v2I)] [] σ)
set_option maxRecDepth 20000 in
theorem s_JStr_indexOf2_0 {G : GX} {p : Program} {l : Launch} {e : Env} {s : State} {m : MethodId} {args : Array Value} {below : List Frame} {meth : Method} {c : Code} {z0 u0 n : Nat} (C : Cx G p s m args meth c prog_24_method_80_code 3 "java/lang/String" ((some FieldType.int))) (IH : I_JStr_indexOf2 G p l e s m args below meth c z0 u0 n) (v1I : Int32) (v2I : Int32) (σ : AM) : VX (QM eI G args s below z0 u0) G p l e s m args below meth c 2 z0 u0 3 (lpK (lpn F_JStr_indexOf2 n) (T_JStr_indexOf2_0 v1I v2I σ)) 0 [(0, .ref (G.2.2.2 4)), (1, .int v1I), (2, .int v2I)] [] σ := by
  unfold T_JStr_indexOf2_0
  refine x_aload_n C d_JStr_indexOf2_0 0 rfl ?_
  refine x_callT (As := []) C (c_JStr_isLatin1 G l  σ) w785 w786 w784 w787 w135 k_JStr_isLatin1 rfl (by decide) (by decide) rfl (Nat.le_of_ble_eq_true rfl) d_JStr_indexOf2_1 (fun r1 σ2 => ?_)
  refine x_if_eq (tgt := 23) C d_JStr_indexOf2_4 (by decide) (fun _ => ?_) (fun _ => ?_)
  · refine x_aload_n C d_JStr_indexOf2_23 0 rfl ?_
    refine x_sgV C w2526 d_JStr_indexOf2_24 ?_
    refine x_iload_n C d_JStr_indexOf2_27 1 rfl ?_
    refine x_iload_n C d_JStr_indexOf2_28 2 rfl ?_
    refine x_aload_n C d_JStr_indexOf2_29 0 rfl ?_
    refine x_callT (As := []) C (c_JStr_length G l  σ2) w791 w792 w790 w793 w135 k_JStr_length rfl (by decide) (by decide) rfl (Nat.le_of_ble_eq_true rfl) d_JStr_indexOf2_30 (fun r3 σ4 => ?_)
    exact x_die
  · refine x_aload_n C d_JStr_indexOf2_7 0 rfl ?_
    refine x_sgV C w2526 d_JStr_indexOf2_8 ?_
    refine x_iload_n C d_JStr_indexOf2_11 1 rfl ?_
    refine x_iload_n C d_JStr_indexOf2_12 2 rfl ?_
    refine x_aload_n C d_JStr_indexOf2_13 0 rfl ?_
    refine x_callT (As := []) C (c_JStr_length G l  σ2) w791 w792 w790 w793 w135 k_JStr_length rfl (by decide) (by decide) rfl (Nat.le_of_ble_eq_true rfl) d_JStr_indexOf2_14 (fun r5 σ6 => ?_)
    refine x_callSI (As := [.ref (G.2.2.2 5), .int v1I, .int v2I, .int r5]) C (c_JLat_indexOf G l v1I v2I r5 σ6) w799 w798 w800 w136 k_JLat_indexOf rfl (by decide) (by decide) rfl (Nat.le_of_ble_eq_true rfl) d_JStr_indexOf2_17 (fun r7 σ8 => ?_)
    refine x_goto (tgt := 36) C d_JStr_indexOf2_20 (by decide) ?_
    exact x_iret C d_JStr_indexOf2_36
theorem i_JStr_indexOf2 {G : GX} {p : Program} {l : Launch} {e : Env} {s : State} {m : MethodId} {args : Array Value} {below : List Frame} {meth : Method} {c : Code} {z0 u0 : Nat} (C : Cx G p s m args meth c prog_24_method_80_code 3 "java/lang/String" ((some FieldType.int))) (n : Nat) : I_JStr_indexOf2 G p l e s m args below meth c z0 u0 n := by
  induction n with
  | zero => exact fun _ _ _ => x_none
  | succ n IH => exact fun v1I v2I σ => s_JStr_indexOf2_0 C IH v1I v2I σ
theorem c_JStr_indexOf2 (G : GX) (l : Launch) (v1I : Int32) (v2I : Int32) (σ : AM) : CT eI G l 2 y_JStr_indexOf2 prog_24_method_80_code 3 ((some FieldType.int)) [.ref (G.2.2.2 4), .int v1I, .int v2I] σ (M_JStr_indexOf2 v1I v2I σ) := by
  refine ct_of (by decide +kernel) (Nat.le_of_ble_eq_true rfl) (fun p e s m args below meth c C hin => ?_)
  refine x_lve (lv' := [(0, .ref (G.2.2.2 4)), (1, .int v1I), (2, .int v2I)]) rfl ?_
  intro r σ' h
  obtain ⟨n, hn⟩ := (lp_iff _ _ _).mp h
  exact (i_JStr_indexOf2 C n) v1I v2I σ r σ' hn
/-! java/lang/String.indexOf(I)I -/
abbrev y_JStr_indexOf : MethodName := ⟨"java/lang/String", "indexOf", "(I)I"⟩
theorem k_JStr_indexOf : y_JStr_indexOf.cls ≠ "java/lang/invoke/MethodHandle" ∧ y_JStr_indexOf.cls ≠ "java/lang/invoke/VarHandle" ∧ (parseMethodDescriptor y_JStr_indexOf.desc).map (fun d => d.parameters.length) = some 1 := by decide +kernel
theorem d_JStr_indexOf_0 : decode prog_24_method_79_code 0 = .ok (.aload_n 0, 1) := by decide +kernel
theorem d_JStr_indexOf_1 : decode prog_24_method_79_code 1 = .ok (.iload_n 1, 1) := by decide +kernel
theorem d_JStr_indexOf_2 : decode prog_24_method_79_code 2 = .ok (.iconst 0, 1) := by decide +kernel
theorem d_JStr_indexOf_3 : decode prog_24_method_79_code 3 = .ok (.invokevirtual 633, 3) := by decide +kernel
theorem d_JStr_indexOf_6 : decode prog_24_method_79_code 6 = .ok (.ireturn, 1) := by decide +kernel
abbrev S_JStr_indexOf : Type := Nat × Int32 × AM
noncomputable def T_JStr_indexOf_0 (v1I : Int32) (σ : AM) : S_JStr_indexOf ⊕ Option (Int32 × AM) :=
  bndT (M_JStr_indexOf2 v1I (0 : Int32) σ) fun r1 σ2 => .inr (some (r1, σ2))
noncomputable def F_JStr_indexOf : S_JStr_indexOf → S_JStr_indexOf ⊕ Option (Int32 × AM) := fun s => match s.1 with
  | _ => T_JStr_indexOf_0 (s.2.1) (s.2.2)
noncomputable def L_JStr_indexOf_0 (v1I : Int32) (σ : AM) : Option (Int32 × AM) := lp F_JStr_indexOf (0, v1I, σ)
set_option maxRecDepth 20000 in
theorem E_JStr_indexOf_0 (v1I : Int32) (σ : AM) : L_JStr_indexOf_0 v1I σ = (bnd (M_JStr_indexOf2 v1I (0 : Int32) σ) fun r1 σ2 => (some (r1, σ2))) := by
  unfold L_JStr_indexOf_0
  rw [lp_eq]
  show lpK (lp F_JStr_indexOf) (T_JStr_indexOf_0 v1I σ) = _
  unfold T_JStr_indexOf_0
  simp only [lpK_ite, lq_inl, lq_inr, lpK_bnd, lpK_gd, lq_let]
  try rfl
noncomputable def M_JStr_indexOf (v1I : Int32) (σ : AM) : Option (Int32 × AM) := mw σ (L_JStr_indexOf_0 v1I σ)
def I_JStr_indexOf (G : GX) (p : Program) (l : Launch) (e : Env) (s : State) (m : MethodId) (args : Array Value) (below : List Frame) (meth : Method) (c : Code) (z0 u0 n : Nat) : Prop :=
  (∀ (v1I : Int32) (σ : AM), VX (QM eI G args s below z0 u0) G p l e s m args below meth c 3 z0 u0 2 (lpn F_JStr_indexOf n (0, v1I, σ)) 0 [(0, .ref (G.2.2.2 4)), (1, .int v1I)] [] σ)
set_option maxRecDepth 20000 in
theorem s_JStr_indexOf_0 {G : GX} {p : Program} {l : Launch} {e : Env} {s : State} {m : MethodId} {args : Array Value} {below : List Frame} {meth : Method} {c : Code} {z0 u0 n : Nat} (C : Cx G p s m args meth c prog_24_method_79_code 2 "java/lang/String" ((some FieldType.int))) (IH : I_JStr_indexOf G p l e s m args below meth c z0 u0 n) (v1I : Int32) (σ : AM) : VX (QM eI G args s below z0 u0) G p l e s m args below meth c 3 z0 u0 2 (lpK (lpn F_JStr_indexOf n) (T_JStr_indexOf_0 v1I σ)) 0 [(0, .ref (G.2.2.2 4)), (1, .int v1I)] [] σ := by
  unfold T_JStr_indexOf_0
  refine x_aload_n C d_JStr_indexOf_0 0 rfl ?_
  refine x_iload_n C d_JStr_indexOf_1 1 rfl ?_
  refine x_iconst (v := (0 : Int32)) C d_JStr_indexOf_2 (by decide) ?_
  refine x_callT (As := [.int v1I, .int (0 : Int32)]) C (c_JStr_indexOf2 G l v1I (0 : Int32) σ) w781 w782 w780 w783 w135 k_JStr_indexOf2 rfl (by decide) (by decide) rfl (Nat.le_of_ble_eq_true rfl) d_JStr_indexOf_3 (fun r1 σ2 => ?_)
  exact x_iret C d_JStr_indexOf_6
theorem i_JStr_indexOf {G : GX} {p : Program} {l : Launch} {e : Env} {s : State} {m : MethodId} {args : Array Value} {below : List Frame} {meth : Method} {c : Code} {z0 u0 : Nat} (C : Cx G p s m args meth c prog_24_method_79_code 2 "java/lang/String" ((some FieldType.int))) (n : Nat) : I_JStr_indexOf G p l e s m args below meth c z0 u0 n := by
  induction n with
  | zero => exact fun _ _ => x_none
  | succ n IH => exact fun v1I σ => s_JStr_indexOf_0 C IH v1I σ
theorem c_JStr_indexOf (G : GX) (l : Launch) (v1I : Int32) (σ : AM) : CT eI G l 3 y_JStr_indexOf prog_24_method_79_code 2 ((some FieldType.int)) [.ref (G.2.2.2 4), .int v1I] σ (M_JStr_indexOf v1I σ) := by
  refine ct_of (by decide +kernel) (Nat.le_of_ble_eq_true rfl) (fun p e s m args below meth c C hin => ?_)
  refine x_lve (lv' := [(0, .ref (G.2.2.2 4)), (1, .int v1I)]) rfl ?_
  intro r σ' h
  obtain ⟨n, hn⟩ := (lp_iff _ _ _).mp h
  exact (i_JStr_indexOf C n) v1I σ r σ' hn
