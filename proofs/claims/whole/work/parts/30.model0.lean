/-! BellPlateModel.thrown()I -/
abbrev y_Md_thrown : MethodName := ⟨"BellPlateModel", "thrown", "()I"⟩
theorem k_Md_thrown : y_Md_thrown.cls ≠ "java/lang/invoke/MethodHandle" ∧ y_Md_thrown.cls ≠ "java/lang/invoke/VarHandle" ∧ (parseMethodDescriptor y_Md_thrown.desc).map (fun d => d.parameters.length) = some 0 := by decide +kernel
theorem d_Md_thrown_0 : decode prog_14_method_1_code 0 = .ok (.aload_n 0, 1) := by decide +kernel
theorem d_Md_thrown_1 : decode prog_14_method_1_code 1 = .ok (.getfield 1, 3) := by decide +kernel
theorem d_Md_thrown_4 : decode prog_14_method_1_code 4 = .ok (.ireturn, 1) := by decide +kernel
abbrev S_Md_thrown : Type := Nat × Nat × AM
noncomputable def T_Md_thrown_0 (v0R : Nat) (σ : AM) : S_Md_thrown ⊕ Option (Int32 × AM) :=
  gdT (okO σ v0R 12) <| .inr (some ((aI σ v0R 0), σ))
noncomputable def F_Md_thrown : S_Md_thrown → S_Md_thrown ⊕ Option (Int32 × AM) := fun s => match s.1 with
  | _ => T_Md_thrown_0 (s.2.1) (s.2.2)
noncomputable def L_Md_thrown_0 (v0R : Nat) (σ : AM) : Option (Int32 × AM) := lp F_Md_thrown (0, v0R, σ)
set_option maxRecDepth 20000 in
theorem E_Md_thrown_0 (v0R : Nat) (σ : AM) : L_Md_thrown_0 v0R σ = (gd (okO σ v0R 12) <| (some ((aI σ v0R 0), σ))) := by
  unfold L_Md_thrown_0
  rw [lp_eq]
  show lpK (lp F_Md_thrown) (T_Md_thrown_0 v0R σ) = _
  unfold T_Md_thrown_0
  simp only [lpK_ite, lq_inl, lq_inr, lpK_bnd, lpK_gd, lq_let]
  try rfl
noncomputable def M_Md_thrown (v0R : Nat) (σ : AM) : Option (Int32 × AM) := mw σ (L_Md_thrown_0 v0R σ)
def I_Md_thrown (G : GX) (p : Program) (l : Launch) (e : Env) (s : State) (m : MethodId) (args : Array Value) (below : List Frame) (meth : Method) (c : Code) (z0 u0 n : Nat) : Prop :=
  (∀ (v0R : Nat) (σ : AM), VX (QM eI G args s below z0 u0) G p l e s m args below meth c 0 z0 u0 1 (lpn F_Md_thrown n (0, v0R, σ)) 0 [(0, .ref v0R)] [] σ)
set_option maxRecDepth 20000 in
theorem s_Md_thrown_0 {G : GX} {p : Program} {l : Launch} {e : Env} {s : State} {m : MethodId} {args : Array Value} {below : List Frame} {meth : Method} {c : Code} {z0 u0 n : Nat} (C : Cx G p s m args meth c prog_14_method_1_code 1 "BellPlateModel" ((some FieldType.int))) (IH : I_Md_thrown G p l e s m args below meth c z0 u0 n) (v0R : Nat) (σ : AM) : VX (QM eI G args s below z0 u0) G p l e s m args below meth c 0 z0 u0 1 (lpK (lpn F_Md_thrown n) (T_Md_thrown_0 v0R σ)) 0 [(0, .ref v0R)] [] σ := by
  unfold T_Md_thrown_0
  refine x_aload_n C d_Md_thrown_0 0 rfl ?_
  refine x_gd (fun h1 => ?_)
  refine x_getI (k := 0) C (okO_iff.mp h1) rfl j11_ok (by decide) rfl w1852 d_Md_thrown_1 ?_
  exact x_iret C d_Md_thrown_4
theorem i_Md_thrown {G : GX} {p : Program} {l : Launch} {e : Env} {s : State} {m : MethodId} {args : Array Value} {below : List Frame} {meth : Method} {c : Code} {z0 u0 : Nat} (C : Cx G p s m args meth c prog_14_method_1_code 1 "BellPlateModel" ((some FieldType.int))) (n : Nat) : I_Md_thrown G p l e s m args below meth c z0 u0 n := by
  induction n with
  | zero => exact fun _ _ => x_none
  | succ n IH => exact fun v0R σ => s_Md_thrown_0 C IH v0R σ
theorem c_Md_thrown (G : GX) (l : Launch) (v0R : Nat) (σ : AM) : CT eI G l 0 y_Md_thrown prog_14_method_1_code 1 ((some FieldType.int)) [.ref v0R] σ (M_Md_thrown v0R σ) := by
  refine ct_of (by decide +kernel) (Nat.le_of_ble_eq_true rfl) (fun p e s m args below meth c C hin => ?_)
  refine x_lve (lv' := [(0, .ref v0R)]) rfl ?_
  intro r σ' h
  obtain ⟨n, hn⟩ := (lp_iff _ _ _).mp h
  exact (i_Md_thrown C n) v0R σ r σ' hn
/-! BellPlateModel.lays(J)V -/
abbrev y_Md_lays : MethodName := ⟨"BellPlateModel", "lays", "(J)V"⟩
theorem k_Md_lays : y_Md_lays.cls ≠ "java/lang/invoke/MethodHandle" ∧ y_Md_lays.cls ≠ "java/lang/invoke/VarHandle" ∧ (parseMethodDescriptor y_Md_lays.desc).map (fun d => d.parameters.length) = some 1 := by decide +kernel
theorem d_Md_lays_0 : decode prog_14_method_3_code 0 = .ok (.bipush 56, 2) := by decide +kernel
theorem d_Md_lays_2 : decode prog_14_method_3_code 2 = .ok (.istore_n 3, 1) := by decide +kernel
theorem d_Md_lays_3 : decode prog_14_method_3_code 3 = .ok (.iload_n 3, 1) := by decide +kernel
theorem d_Md_lays_4 : decode prog_14_method_3_code 4 = .ok (.ifCond .lt 71, 3) := by decide +kernel
theorem d_Md_lays_7 : decode prog_14_method_3_code 7 = .ok (.lload_n 1, 1) := by decide +kernel
theorem d_Md_lays_8 : decode prog_14_method_3_code 8 = .ok (.iload_n 3, 1) := by decide +kernel
theorem d_Md_lays_9 : decode prog_14_method_3_code 9 = .ok (.lshr, 1) := by decide +kernel
theorem d_Md_lays_10 : decode prog_14_method_3_code 10 = .ok (.l2i, 1) := by decide +kernel
theorem d_Md_lays_11 : decode prog_14_method_3_code 11 = .ok (.sipush 255, 3) := by decide +kernel
theorem d_Md_lays_14 : decode prog_14_method_3_code 14 = .ok (.iand, 1) := by decide +kernel
theorem d_Md_lays_15 : decode prog_14_method_3_code 15 = .ok (.istore 4, 2) := by decide +kernel
theorem d_Md_lays_17 : decode prog_14_method_3_code 17 = .ok (.iload 4, 2) := by decide +kernel
theorem d_Md_lays_19 : decode prog_14_method_3_code 19 = .ok (.bipush 10, 2) := by decide +kernel
theorem d_Md_lays_21 : decode prog_14_method_3_code 21 = .ok (.if_icmp .eq 17, 3) := by decide +kernel
theorem d_Md_lays_24 : decode prog_14_method_3_code 24 = .ok (.iload 4, 2) := by decide +kernel
theorem d_Md_lays_26 : decode prog_14_method_3_code 26 = .ok (.bipush 32, 2) := by decide +kernel
theorem d_Md_lays_28 : decode prog_14_method_3_code 28 = .ok (.if_icmp .lt 41, 3) := by decide +kernel
theorem d_Md_lays_31 : decode prog_14_method_3_code 31 = .ok (.iload 4, 2) := by decide +kernel
theorem d_Md_lays_33 : decode prog_14_method_3_code 33 = .ok (.bipush 126, 2) := by decide +kernel
theorem d_Md_lays_35 : decode prog_14_method_3_code 35 = .ok (.if_icmp .gt 34, 3) := by decide +kernel
theorem d_Md_lays_38 : decode prog_14_method_3_code 38 = .ok (.aload_n 0, 1) := by decide +kernel
theorem d_Md_lays_39 : decode prog_14_method_3_code 39 = .ok (.getfield 11, 3) := by decide +kernel
theorem d_Md_lays_42 : decode prog_14_method_3_code 42 = .ok (.sipush 1000, 3) := by decide +kernel
theorem d_Md_lays_45 : decode prog_14_method_3_code 45 = .ok (.if_icmp .ge 24, 3) := by decide +kernel
theorem d_Md_lays_48 : decode prog_14_method_3_code 48 = .ok (.aload_n 0, 1) := by decide +kernel
theorem d_Md_lays_49 : decode prog_14_method_3_code 49 = .ok (.getfield 14, 3) := by decide +kernel
theorem d_Md_lays_52 : decode prog_14_method_3_code 52 = .ok (.aload_n 0, 1) := by decide +kernel
theorem d_Md_lays_53 : decode prog_14_method_3_code 53 = .ok (.getfield 11, 3) := by decide +kernel
theorem d_Md_lays_56 : decode prog_14_method_3_code 56 = .ok (.iload 4, 2) := by decide +kernel
theorem d_Md_lays_58 : decode prog_14_method_3_code 58 = .ok (.iastore, 1) := by decide +kernel
theorem d_Md_lays_59 : decode prog_14_method_3_code 59 = .ok (.aload_n 0, 1) := by decide +kernel
theorem d_Md_lays_60 : decode prog_14_method_3_code 60 = .ok (.dup, 1) := by decide +kernel
theorem d_Md_lays_61 : decode prog_14_method_3_code 61 = .ok (.getfield 11, 3) := by decide +kernel
theorem d_Md_lays_64 : decode prog_14_method_3_code 64 = .ok (.iconst 1, 1) := by decide +kernel
theorem d_Md_lays_65 : decode prog_14_method_3_code 65 = .ok (.iadd, 1) := by decide +kernel
theorem d_Md_lays_66 : decode prog_14_method_3_code 66 = .ok (.putfield 11, 3) := by decide +kernel
theorem d_Md_lays_69 : decode prog_14_method_3_code 69 = .ok (.iinc 3 (-8), 3) := by decide +kernel
theorem d_Md_lays_72 : decode prog_14_method_3_code 72 = .ok (.goto (-69), 3) := by decide +kernel
theorem d_Md_lays_75 : decode prog_14_method_3_code 75 = .ok (.return_, 1) := by decide +kernel
abbrev S_Md_lays : Type := Nat × Nat × Int64 × Int32 × Int32 × AM
noncomputable def T_Md_lays_0 (v0R : Nat) (v1J : Int64) (σ : AM) : S_Md_lays ⊕ Option (Unit × AM) :=
  .inl (1, v0R, v1J, (56 : Int32), 0, σ)
noncomputable def T_Md_lays_1 (v0R : Nat) (v1J : Int64) (v3I : Int32) (σ : AM) : S_Md_lays ⊕ Option (Unit × AM) :=
  if v3I < 0 then (.inr (some ((), σ))) else (letT (((v1J >>> (v3I.toInt64 &&& 63)).toInt32) &&& (255 : Int32)) fun x1 => if x1 = (10 : Int32) then (.inl (2, v0R, v1J, v3I, x1, σ)) else (if x1 < (32 : Int32) then (.inl (3, v0R, v1J, v3I, 0, σ)) else (if (126 : Int32) < x1 then (.inl (3, v0R, v1J, v3I, 0, σ)) else (.inl (2, v0R, v1J, v3I, x1, σ)))))
noncomputable def T_Md_lays_2 (v0R : Nat) (v1J : Int64) (v3I : Int32) (v4I : Int32) (σ : AM) : S_Md_lays ⊕ Option (Unit × AM) :=
  gdT (okO σ v0R 12) <| if (aI σ v0R 2) < (1000 : Int32) then (gdT (okO σ (aR σ v0R 1) 101) <| gdT (inB (aI σ v0R 2) (aN σ (aR σ v0R 1))) <| letT (sI σ (aR σ v0R 1) (aI σ v0R 2).toNatClampNeg v4I) fun σ4 => letT (sI σ4 v0R 2 ((aI σ4 v0R 2) + (1 : Int32))) fun σ6 => .inl (3, v0R, v1J, v3I, 0, σ6)) else (.inl (3, v0R, v1J, v3I, 0, σ))
noncomputable def T_Md_lays_3 (v0R : Nat) (v1J : Int64) (v3I : Int32) (σ : AM) : S_Md_lays ⊕ Option (Unit × AM) :=
  .inl (1, v0R, v1J, v3I + ((-8) : Int32), 0, σ)
noncomputable def F_Md_lays : S_Md_lays → S_Md_lays ⊕ Option (Unit × AM) := fun s => match s.1 with
  | 0 => T_Md_lays_0 (s.2.1) (s.2.2.1) (s.2.2.2.2.2)
  | 1 => T_Md_lays_1 (s.2.1) (s.2.2.1) (s.2.2.2.1) (s.2.2.2.2.2)
  | 2 => T_Md_lays_2 (s.2.1) (s.2.2.1) (s.2.2.2.1) (s.2.2.2.2.1) (s.2.2.2.2.2)
  | _ => T_Md_lays_3 (s.2.1) (s.2.2.1) (s.2.2.2.1) (s.2.2.2.2.2)
noncomputable def L_Md_lays_0 (v0R : Nat) (v1J : Int64) (σ : AM) : Option (Unit × AM) := lp F_Md_lays (0, v0R, v1J, 0, 0, σ)
noncomputable def L_Md_lays_1 (v0R : Nat) (v1J : Int64) (v3I : Int32) (σ : AM) : Option (Unit × AM) := lp F_Md_lays (1, v0R, v1J, v3I, 0, σ)
noncomputable def L_Md_lays_2 (v0R : Nat) (v1J : Int64) (v3I : Int32) (v4I : Int32) (σ : AM) : Option (Unit × AM) := lp F_Md_lays (2, v0R, v1J, v3I, v4I, σ)
noncomputable def L_Md_lays_3 (v0R : Nat) (v1J : Int64) (v3I : Int32) (σ : AM) : Option (Unit × AM) := lp F_Md_lays (3, v0R, v1J, v3I, 0, σ)
set_option maxRecDepth 20000 in
theorem E_Md_lays_0 (v0R : Nat) (v1J : Int64) (σ : AM) : L_Md_lays_0 v0R v1J σ = (L_Md_lays_1 v0R v1J ((56 : Int32)) σ) := by
  unfold L_Md_lays_0
  rw [lp_eq]
  show lpK (lp F_Md_lays) (T_Md_lays_0 v0R v1J σ) = _
  unfold T_Md_lays_0
  simp only [lpK_ite, lq_inl, lq_inr, lpK_bnd, lpK_gd, lq_let]
  try rfl
set_option maxRecDepth 20000 in
theorem E_Md_lays_1 (v0R : Nat) (v1J : Int64) (v3I : Int32) (σ : AM) : L_Md_lays_1 v0R v1J v3I σ = (if v3I < 0 then ((some ((), σ))) else (letT (((v1J >>> (v3I.toInt64 &&& 63)).toInt32) &&& (255 : Int32)) fun x1 => if x1 = (10 : Int32) then (L_Md_lays_2 v0R v1J v3I x1 σ) else (if x1 < (32 : Int32) then (L_Md_lays_3 v0R v1J v3I σ) else (if (126 : Int32) < x1 then (L_Md_lays_3 v0R v1J v3I σ) else (L_Md_lays_2 v0R v1J v3I x1 σ))))) := by
  unfold L_Md_lays_1
  rw [lp_eq]
  show lpK (lp F_Md_lays) (T_Md_lays_1 v0R v1J v3I σ) = _
  unfold T_Md_lays_1
  simp only [lpK_ite, lq_inl, lq_inr, lpK_bnd, lpK_gd, lq_let]
  try rfl
set_option maxRecDepth 20000 in
theorem E_Md_lays_2 (v0R : Nat) (v1J : Int64) (v3I : Int32) (v4I : Int32) (σ : AM) : L_Md_lays_2 v0R v1J v3I v4I σ = (gd (okO σ v0R 12) <| if (aI σ v0R 2) < (1000 : Int32) then (gd (okO σ (aR σ v0R 1) 101) <| gd (inB (aI σ v0R 2) (aN σ (aR σ v0R 1))) <| letT (sI σ (aR σ v0R 1) (aI σ v0R 2).toNatClampNeg v4I) fun σ4 => letT (sI σ4 v0R 2 ((aI σ4 v0R 2) + (1 : Int32))) fun σ6 => L_Md_lays_3 v0R v1J v3I σ6) else (L_Md_lays_3 v0R v1J v3I σ)) := by
  unfold L_Md_lays_2
  rw [lp_eq]
  show lpK (lp F_Md_lays) (T_Md_lays_2 v0R v1J v3I v4I σ) = _
  unfold T_Md_lays_2
  simp only [lpK_ite, lq_inl, lq_inr, lpK_bnd, lpK_gd, lq_let]
  try rfl
set_option maxRecDepth 20000 in
theorem E_Md_lays_3 (v0R : Nat) (v1J : Int64) (v3I : Int32) (σ : AM) : L_Md_lays_3 v0R v1J v3I σ = (L_Md_lays_1 v0R v1J (v3I + ((-8) : Int32)) σ) := by
  unfold L_Md_lays_3
  rw [lp_eq]
  show lpK (lp F_Md_lays) (T_Md_lays_3 v0R v1J v3I σ) = _
  unfold T_Md_lays_3
  simp only [lpK_ite, lq_inl, lq_inr, lpK_bnd, lpK_gd, lq_let]
  try rfl
noncomputable def M_Md_lays (v0R : Nat) (v1J : Int64) (σ : AM) : Option (Unit × AM) := mw σ (L_Md_lays_0 v0R v1J σ)
def I_Md_lays (G : GX) (p : Program) (l : Launch) (e : Env) (s : State) (m : MethodId) (args : Array Value) (below : List Frame) (meth : Method) (c : Code) (z0 u0 n : Nat) : Prop :=
  (∀ (v0R : Nat) (v1J : Int64) (σ : AM), VX (QM eV G args s below z0 u0) G p l e s m args below meth c 0 z0 u0 5 (lpn F_Md_lays n (0, v0R, v1J, 0, 0, σ)) 0 [(0, .ref v0R), (1, .long v1J)] [] σ) ∧
  (∀ (v0R : Nat) (v1J : Int64) (v3I : Int32) (σ : AM), VX (QM eV G args s below z0 u0) G p l e s m args below meth c 0 z0 u0 5 (lpn F_Md_lays n (1, v0R, v1J, v3I, 0, σ)) 3 [(0, .ref v0R), (1, .long v1J), (3, .int v3I)] [] σ) ∧
  (∀ (v0R : Nat) (v1J : Int64) (v3I : Int32) (v4I : Int32) (σ : AM), VX (QM eV G args s below z0 u0) G p l e s m args below meth c 0 z0 u0 5 (lpn F_Md_lays n (2, v0R, v1J, v3I, v4I, σ)) 38 [(0, .ref v0R), (1, .long v1J), (3, .int v3I), (4, .int v4I)] [] σ) ∧
  (∀ (v0R : Nat) (v1J : Int64) (v3I : Int32) (σ : AM), VX (QM eV G args s below z0 u0) G p l e s m args below meth c 0 z0 u0 5 (lpn F_Md_lays n (3, v0R, v1J, v3I, 0, σ)) 69 [(0, .ref v0R), (1, .long v1J), (3, .int v3I)] [] σ)
set_option maxRecDepth 20000 in
theorem s_Md_lays_0 {G : GX} {p : Program} {l : Launch} {e : Env} {s : State} {m : MethodId} {args : Array Value} {below : List Frame} {meth : Method} {c : Code} {z0 u0 n : Nat} (C : Cx G p s m args meth c prog_14_method_3_code 5 "BellPlateModel" ((none))) (IH : I_Md_lays G p l e s m args below meth c z0 u0 n) (v0R : Nat) (v1J : Int64) (σ : AM) : VX (QM eV G args s below z0 u0) G p l e s m args below meth c 0 z0 u0 5 (lpK (lpn F_Md_lays n) (T_Md_lays_0 v0R v1J σ)) 0 [(0, .ref v0R), (1, .long v1J)] [] σ := by
  unfold T_Md_lays_0
  refine x_bipush (v := (56 : Int32)) C d_Md_lays_0 (by decide) ?_
  refine x_istore_n (lv' := [(3, .int (56 : Int32)), (0, .ref v0R), (1, .long v1J)]) C d_Md_lays_2 (by decide) rfl rfl ?_
  refine x_lv [1, 2, 0] rfl ?_
  exact IH.2.1 v0R v1J ((56 : Int32)) (σ)
set_option maxRecDepth 20000 in
theorem s_Md_lays_1 {G : GX} {p : Program} {l : Launch} {e : Env} {s : State} {m : MethodId} {args : Array Value} {below : List Frame} {meth : Method} {c : Code} {z0 u0 n : Nat} (C : Cx G p s m args meth c prog_14_method_3_code 5 "BellPlateModel" ((none))) (IH : I_Md_lays G p l e s m args below meth c z0 u0 n) (v0R : Nat) (v1J : Int64) (v3I : Int32) (σ : AM) : VX (QM eV G args s below z0 u0) G p l e s m args below meth c 0 z0 u0 5 (lpK (lpn F_Md_lays n) (T_Md_lays_1 v0R v1J v3I σ)) 3 [(0, .ref v0R), (1, .long v1J), (3, .int v3I)] [] σ := by
  unfold T_Md_lays_1
  refine x_iload_n C d_Md_lays_3 2 rfl ?_
  refine x_if_lt (tgt := 75) C d_Md_lays_4 (by decide) (fun _ => ?_) (fun _ => ?_)
  · exact x_vret C d_Md_lays_75
  · refine x_lload_n C d_Md_lays_7 1 rfl ?_
    refine x_iload_n C d_Md_lays_8 2 rfl ?_
    refine x_lshr C d_Md_lays_9 ?_
    refine x_l2i C d_Md_lays_10 ?_
    refine x_sipush (v := (255 : Int32)) C d_Md_lays_11 (by decide) ?_
    refine x_iand C d_Md_lays_14 ?_
    refine x_letI (fun x1 _ => ?_)
    refine x_istore (lv' := [(4, .int x1), (0, .ref v0R), (1, .long v1J), (3, .int v3I)]) C d_Md_lays_15 (by decide) rfl ?_
    refine x_iload C d_Md_lays_17 0 rfl ?_
    refine x_bipush (v := (10 : Int32)) C d_Md_lays_19 (by decide) ?_
    refine x_icmp_eq (tgt := 38) C d_Md_lays_21 (by decide) (fun _ => ?_) (fun _ => ?_)
    · refine x_lv [1, 2, 3, 0] rfl ?_
      exact IH.2.2.1 v0R v1J v3I x1 (σ)
    · refine x_iload C d_Md_lays_24 0 rfl ?_
      refine x_bipush (v := (32 : Int32)) C d_Md_lays_26 (by decide) ?_
      refine x_icmp_lt (tgt := 69) C d_Md_lays_28 (by decide) (fun _ => ?_) (fun _ => ?_)
      · refine x_lv [1, 2, 3] rfl ?_
        exact IH.2.2.2 v0R v1J v3I (σ)
      · refine x_iload C d_Md_lays_31 0 rfl ?_
        refine x_bipush (v := (126 : Int32)) C d_Md_lays_33 (by decide) ?_
        refine x_icmp_gt (tgt := 69) C d_Md_lays_35 (by decide) (fun _ => ?_) (fun _ => ?_)
        · refine x_lv [1, 2, 3] rfl ?_
          exact IH.2.2.2 v0R v1J v3I (σ)
        · refine x_lv [1, 2, 3, 0] rfl ?_
          exact IH.2.2.1 v0R v1J v3I x1 (σ)
set_option maxRecDepth 20000 in
theorem s_Md_lays_2 {G : GX} {p : Program} {l : Launch} {e : Env} {s : State} {m : MethodId} {args : Array Value} {below : List Frame} {meth : Method} {c : Code} {z0 u0 n : Nat} (C : Cx G p s m args meth c prog_14_method_3_code 5 "BellPlateModel" ((none))) (IH : I_Md_lays G p l e s m args below meth c z0 u0 n) (v0R : Nat) (v1J : Int64) (v3I : Int32) (v4I : Int32) (σ : AM) : VX (QM eV G args s below z0 u0) G p l e s m args below meth c 0 z0 u0 5 (lpK (lpn F_Md_lays n) (T_Md_lays_2 v0R v1J v3I v4I σ)) 38 [(0, .ref v0R), (1, .long v1J), (3, .int v3I), (4, .int v4I)] [] σ := by
  unfold T_Md_lays_2
  refine x_aload_n C d_Md_lays_38 0 rfl ?_
  refine x_gd (fun h1 => ?_)
  refine x_getI (k := 2) C (okO_iff.mp h1) rfl j11_ok (by decide) rfl w1854 d_Md_lays_39 ?_
  refine x_sipush (v := (1000 : Int32)) C d_Md_lays_42 (by decide) ?_
  refine x_icmp_ge (tgt := 69) C d_Md_lays_45 (by decide) (fun _ => ?_) (fun _ => ?_)
  · refine x_aload_n C d_Md_lays_48 0 rfl ?_
    refine x_gd (fun h2 => ?_)
    refine x_getR (k := 1) (kv := 101) C (okO_iff.mp h1) rfl j11_ok (by decide) rfl (okO_iff.mp h2) (by decide) w1853 d_Md_lays_49 ?_
    refine x_aload_n C d_Md_lays_52 0 rfl ?_
    refine x_getI (k := 2) C (okO_iff.mp h1) rfl j11_ok (by decide) rfl w1854 d_Md_lays_53 ?_
    refine x_iload C d_Md_lays_56 3 rfl ?_
    refine x_gd (fun h3 => ?_)
    refine x_astI C (okO_iff.mp h2) (inB_iff.mp h3) d_Md_lays_58 ?_
    refine x_letS (fun σ4 e5 => ?_)
    refine x_aload_n C d_Md_lays_59 0 rfl ?_
    refine x_dup C d_Md_lays_60 rfl ?_
    refine x_getI (k := 2) C (by first | exact (okO_iff.mp h1) | (rw [e5]; exact (okO_iff.mp h1))) rfl j11_ok (by decide) rfl w1854 d_Md_lays_61 ?_
    refine x_iconst (v := (1 : Int32)) C d_Md_lays_64 (by decide) ?_
    refine x_iadd C d_Md_lays_65 ?_
    refine x_putI (k := 2) C (by first | exact (okO_iff.mp h1) | (rw [e5]; exact (okO_iff.mp h1))) rfl j11_ok y11_ok n11_ok (by decide) rfl rfl rfl rfl w1854 d_Md_lays_66 ?_
    refine x_letS (fun σ6 e7 => ?_)
    refine x_lv [0, 1, 2] rfl ?_
    exact IH.2.2.2 v0R v1J v3I (σ6)
  · refine x_lv [0, 1, 2] rfl ?_
    exact IH.2.2.2 v0R v1J v3I (σ)
set_option maxRecDepth 20000 in
theorem s_Md_lays_3 {G : GX} {p : Program} {l : Launch} {e : Env} {s : State} {m : MethodId} {args : Array Value} {below : List Frame} {meth : Method} {c : Code} {z0 u0 n : Nat} (C : Cx G p s m args meth c prog_14_method_3_code 5 "BellPlateModel" ((none))) (IH : I_Md_lays G p l e s m args below meth c z0 u0 n) (v0R : Nat) (v1J : Int64) (v3I : Int32) (σ : AM) : VX (QM eV G args s below z0 u0) G p l e s m args below meth c 0 z0 u0 5 (lpK (lpn F_Md_lays n) (T_Md_lays_3 v0R v1J v3I σ)) 69 [(0, .ref v0R), (1, .long v1J), (3, .int v3I)] [] σ := by
  unfold T_Md_lays_3
  refine x_iinc (v := v3I + ((-8) : Int32)) (lv' := [(3, .int (v3I + ((-8) : Int32))), (0, .ref v0R), (1, .long v1J)]) C d_Md_lays_69 2 rfl rfl (by decide) rfl ?_
  refine x_goto (tgt := 3) C d_Md_lays_72 (by decide) ?_
  refine x_lv [1, 2, 0] rfl ?_
  exact IH.2.1 v0R v1J (v3I + ((-8) : Int32)) (σ)
theorem i_Md_lays {G : GX} {p : Program} {l : Launch} {e : Env} {s : State} {m : MethodId} {args : Array Value} {below : List Frame} {meth : Method} {c : Code} {z0 u0 : Nat} (C : Cx G p s m args meth c prog_14_method_3_code 5 "BellPlateModel" ((none))) (n : Nat) : I_Md_lays G p l e s m args below meth c z0 u0 n := by
  induction n with
  | zero => exact ⟨fun _ _ _ => x_none, fun _ _ _ _ => x_none, fun _ _ _ _ _ => x_none, fun _ _ _ _ => x_none⟩
  | succ n IH => exact ⟨fun v0R v1J σ => s_Md_lays_0 C IH v0R v1J σ, fun v0R v1J v3I σ => s_Md_lays_1 C IH v0R v1J v3I σ, fun v0R v1J v3I v4I σ => s_Md_lays_2 C IH v0R v1J v3I v4I σ, fun v0R v1J v3I σ => s_Md_lays_3 C IH v0R v1J v3I σ⟩
theorem c_Md_lays (G : GX) (l : Launch) (v0R : Nat) (v1J : Int64) (σ : AM) : CT eV G l 0 y_Md_lays prog_14_method_3_code 5 (none) [.ref v0R, .long v1J] σ (M_Md_lays v0R v1J σ) := by
  refine ct_of (by decide +kernel) (Nat.le_of_ble_eq_true rfl) (fun p e s m args below meth c C hin => ?_)
  refine x_lve (lv' := [(0, .ref v0R), (1, .long v1J)]) rfl ?_
  intro r σ' h
  obtain ⟨n, hn⟩ := (lp_iff _ _ _).mp h
  exact (i_Md_lays C n).1 v0R v1J σ r σ' hn
/-! BellPlateModel.feed(JJJ)I -/
abbrev y_Md_feed : MethodName := ⟨"BellPlateModel", "feed", "(JJJ)I"⟩
theorem k_Md_feed : y_Md_feed.cls ≠ "java/lang/invoke/MethodHandle" ∧ y_Md_feed.cls ≠ "java/lang/invoke/VarHandle" ∧ (parseMethodDescriptor y_Md_feed.desc).map (fun d => d.parameters.length) = some 3 := by decide +kernel
theorem d_Md_feed_0 : decode prog_14_method_2_code 0 = .ok (.aload_n 0, 1) := by decide +kernel
theorem d_Md_feed_1 : decode prog_14_method_2_code 1 = .ok (.iconst 0, 1) := by decide +kernel
theorem d_Md_feed_2 : decode prog_14_method_2_code 2 = .ok (.putfield 1, 3) := by decide +kernel
theorem d_Md_feed_5 : decode prog_14_method_2_code 5 = .ok (.aload_n 0, 1) := by decide +kernel
theorem d_Md_feed_6 : decode prog_14_method_2_code 6 = .ok (.lload_n 1, 1) := by decide +kernel
theorem d_Md_feed_7 : decode prog_14_method_2_code 7 = .ok (.invokevirtual 7, 3) := by decide +kernel
theorem d_Md_feed_10 : decode prog_14_method_2_code 10 = .ok (.aload_n 0, 1) := by decide +kernel
theorem d_Md_feed_11 : decode prog_14_method_2_code 11 = .ok (.lload_n 3, 1) := by decide +kernel
theorem d_Md_feed_12 : decode prog_14_method_2_code 12 = .ok (.invokevirtual 7, 3) := by decide +kernel
theorem d_Md_feed_15 : decode prog_14_method_2_code 15 = .ok (.aload_n 0, 1) := by decide +kernel
theorem d_Md_feed_16 : decode prog_14_method_2_code 16 = .ok (.lload 5, 2) := by decide +kernel
theorem d_Md_feed_18 : decode prog_14_method_2_code 18 = .ok (.invokevirtual 7, 3) := by decide +kernel
theorem d_Md_feed_21 : decode prog_14_method_2_code 21 = .ok (.aload_n 0, 1) := by decide +kernel
theorem d_Md_feed_22 : decode prog_14_method_2_code 22 = .ok (.getfield 11, 3) := by decide +kernel
theorem d_Md_feed_25 : decode prog_14_method_2_code 25 = .ok (.ireturn, 1) := by decide +kernel
abbrev S_Md_feed : Type := Nat × Nat × Int64 × Int64 × Int64 × AM
noncomputable def T_Md_feed_0 (v0R : Nat) (v1J : Int64) (v3J : Int64) (v5J : Int64) (σ : AM) : S_Md_feed ⊕ Option (Int32 × AM) :=
  gdT (okO σ v0R 12) <| letT (sI σ v0R 0 (0 : Int32)) fun σ2 => bndT (M_Md_lays v0R v1J σ2) fun _ σ5 => gdT (okO σ5 v0R 12) <| bndT (M_Md_lays v0R v3J σ5) fun _ σ7 => gdT (okO σ7 v0R 12) <| bndT (M_Md_lays v0R v5J σ7) fun _ σ10 => gdT (okO σ10 v0R 12) <| .inr (some ((aI σ10 v0R 2), σ10))
noncomputable def F_Md_feed : S_Md_feed → S_Md_feed ⊕ Option (Int32 × AM) := fun s => match s.1 with
  | _ => T_Md_feed_0 (s.2.1) (s.2.2.1) (s.2.2.2.1) (s.2.2.2.2.1) (s.2.2.2.2.2)
noncomputable def L_Md_feed_0 (v0R : Nat) (v1J : Int64) (v3J : Int64) (v5J : Int64) (σ : AM) : Option (Int32 × AM) := lp F_Md_feed (0, v0R, v1J, v3J, v5J, σ)
set_option maxRecDepth 20000 in
theorem E_Md_feed_0 (v0R : Nat) (v1J : Int64) (v3J : Int64) (v5J : Int64) (σ : AM) : L_Md_feed_0 v0R v1J v3J v5J σ = (gd (okO σ v0R 12) <| letT (sI σ v0R 0 (0 : Int32)) fun σ2 => bnd (M_Md_lays v0R v1J σ2) fun _ σ5 => gd (okO σ5 v0R 12) <| bnd (M_Md_lays v0R v3J σ5) fun _ σ7 => gd (okO σ7 v0R 12) <| bnd (M_Md_lays v0R v5J σ7) fun _ σ10 => gd (okO σ10 v0R 12) <| (some ((aI σ10 v0R 2), σ10))) := by
  unfold L_Md_feed_0
  rw [lp_eq]
  show lpK (lp F_Md_feed) (T_Md_feed_0 v0R v1J v3J v5J σ) = _
  unfold T_Md_feed_0
  simp only [lpK_ite, lq_inl, lq_inr, lpK_bnd, lpK_gd, lq_let]
  try rfl
noncomputable def M_Md_feed (v0R : Nat) (v1J : Int64) (v3J : Int64) (v5J : Int64) (σ : AM) : Option (Int32 × AM) := mw σ (L_Md_feed_0 v0R v1J v3J v5J σ)
def I_Md_feed (G : GX) (p : Program) (l : Launch) (e : Env) (s : State) (m : MethodId) (args : Array Value) (below : List Frame) (meth : Method) (c : Code) (z0 u0 n : Nat) : Prop :=
  (∀ (v0R : Nat) (v1J : Int64) (v3J : Int64) (v5J : Int64) (σ : AM), VX (QM eI G args s below z0 u0) G p l e s m args below meth c 1 z0 u0 7 (lpn F_Md_feed n (0, v0R, v1J, v3J, v5J, σ)) 0 [(0, .ref v0R), (1, .long v1J), (3, .long v3J), (5, .long v5J)] [] σ)
set_option maxRecDepth 20000 in
theorem s_Md_feed_0 {G : GX} {p : Program} {l : Launch} {e : Env} {s : State} {m : MethodId} {args : Array Value} {below : List Frame} {meth : Method} {c : Code} {z0 u0 n : Nat} (C : Cx G p s m args meth c prog_14_method_2_code 7 "BellPlateModel" ((some FieldType.int))) (IH : I_Md_feed G p l e s m args below meth c z0 u0 n) (v0R : Nat) (v1J : Int64) (v3J : Int64) (v5J : Int64) (σ : AM) : VX (QM eI G args s below z0 u0) G p l e s m args below meth c 1 z0 u0 7 (lpK (lpn F_Md_feed n) (T_Md_feed_0 v0R v1J v3J v5J σ)) 0 [(0, .ref v0R), (1, .long v1J), (3, .long v3J), (5, .long v5J)] [] σ := by
  unfold T_Md_feed_0
  refine x_aload_n C d_Md_feed_0 0 rfl ?_
  refine x_iconst (v := (0 : Int32)) C d_Md_feed_1 (by decide) ?_
  refine x_gd (fun h1 => ?_)
  refine x_putI (k := 0) C (okO_iff.mp h1) rfl j11_ok y11_ok n11_ok (by decide) rfl rfl rfl rfl w1852 d_Md_feed_2 ?_
  refine x_letS (fun σ2 e3 => ?_)
  refine x_aload_n C d_Md_feed_5 0 rfl ?_
  refine x_lload_n C d_Md_feed_6 1 rfl ?_
  refine x_callVV (As := [.long v1J]) C (c_Md_lays G l v0R v1J σ2) (by first | exact (okO_iff.mp h1) | (rw [e3]; exact (okO_iff.mp h1))) rfl w1793 w54 w1791 w1795 w134 k_Md_lays rfl (by decide) (by decide) rfl (Nat.le_of_ble_eq_true rfl) d_Md_feed_7 (fun r4 σ5 => ?_)
  refine x_aload_n C d_Md_feed_10 0 rfl ?_
  refine x_lload_n C d_Md_feed_11 2 rfl ?_
  refine x_gd (fun h8 => ?_)
  refine x_callVV (As := [.long v3J]) C (c_Md_lays G l v0R v3J σ5) (okO_iff.mp h8) rfl w1793 w54 w1791 w1795 w134 k_Md_lays rfl (by decide) (by decide) rfl (Nat.le_of_ble_eq_true rfl) d_Md_feed_12 (fun r6 σ7 => ?_)
  refine x_aload_n C d_Md_feed_15 0 rfl ?_
  refine x_lload C d_Md_feed_16 3 rfl ?_
  refine x_gd (fun h11 => ?_)
  refine x_callVV (As := [.long v5J]) C (c_Md_lays G l v0R v5J σ7) (okO_iff.mp h11) rfl w1793 w54 w1791 w1795 w134 k_Md_lays rfl (by decide) (by decide) rfl (Nat.le_of_ble_eq_true rfl) d_Md_feed_18 (fun r9 σ10 => ?_)
  refine x_aload_n C d_Md_feed_21 0 rfl ?_
  refine x_gd (fun h12 => ?_)
  refine x_getI (k := 2) C (okO_iff.mp h12) rfl j11_ok (by decide) rfl w1854 d_Md_feed_22 ?_
  exact x_iret C d_Md_feed_25
theorem i_Md_feed {G : GX} {p : Program} {l : Launch} {e : Env} {s : State} {m : MethodId} {args : Array Value} {below : List Frame} {meth : Method} {c : Code} {z0 u0 : Nat} (C : Cx G p s m args meth c prog_14_method_2_code 7 "BellPlateModel" ((some FieldType.int))) (n : Nat) : I_Md_feed G p l e s m args below meth c z0 u0 n := by
  induction n with
  | zero => exact fun _ _ _ _ _ => x_none
  | succ n IH => exact fun v0R v1J v3J v5J σ => s_Md_feed_0 C IH v0R v1J v3J v5J σ
theorem c_Md_feed (G : GX) (l : Launch) (v0R : Nat) (v1J : Int64) (v3J : Int64) (v5J : Int64) (σ : AM) : CT eI G l 1 y_Md_feed prog_14_method_2_code 7 ((some FieldType.int)) [.ref v0R, .long v1J, .long v3J, .long v5J] σ (M_Md_feed v0R v1J v3J v5J σ) := by
  refine ct_of (by decide +kernel) (Nat.le_of_ble_eq_true rfl) (fun p e s m args below meth c C hin => ?_)
  refine x_lve (lv' := [(0, .ref v0R), (1, .long v1J), (3, .long v3J), (5, .long v5J)]) rfl ?_
  intro r σ' h
  obtain ⟨n, hn⟩ := (lp_iff _ _ _).mp h
  exact (i_Md_feed C n) v0R v1J v3J v5J σ r σ' hn
/-! BellPlateModel.sets()I -/
abbrev y_Md_sets : MethodName := ⟨"BellPlateModel", "sets", "()I"⟩
theorem k_Md_sets : y_Md_sets.cls ≠ "java/lang/invoke/MethodHandle" ∧ y_Md_sets.cls ≠ "java/lang/invoke/VarHandle" ∧ (parseMethodDescriptor y_Md_sets.desc).map (fun d => d.parameters.length) = some 0 := by decide +kernel
theorem d_Md_sets_0 : decode prog_14_method_33_code 0 = .ok (.iconst 1, 1) := by decide +kernel
theorem d_Md_sets_1 : decode prog_14_method_33_code 1 = .ok (.aload_n 0, 1) := by decide +kernel
theorem d_Md_sets_2 : decode prog_14_method_33_code 2 = .ok (.getfield 239, 3) := by decide +kernel
theorem d_Md_sets_5 : decode prog_14_method_33_code 5 = .ok (.ishl, 1) := by decide +kernel
theorem d_Md_sets_6 : decode prog_14_method_33_code 6 = .ok (.ireturn, 1) := by decide +kernel
abbrev S_Md_sets : Type := Nat × Nat × AM
noncomputable def T_Md_sets_0 (v0R : Nat) (σ : AM) : S_Md_sets ⊕ Option (Int32 × AM) :=
  gdT (okO σ v0R 12) <| .inr (some (((1 : Int32) <<< ((aI σ v0R 10) &&& 31)), σ))
noncomputable def F_Md_sets : S_Md_sets → S_Md_sets ⊕ Option (Int32 × AM) := fun s => match s.1 with
  | _ => T_Md_sets_0 (s.2.1) (s.2.2)
noncomputable def L_Md_sets_0 (v0R : Nat) (σ : AM) : Option (Int32 × AM) := lp F_Md_sets (0, v0R, σ)
set_option maxRecDepth 20000 in
theorem E_Md_sets_0 (v0R : Nat) (σ : AM) : L_Md_sets_0 v0R σ = (gd (okO σ v0R 12) <| (some (((1 : Int32) <<< ((aI σ v0R 10) &&& 31)), σ))) := by
  unfold L_Md_sets_0
  rw [lp_eq]
  show lpK (lp F_Md_sets) (T_Md_sets_0 v0R σ) = _
  unfold T_Md_sets_0
  simp only [lpK_ite, lq_inl, lq_inr, lpK_bnd, lpK_gd, lq_let]
  try rfl
noncomputable def M_Md_sets (v0R : Nat) (σ : AM) : Option (Int32 × AM) := mw σ (L_Md_sets_0 v0R σ)
def I_Md_sets (G : GX) (p : Program) (l : Launch) (e : Env) (s : State) (m : MethodId) (args : Array Value) (below : List Frame) (meth : Method) (c : Code) (z0 u0 n : Nat) : Prop :=
  (∀ (v0R : Nat) (σ : AM), VX (QM eI G args s below z0 u0) G p l e s m args below meth c 0 z0 u0 1 (lpn F_Md_sets n (0, v0R, σ)) 0 [(0, .ref v0R)] [] σ)
set_option maxRecDepth 20000 in
theorem s_Md_sets_0 {G : GX} {p : Program} {l : Launch} {e : Env} {s : State} {m : MethodId} {args : Array Value} {below : List Frame} {meth : Method} {c : Code} {z0 u0 n : Nat} (C : Cx G p s m args meth c prog_14_method_33_code 1 "BellPlateModel" ((some FieldType.int))) (IH : I_Md_sets G p l e s m args below meth c z0 u0 n) (v0R : Nat) (σ : AM) : VX (QM eI G args s below z0 u0) G p l e s m args below meth c 0 z0 u0 1 (lpK (lpn F_Md_sets n) (T_Md_sets_0 v0R σ)) 0 [(0, .ref v0R)] [] σ := by
  unfold T_Md_sets_0
  refine x_iconst (v := (1 : Int32)) C d_Md_sets_0 (by decide) ?_
  refine x_aload_n C d_Md_sets_1 0 rfl ?_
  refine x_gd (fun h1 => ?_)
  refine x_getI (k := 10) C (okO_iff.mp h1) rfl j11_ok (by decide) rfl w1862 d_Md_sets_2 ?_
  refine x_ishl C d_Md_sets_5 ?_
  exact x_iret C d_Md_sets_6
theorem i_Md_sets {G : GX} {p : Program} {l : Launch} {e : Env} {s : State} {m : MethodId} {args : Array Value} {below : List Frame} {meth : Method} {c : Code} {z0 u0 : Nat} (C : Cx G p s m args meth c prog_14_method_33_code 1 "BellPlateModel" ((some FieldType.int))) (n : Nat) : I_Md_sets G p l e s m args below meth c z0 u0 n := by
  induction n with
  | zero => exact fun _ _ => x_none
  | succ n IH => exact fun v0R σ => s_Md_sets_0 C IH v0R σ
theorem c_Md_sets (G : GX) (l : Launch) (v0R : Nat) (σ : AM) : CT eI G l 0 y_Md_sets prog_14_method_33_code 1 ((some FieldType.int)) [.ref v0R] σ (M_Md_sets v0R σ) := by
  refine ct_of (by decide +kernel) (Nat.le_of_ble_eq_true rfl) (fun p e s m args below meth c C hin => ?_)
  refine x_lve (lv' := [(0, .ref v0R)]) rfl ?_
  intro r σ' h
  obtain ⟨n, hn⟩ := (lp_iff _ _ _).mp h
  exact (i_Md_sets C n) v0R σ r σ' hn
/-! BellPlateModel.weighs()V -/
abbrev y_Md_weighs : MethodName := ⟨"BellPlateModel", "weighs", "()V"⟩
theorem k_Md_weighs : y_Md_weighs.cls ≠ "java/lang/invoke/MethodHandle" ∧ y_Md_weighs.cls ≠ "java/lang/invoke/VarHandle" ∧ (parseMethodDescriptor y_Md_weighs.desc).map (fun d => d.parameters.length) = some 0 := by decide +kernel
theorem d_Md_weighs_0 : decode prog_14_method_35_code 0 = .ok (.aload_n 0, 1) := by decide +kernel
theorem d_Md_weighs_1 : decode prog_14_method_35_code 1 = .ok (.getfield 98, 3) := by decide +kernel
theorem d_Md_weighs_4 : decode prog_14_method_35_code 4 = .ok (.iconst 0, 1) := by decide +kernel
theorem d_Md_weighs_5 : decode prog_14_method_35_code 5 = .ok (.iconst 0, 1) := by decide +kernel
theorem d_Md_weighs_6 : decode prog_14_method_35_code 6 = .ok (.iastore, 1) := by decide +kernel
theorem d_Md_weighs_7 : decode prog_14_method_35_code 7 = .ok (.iconst 1, 1) := by decide +kernel
theorem d_Md_weighs_8 : decode prog_14_method_35_code 8 = .ok (.istore_n 1, 1) := by decide +kernel
theorem d_Md_weighs_9 : decode prog_14_method_35_code 9 = .ok (.iload_n 1, 1) := by decide +kernel
theorem d_Md_weighs_10 : decode prog_14_method_35_code 10 = .ok (.aload_n 0, 1) := by decide +kernel
theorem d_Md_weighs_11 : decode prog_14_method_35_code 11 = .ok (.invokevirtual 306, 3) := by decide +kernel
theorem d_Md_weighs_14 : decode prog_14_method_35_code 14 = .ok (.if_icmp .ge 50, 3) := by decide +kernel
theorem d_Md_weighs_17 : decode prog_14_method_35_code 17 = .ok (.iconst 0, 1) := by decide +kernel
theorem d_Md_weighs_18 : decode prog_14_method_35_code 18 = .ok (.istore_n 2, 1) := by decide +kernel
theorem d_Md_weighs_19 : decode prog_14_method_35_code 19 = .ok (.iload_n 1, 1) := by decide +kernel
theorem d_Md_weighs_20 : decode prog_14_method_35_code 20 = .ok (.iload_n 2, 1) := by decide +kernel
theorem d_Md_weighs_21 : decode prog_14_method_35_code 21 = .ok (.ishr, 1) := by decide +kernel
theorem d_Md_weighs_22 : decode prog_14_method_35_code 22 = .ok (.iconst 1, 1) := by decide +kernel
theorem d_Md_weighs_23 : decode prog_14_method_35_code 23 = .ok (.iand, 1) := by decide +kernel
theorem d_Md_weighs_24 : decode prog_14_method_35_code 24 = .ok (.ifCond .ne 9, 3) := by decide +kernel
theorem d_Md_weighs_27 : decode prog_14_method_35_code 27 = .ok (.iinc 2 1, 3) := by decide +kernel
theorem d_Md_weighs_30 : decode prog_14_method_35_code 30 = .ok (.goto (-11), 3) := by decide +kernel
theorem d_Md_weighs_33 : decode prog_14_method_35_code 33 = .ok (.aload_n 0, 1) := by decide +kernel
theorem d_Md_weighs_34 : decode prog_14_method_35_code 34 = .ok (.getfield 98, 3) := by decide +kernel
theorem d_Md_weighs_37 : decode prog_14_method_35_code 37 = .ok (.iload_n 1, 1) := by decide +kernel
theorem d_Md_weighs_38 : decode prog_14_method_35_code 38 = .ok (.aload_n 0, 1) := by decide +kernel
theorem d_Md_weighs_39 : decode prog_14_method_35_code 39 = .ok (.getfield 98, 3) := by decide +kernel
theorem d_Md_weighs_42 : decode prog_14_method_35_code 42 = .ok (.iload_n 1, 1) := by decide +kernel
theorem d_Md_weighs_43 : decode prog_14_method_35_code 43 = .ok (.iconst 1, 1) := by decide +kernel
theorem d_Md_weighs_44 : decode prog_14_method_35_code 44 = .ok (.iload_n 2, 1) := by decide +kernel
theorem d_Md_weighs_45 : decode prog_14_method_35_code 45 = .ok (.ishl, 1) := by decide +kernel
theorem d_Md_weighs_46 : decode prog_14_method_35_code 46 = .ok (.iconst (-1), 1) := by decide +kernel
theorem d_Md_weighs_47 : decode prog_14_method_35_code 47 = .ok (.ixor, 1) := by decide +kernel
theorem d_Md_weighs_48 : decode prog_14_method_35_code 48 = .ok (.iand, 1) := by decide +kernel
theorem d_Md_weighs_49 : decode prog_14_method_35_code 49 = .ok (.iaload, 1) := by decide +kernel
theorem d_Md_weighs_50 : decode prog_14_method_35_code 50 = .ok (.aload_n 0, 1) := by decide +kernel
theorem d_Md_weighs_51 : decode prog_14_method_35_code 51 = .ok (.getfield 95, 3) := by decide +kernel
theorem d_Md_weighs_54 : decode prog_14_method_35_code 54 = .ok (.iload_n 2, 1) := by decide +kernel
theorem d_Md_weighs_55 : decode prog_14_method_35_code 55 = .ok (.iaload, 1) := by decide +kernel
theorem d_Md_weighs_56 : decode prog_14_method_35_code 56 = .ok (.iadd, 1) := by decide +kernel
theorem d_Md_weighs_57 : decode prog_14_method_35_code 57 = .ok (.iastore, 1) := by decide +kernel
theorem d_Md_weighs_58 : decode prog_14_method_35_code 58 = .ok (.iinc 1 1, 3) := by decide +kernel
theorem d_Md_weighs_61 : decode prog_14_method_35_code 61 = .ok (.goto (-52), 3) := by decide +kernel
theorem d_Md_weighs_64 : decode prog_14_method_35_code 64 = .ok (.return_, 1) := by decide +kernel
abbrev S_Md_weighs : Type := Nat × Nat × Int32 × Int32 × AM
noncomputable def T_Md_weighs_0 (v0R : Nat) (σ : AM) : S_Md_weighs ⊕ Option (Unit × AM) :=
  gdT (okO σ v0R 12) <| gdT (okO σ (aR σ v0R 35) 101) <| gdT (inB (0 : Int32) (aN σ (aR σ v0R 35))) <| letT (sI σ (aR σ v0R 35) (0 : Int32).toNatClampNeg (0 : Int32)) fun σ4 => .inl (1, v0R, (1 : Int32), 0, σ4)
noncomputable def T_Md_weighs_1 (v0R : Nat) (v1I : Int32) (σ : AM) : S_Md_weighs ⊕ Option (Unit × AM) :=
  gdT (okO σ v0R 12) <| bndT (M_Md_sets v0R σ) fun r1 σ2 => if v1I < r1 then (.inl (2, v0R, v1I, (0 : Int32), σ2)) else (.inr (some ((), σ2)))
noncomputable def T_Md_weighs_2 (v0R : Nat) (v1I : Int32) (v2I : Int32) (σ : AM) : S_Md_weighs ⊕ Option (Unit × AM) :=
  if ((v1I >>> (v2I &&& 31)) &&& (1 : Int32)) = 0 then (.inl (2, v0R, v1I, v2I + (1 : Int32), σ)) else (gdT (okO σ v0R 12) <| gdT (okO σ (aR σ v0R 35) 101) <| gdT (inB (v1I &&& (((1 : Int32) <<< (v2I &&& 31)) ^^^ ((-1) : Int32))) (aN σ (aR σ v0R 35))) <| gdT (okO σ (aR σ v0R 34) 101) <| gdT (inB v2I (aN σ (aR σ v0R 34))) <| gdT (inB v1I (aN σ (aR σ v0R 35))) <| letT (sI σ (aR σ v0R 35) v1I.toNatClampNeg ((aI σ (aR σ v0R 35) (v1I &&& (((1 : Int32) <<< (v2I &&& 31)) ^^^ ((-1) : Int32))).toNatClampNeg) + (aI σ (aR σ v0R 34) v2I.toNatClampNeg))) fun σ7 => .inl (1, v0R, v1I + (1 : Int32), 0, σ7))
noncomputable def F_Md_weighs : S_Md_weighs → S_Md_weighs ⊕ Option (Unit × AM) := fun s => match s.1 with
  | 0 => T_Md_weighs_0 (s.2.1) (s.2.2.2.2)
  | 1 => T_Md_weighs_1 (s.2.1) (s.2.2.1) (s.2.2.2.2)
  | _ => T_Md_weighs_2 (s.2.1) (s.2.2.1) (s.2.2.2.1) (s.2.2.2.2)
noncomputable def L_Md_weighs_0 (v0R : Nat) (σ : AM) : Option (Unit × AM) := lp F_Md_weighs (0, v0R, 0, 0, σ)
noncomputable def L_Md_weighs_1 (v0R : Nat) (v1I : Int32) (σ : AM) : Option (Unit × AM) := lp F_Md_weighs (1, v0R, v1I, 0, σ)
noncomputable def L_Md_weighs_2 (v0R : Nat) (v1I : Int32) (v2I : Int32) (σ : AM) : Option (Unit × AM) := lp F_Md_weighs (2, v0R, v1I, v2I, σ)
set_option maxRecDepth 20000 in
theorem E_Md_weighs_0 (v0R : Nat) (σ : AM) : L_Md_weighs_0 v0R σ = (gd (okO σ v0R 12) <| gd (okO σ (aR σ v0R 35) 101) <| gd (inB (0 : Int32) (aN σ (aR σ v0R 35))) <| letT (sI σ (aR σ v0R 35) (0 : Int32).toNatClampNeg (0 : Int32)) fun σ4 => L_Md_weighs_1 v0R ((1 : Int32)) σ4) := by
  unfold L_Md_weighs_0
  rw [lp_eq]
  show lpK (lp F_Md_weighs) (T_Md_weighs_0 v0R σ) = _
  unfold T_Md_weighs_0
  simp only [lpK_ite, lq_inl, lq_inr, lpK_bnd, lpK_gd, lq_let]
  try rfl
set_option maxRecDepth 20000 in
theorem E_Md_weighs_1 (v0R : Nat) (v1I : Int32) (σ : AM) : L_Md_weighs_1 v0R v1I σ = (gd (okO σ v0R 12) <| bnd (M_Md_sets v0R σ) fun r1 σ2 => if v1I < r1 then (L_Md_weighs_2 v0R v1I ((0 : Int32)) σ2) else ((some ((), σ2)))) := by
  unfold L_Md_weighs_1
  rw [lp_eq]
  show lpK (lp F_Md_weighs) (T_Md_weighs_1 v0R v1I σ) = _
  unfold T_Md_weighs_1
  simp only [lpK_ite, lq_inl, lq_inr, lpK_bnd, lpK_gd, lq_let]
  try rfl
set_option maxRecDepth 20000 in
theorem E_Md_weighs_2 (v0R : Nat) (v1I : Int32) (v2I : Int32) (σ : AM) : L_Md_weighs_2 v0R v1I v2I σ = (if ((v1I >>> (v2I &&& 31)) &&& (1 : Int32)) = 0 then (L_Md_weighs_2 v0R v1I (v2I + (1 : Int32)) σ) else (gd (okO σ v0R 12) <| gd (okO σ (aR σ v0R 35) 101) <| gd (inB (v1I &&& (((1 : Int32) <<< (v2I &&& 31)) ^^^ ((-1) : Int32))) (aN σ (aR σ v0R 35))) <| gd (okO σ (aR σ v0R 34) 101) <| gd (inB v2I (aN σ (aR σ v0R 34))) <| gd (inB v1I (aN σ (aR σ v0R 35))) <| letT (sI σ (aR σ v0R 35) v1I.toNatClampNeg ((aI σ (aR σ v0R 35) (v1I &&& (((1 : Int32) <<< (v2I &&& 31)) ^^^ ((-1) : Int32))).toNatClampNeg) + (aI σ (aR σ v0R 34) v2I.toNatClampNeg))) fun σ7 => L_Md_weighs_1 v0R (v1I + (1 : Int32)) σ7)) := by
  unfold L_Md_weighs_2
  rw [lp_eq]
  show lpK (lp F_Md_weighs) (T_Md_weighs_2 v0R v1I v2I σ) = _
  unfold T_Md_weighs_2
  simp only [lpK_ite, lq_inl, lq_inr, lpK_bnd, lpK_gd, lq_let]
  try rfl
noncomputable def M_Md_weighs (v0R : Nat) (σ : AM) : Option (Unit × AM) := mw σ (L_Md_weighs_0 v0R σ)
def I_Md_weighs (G : GX) (p : Program) (l : Launch) (e : Env) (s : State) (m : MethodId) (args : Array Value) (below : List Frame) (meth : Method) (c : Code) (z0 u0 n : Nat) : Prop :=
  (∀ (v0R : Nat) (σ : AM), VX (QM eV G args s below z0 u0) G p l e s m args below meth c 1 z0 u0 3 (lpn F_Md_weighs n (0, v0R, 0, 0, σ)) 0 [(0, .ref v0R)] [] σ) ∧
  (∀ (v0R : Nat) (v1I : Int32) (σ : AM), VX (QM eV G args s below z0 u0) G p l e s m args below meth c 1 z0 u0 3 (lpn F_Md_weighs n (1, v0R, v1I, 0, σ)) 9 [(0, .ref v0R), (1, .int v1I)] [] σ) ∧
  (∀ (v0R : Nat) (v1I : Int32) (v2I : Int32) (σ : AM), VX (QM eV G args s below z0 u0) G p l e s m args below meth c 1 z0 u0 3 (lpn F_Md_weighs n (2, v0R, v1I, v2I, σ)) 19 [(0, .ref v0R), (1, .int v1I), (2, .int v2I)] [] σ)
set_option maxRecDepth 20000 in
theorem s_Md_weighs_0 {G : GX} {p : Program} {l : Launch} {e : Env} {s : State} {m : MethodId} {args : Array Value} {below : List Frame} {meth : Method} {c : Code} {z0 u0 n : Nat} (C : Cx G p s m args meth c prog_14_method_35_code 3 "BellPlateModel" ((none))) (IH : I_Md_weighs G p l e s m args below meth c z0 u0 n) (v0R : Nat) (σ : AM) : VX (QM eV G args s below z0 u0) G p l e s m args below meth c 1 z0 u0 3 (lpK (lpn F_Md_weighs n) (T_Md_weighs_0 v0R σ)) 0 [(0, .ref v0R)] [] σ := by
  unfold T_Md_weighs_0
  refine x_aload_n C d_Md_weighs_0 0 rfl ?_
  refine x_gd (fun h1 => ?_)
  refine x_gd (fun h2 => ?_)
  refine x_getR (k := 35) (kv := 101) C (okO_iff.mp h1) rfl j11_ok (by decide) rfl (okO_iff.mp h2) (by decide) w1887 d_Md_weighs_1 ?_
  refine x_iconst (v := (0 : Int32)) C d_Md_weighs_4 (by decide) ?_
  refine x_iconst (v := (0 : Int32)) C d_Md_weighs_5 (by decide) ?_
  refine x_gd (fun h3 => ?_)
  refine x_astI C (okO_iff.mp h2) (inB_iff.mp h3) d_Md_weighs_6 ?_
  refine x_letS (fun σ4 e5 => ?_)
  refine x_iconst (v := (1 : Int32)) C d_Md_weighs_7 (by decide) ?_
  refine x_istore_n (lv' := [(1, .int (1 : Int32)), (0, .ref v0R)]) C d_Md_weighs_8 (by decide) rfl rfl ?_
  refine x_lv [1, 0] rfl ?_
  exact IH.2.1 v0R ((1 : Int32)) (σ4)
set_option maxRecDepth 20000 in
theorem s_Md_weighs_1 {G : GX} {p : Program} {l : Launch} {e : Env} {s : State} {m : MethodId} {args : Array Value} {below : List Frame} {meth : Method} {c : Code} {z0 u0 n : Nat} (C : Cx G p s m args meth c prog_14_method_35_code 3 "BellPlateModel" ((none))) (IH : I_Md_weighs G p l e s m args below meth c z0 u0 n) (v0R : Nat) (v1I : Int32) (σ : AM) : VX (QM eV G args s below z0 u0) G p l e s m args below meth c 1 z0 u0 3 (lpK (lpn F_Md_weighs n) (T_Md_weighs_1 v0R v1I σ)) 9 [(0, .ref v0R), (1, .int v1I)] [] σ := by
  unfold T_Md_weighs_1
  refine x_iload_n C d_Md_weighs_9 1 rfl ?_
  refine x_aload_n C d_Md_weighs_10 0 rfl ?_
  refine x_gd (fun h3 => ?_)
  refine x_callVI (As := []) C (c_Md_sets G l v0R  σ) (okO_iff.mp h3) rfl w1826 w58 w1824 w1827 w134 k_Md_sets rfl (by decide) (by decide) rfl (Nat.le_of_ble_eq_true rfl) d_Md_weighs_11 (fun r1 σ2 => ?_)
  refine x_icmp_ge (tgt := 64) C d_Md_weighs_14 (by decide) (fun _ => ?_) (fun _ => ?_)
  · refine x_iconst (v := (0 : Int32)) C d_Md_weighs_17 (by decide) ?_
    refine x_istore_n (lv' := [(2, .int (0 : Int32)), (0, .ref v0R), (1, .int v1I)]) C d_Md_weighs_18 (by decide) rfl rfl ?_
    refine x_lv [1, 2, 0] rfl ?_
    exact IH.2.2 v0R v1I ((0 : Int32)) (σ2)
  · exact x_vret C d_Md_weighs_64
set_option maxRecDepth 20000 in
theorem s_Md_weighs_2 {G : GX} {p : Program} {l : Launch} {e : Env} {s : State} {m : MethodId} {args : Array Value} {below : List Frame} {meth : Method} {c : Code} {z0 u0 n : Nat} (C : Cx G p s m args meth c prog_14_method_35_code 3 "BellPlateModel" ((none))) (IH : I_Md_weighs G p l e s m args below meth c z0 u0 n) (v0R : Nat) (v1I : Int32) (v2I : Int32) (σ : AM) : VX (QM eV G args s below z0 u0) G p l e s m args below meth c 1 z0 u0 3 (lpK (lpn F_Md_weighs n) (T_Md_weighs_2 v0R v1I v2I σ)) 19 [(0, .ref v0R), (1, .int v1I), (2, .int v2I)] [] σ := by
  unfold T_Md_weighs_2
  refine x_iload_n C d_Md_weighs_19 1 rfl ?_
  refine x_iload_n C d_Md_weighs_20 2 rfl ?_
  refine x_ishr C d_Md_weighs_21 ?_
  refine x_iconst (v := (1 : Int32)) C d_Md_weighs_22 (by decide) ?_
  refine x_iand C d_Md_weighs_23 ?_
  refine x_if_ne (tgt := 33) C d_Md_weighs_24 (by decide) (fun _ => ?_) (fun _ => ?_)
  · refine x_iinc (v := v2I + (1 : Int32)) (lv' := [(2, .int (v2I + (1 : Int32))), (0, .ref v0R), (1, .int v1I)]) C d_Md_weighs_27 2 rfl rfl (by decide) rfl ?_
    refine x_goto (tgt := 19) C d_Md_weighs_30 (by decide) ?_
    refine x_lv [1, 2, 0] rfl ?_
    exact IH.2.2 v0R v1I (v2I + (1 : Int32)) (σ)
  · refine x_aload_n C d_Md_weighs_33 0 rfl ?_
    refine x_gd (fun h1 => ?_)
    refine x_gd (fun h2 => ?_)
    refine x_getR (k := 35) (kv := 101) C (okO_iff.mp h1) rfl j11_ok (by decide) rfl (okO_iff.mp h2) (by decide) w1887 d_Md_weighs_34 ?_
    refine x_iload_n C d_Md_weighs_37 1 rfl ?_
    refine x_aload_n C d_Md_weighs_38 0 rfl ?_
    refine x_getR (k := 35) (kv := 101) C (okO_iff.mp h1) rfl j11_ok (by decide) rfl (okO_iff.mp h2) (by decide) w1887 d_Md_weighs_39 ?_
    refine x_iload_n C d_Md_weighs_42 1 rfl ?_
    refine x_iconst (v := (1 : Int32)) C d_Md_weighs_43 (by decide) ?_
    refine x_iload_n C d_Md_weighs_44 2 rfl ?_
    refine x_ishl C d_Md_weighs_45 ?_
    refine x_iconst (v := ((-1) : Int32)) C d_Md_weighs_46 (by decide) ?_
    refine x_ixor C d_Md_weighs_47 ?_
    refine x_iand C d_Md_weighs_48 ?_
    refine x_gd (fun h3 => ?_)
    refine x_aldI C (okO_iff.mp h2) (inB_iff.mp h3) d_Md_weighs_49 ?_
    refine x_aload_n C d_Md_weighs_50 0 rfl ?_
    refine x_gd (fun h4 => ?_)
    refine x_getR (k := 34) (kv := 101) C (okO_iff.mp h1) rfl j11_ok (by decide) rfl (okO_iff.mp h4) (by decide) w1886 d_Md_weighs_51 ?_
    refine x_iload_n C d_Md_weighs_54 2 rfl ?_
    refine x_gd (fun h5 => ?_)
    refine x_aldI C (okO_iff.mp h4) (inB_iff.mp h5) d_Md_weighs_55 ?_
    refine x_iadd C d_Md_weighs_56 ?_
    refine x_gd (fun h6 => ?_)
    refine x_astI C (okO_iff.mp h2) (inB_iff.mp h6) d_Md_weighs_57 ?_
    refine x_letS (fun σ7 e8 => ?_)
    refine x_iinc (v := v1I + (1 : Int32)) (lv' := [(1, .int (v1I + (1 : Int32))), (0, .ref v0R), (2, .int v2I)]) C d_Md_weighs_58 1 rfl rfl (by decide) rfl ?_
    refine x_goto (tgt := 9) C d_Md_weighs_61 (by decide) ?_
    refine x_lv [1, 0] rfl ?_
    exact IH.2.1 v0R (v1I + (1 : Int32)) (σ7)
theorem i_Md_weighs {G : GX} {p : Program} {l : Launch} {e : Env} {s : State} {m : MethodId} {args : Array Value} {below : List Frame} {meth : Method} {c : Code} {z0 u0 : Nat} (C : Cx G p s m args meth c prog_14_method_35_code 3 "BellPlateModel" ((none))) (n : Nat) : I_Md_weighs G p l e s m args below meth c z0 u0 n := by
  induction n with
  | zero => exact ⟨fun _ _ => x_none, fun _ _ _ => x_none, fun _ _ _ _ => x_none⟩
  | succ n IH => exact ⟨fun v0R σ => s_Md_weighs_0 C IH v0R σ, fun v0R v1I σ => s_Md_weighs_1 C IH v0R v1I σ, fun v0R v1I v2I σ => s_Md_weighs_2 C IH v0R v1I v2I σ⟩
theorem c_Md_weighs (G : GX) (l : Launch) (v0R : Nat) (σ : AM) : CT eV G l 1 y_Md_weighs prog_14_method_35_code 3 (none) [.ref v0R] σ (M_Md_weighs v0R σ) := by
  refine ct_of (by decide +kernel) (Nat.le_of_ble_eq_true rfl) (fun p e s m args below meth c C hin => ?_)
  refine x_lve (lv' := [(0, .ref v0R)]) rfl ?_
  intro r σ' h
  obtain ⟨n, hn⟩ := (lp_iff _ _ _).mp h
  exact (i_Md_weighs C n).1 v0R σ r σ' hn
/-! BellPlateModel.unpacks(I)V -/
abbrev y_Md_unpacks : MethodName := ⟨"BellPlateModel", "unpacks", "(I)V"⟩
theorem k_Md_unpacks : y_Md_unpacks.cls ≠ "java/lang/invoke/MethodHandle" ∧ y_Md_unpacks.cls ≠ "java/lang/invoke/VarHandle" ∧ (parseMethodDescriptor y_Md_unpacks.desc).map (fun d => d.parameters.length) = some 1 := by decide +kernel
theorem d_Md_unpacks_0 : decode prog_14_method_34_code 0 = .ok (.iload_n 1, 1) := by decide +kernel
theorem d_Md_unpacks_1 : decode prog_14_method_34_code 1 = .ok (.istore_n 2, 1) := by decide +kernel
theorem d_Md_unpacks_2 : decode prog_14_method_34_code 2 = .ok (.iconst 0, 1) := by decide +kernel
theorem d_Md_unpacks_3 : decode prog_14_method_34_code 3 = .ok (.istore_n 3, 1) := by decide +kernel
theorem d_Md_unpacks_4 : decode prog_14_method_34_code 4 = .ok (.iload_n 3, 1) := by decide +kernel
theorem d_Md_unpacks_5 : decode prog_14_method_34_code 5 = .ok (.aload_n 0, 1) := by decide +kernel
theorem d_Md_unpacks_6 : decode prog_14_method_34_code 6 = .ok (.getfield 239, 3) := by decide +kernel
theorem d_Md_unpacks_9 : decode prog_14_method_34_code 9 = .ok (.if_icmp .ge 32, 3) := by decide +kernel
theorem d_Md_unpacks_12 : decode prog_14_method_34_code 12 = .ok (.aload_n 0, 1) := by decide +kernel
theorem d_Md_unpacks_13 : decode prog_14_method_34_code 13 = .ok (.getfield 95, 3) := by decide +kernel
theorem d_Md_unpacks_16 : decode prog_14_method_34_code 16 = .ok (.iload_n 3, 1) := by decide +kernel
theorem d_Md_unpacks_17 : decode prog_14_method_34_code 17 = .ok (.iload_n 2, 1) := by decide +kernel
theorem d_Md_unpacks_18 : decode prog_14_method_34_code 18 = .ok (.aload_n 0, 1) := by decide +kernel
theorem d_Md_unpacks_19 : decode prog_14_method_34_code 19 = .ok (.getfield 161, 3) := by decide +kernel
theorem d_Md_unpacks_22 : decode prog_14_method_34_code 22 = .ok (.iconst 1, 1) := by decide +kernel
theorem d_Md_unpacks_23 : decode prog_14_method_34_code 23 = .ok (.iadd, 1) := by decide +kernel
theorem d_Md_unpacks_24 : decode prog_14_method_34_code 24 = .ok (.irem, 1) := by decide +kernel
theorem d_Md_unpacks_25 : decode prog_14_method_34_code 25 = .ok (.iastore, 1) := by decide +kernel
theorem d_Md_unpacks_26 : decode prog_14_method_34_code 26 = .ok (.iload_n 2, 1) := by decide +kernel
theorem d_Md_unpacks_27 : decode prog_14_method_34_code 27 = .ok (.aload_n 0, 1) := by decide +kernel
theorem d_Md_unpacks_28 : decode prog_14_method_34_code 28 = .ok (.getfield 161, 3) := by decide +kernel
theorem d_Md_unpacks_31 : decode prog_14_method_34_code 31 = .ok (.iconst 1, 1) := by decide +kernel
theorem d_Md_unpacks_32 : decode prog_14_method_34_code 32 = .ok (.iadd, 1) := by decide +kernel
theorem d_Md_unpacks_33 : decode prog_14_method_34_code 33 = .ok (.idiv, 1) := by decide +kernel
theorem d_Md_unpacks_34 : decode prog_14_method_34_code 34 = .ok (.istore_n 2, 1) := by decide +kernel
theorem d_Md_unpacks_35 : decode prog_14_method_34_code 35 = .ok (.iinc 3 1, 3) := by decide +kernel
theorem d_Md_unpacks_38 : decode prog_14_method_34_code 38 = .ok (.goto (-34), 3) := by decide +kernel
theorem d_Md_unpacks_41 : decode prog_14_method_34_code 41 = .ok (.aload_n 0, 1) := by decide +kernel
theorem d_Md_unpacks_42 : decode prog_14_method_34_code 42 = .ok (.invokevirtual 303, 3) := by decide +kernel
theorem d_Md_unpacks_45 : decode prog_14_method_34_code 45 = .ok (.return_, 1) := by decide +kernel
abbrev S_Md_unpacks : Type := Nat × Nat × Int32 × Int32 × Int32 × AM
noncomputable def T_Md_unpacks_0 (v0R : Nat) (v1I : Int32) (σ : AM) : S_Md_unpacks ⊕ Option (Unit × AM) :=
  .inl (1, v0R, 0, v1I, (0 : Int32), σ)
noncomputable def T_Md_unpacks_1 (v0R : Nat) (v2I : Int32) (v3I : Int32) (σ : AM) : S_Md_unpacks ⊕ Option (Unit × AM) :=
  gdT (okO σ v0R 12) <| if v3I < (aI σ v0R 10) then (gdT (okO σ (aR σ v0R 34) 101) <| gdT (nzI ((aI σ v0R 11) + (1 : Int32))) <| gdT (inB v3I (aN σ (aR σ v0R 34))) <| letT (sI σ (aR σ v0R 34) v3I.toNatClampNeg (v2I - v2I / ((aI σ v0R 11) + (1 : Int32)) * ((aI σ v0R 11) + (1 : Int32)))) fun σ5 => gdT (nzI ((aI σ5 v0R 11) + (1 : Int32))) <| letT (v2I / ((aI σ5 v0R 11) + (1 : Int32))) fun x8 => .inl (1, v0R, 0, x8, v3I + (1 : Int32), σ5)) else (bndT (M_Md_weighs v0R σ) fun _ σ10 => .inr (some ((), σ10)))
noncomputable def F_Md_unpacks : S_Md_unpacks → S_Md_unpacks ⊕ Option (Unit × AM) := fun s => match s.1 with
  | 0 => T_Md_unpacks_0 (s.2.1) (s.2.2.1) (s.2.2.2.2.2)
  | _ => T_Md_unpacks_1 (s.2.1) (s.2.2.2.1) (s.2.2.2.2.1) (s.2.2.2.2.2)
noncomputable def L_Md_unpacks_0 (v0R : Nat) (v1I : Int32) (σ : AM) : Option (Unit × AM) := lp F_Md_unpacks (0, v0R, v1I, 0, 0, σ)
noncomputable def L_Md_unpacks_1 (v0R : Nat) (v2I : Int32) (v3I : Int32) (σ : AM) : Option (Unit × AM) := lp F_Md_unpacks (1, v0R, 0, v2I, v3I, σ)
set_option maxRecDepth 20000 in
theorem E_Md_unpacks_0 (v0R : Nat) (v1I : Int32) (σ : AM) : L_Md_unpacks_0 v0R v1I σ = (L_Md_unpacks_1 v0R v1I ((0 : Int32)) σ) := by
  unfold L_Md_unpacks_0
  rw [lp_eq]
  show lpK (lp F_Md_unpacks) (T_Md_unpacks_0 v0R v1I σ) = _
  unfold T_Md_unpacks_0
  simp only [lpK_ite, lq_inl, lq_inr, lpK_bnd, lpK_gd, lq_let]
  try rfl
set_option maxRecDepth 20000 in
theorem E_Md_unpacks_1 (v0R : Nat) (v2I : Int32) (v3I : Int32) (σ : AM) : L_Md_unpacks_1 v0R v2I v3I σ = (gd (okO σ v0R 12) <| if v3I < (aI σ v0R 10) then (gd (okO σ (aR σ v0R 34) 101) <| gd (nzI ((aI σ v0R 11) + (1 : Int32))) <| gd (inB v3I (aN σ (aR σ v0R 34))) <| letT (sI σ (aR σ v0R 34) v3I.toNatClampNeg (v2I - v2I / ((aI σ v0R 11) + (1 : Int32)) * ((aI σ v0R 11) + (1 : Int32)))) fun σ5 => gd (nzI ((aI σ5 v0R 11) + (1 : Int32))) <| letT (v2I / ((aI σ5 v0R 11) + (1 : Int32))) fun x8 => L_Md_unpacks_1 v0R x8 (v3I + (1 : Int32)) σ5) else (bnd (M_Md_weighs v0R σ) fun _ σ10 => (some ((), σ10)))) := by
  unfold L_Md_unpacks_1
  rw [lp_eq]
  show lpK (lp F_Md_unpacks) (T_Md_unpacks_1 v0R v2I v3I σ) = _
  unfold T_Md_unpacks_1
  simp only [lpK_ite, lq_inl, lq_inr, lpK_bnd, lpK_gd, lq_let]
  try rfl
noncomputable def M_Md_unpacks (v0R : Nat) (v1I : Int32) (σ : AM) : Option (Unit × AM) := mw σ (L_Md_unpacks_0 v0R v1I σ)
def I_Md_unpacks (G : GX) (p : Program) (l : Launch) (e : Env) (s : State) (m : MethodId) (args : Array Value) (below : List Frame) (meth : Method) (c : Code) (z0 u0 n : Nat) : Prop :=
  (∀ (v0R : Nat) (v1I : Int32) (σ : AM), VX (QM eV G args s below z0 u0) G p l e s m args below meth c 2 z0 u0 4 (lpn F_Md_unpacks n (0, v0R, v1I, 0, 0, σ)) 0 [(0, .ref v0R), (1, .int v1I)] [] σ) ∧
  (∀ (v0R : Nat) (v2I : Int32) (v3I : Int32) (σ : AM), VX (QM eV G args s below z0 u0) G p l e s m args below meth c 2 z0 u0 4 (lpn F_Md_unpacks n (1, v0R, 0, v2I, v3I, σ)) 4 [(0, .ref v0R), (2, .int v2I), (3, .int v3I)] [] σ)
set_option maxRecDepth 20000 in
theorem s_Md_unpacks_0 {G : GX} {p : Program} {l : Launch} {e : Env} {s : State} {m : MethodId} {args : Array Value} {below : List Frame} {meth : Method} {c : Code} {z0 u0 n : Nat} (C : Cx G p s m args meth c prog_14_method_34_code 4 "BellPlateModel" ((none))) (IH : I_Md_unpacks G p l e s m args below meth c z0 u0 n) (v0R : Nat) (v1I : Int32) (σ : AM) : VX (QM eV G args s below z0 u0) G p l e s m args below meth c 2 z0 u0 4 (lpK (lpn F_Md_unpacks n) (T_Md_unpacks_0 v0R v1I σ)) 0 [(0, .ref v0R), (1, .int v1I)] [] σ := by
  unfold T_Md_unpacks_0
  refine x_iload_n C d_Md_unpacks_0 1 rfl ?_
  refine x_istore_n (lv' := [(2, .int v1I), (0, .ref v0R), (1, .int v1I)]) C d_Md_unpacks_1 (by decide) rfl rfl ?_
  refine x_iconst (v := (0 : Int32)) C d_Md_unpacks_2 (by decide) ?_
  refine x_istore_n (lv' := [(3, .int (0 : Int32)), (2, .int v1I), (0, .ref v0R), (1, .int v1I)]) C d_Md_unpacks_3 (by decide) rfl rfl ?_
  refine x_lv [2, 1, 0] rfl ?_
  exact IH.2 v0R v1I ((0 : Int32)) (σ)
set_option maxRecDepth 20000 in
theorem s_Md_unpacks_1 {G : GX} {p : Program} {l : Launch} {e : Env} {s : State} {m : MethodId} {args : Array Value} {below : List Frame} {meth : Method} {c : Code} {z0 u0 n : Nat} (C : Cx G p s m args meth c prog_14_method_34_code 4 "BellPlateModel" ((none))) (IH : I_Md_unpacks G p l e s m args below meth c z0 u0 n) (v0R : Nat) (v2I : Int32) (v3I : Int32) (σ : AM) : VX (QM eV G args s below z0 u0) G p l e s m args below meth c 2 z0 u0 4 (lpK (lpn F_Md_unpacks n) (T_Md_unpacks_1 v0R v2I v3I σ)) 4 [(0, .ref v0R), (2, .int v2I), (3, .int v3I)] [] σ := by
  unfold T_Md_unpacks_1
  refine x_iload_n C d_Md_unpacks_4 2 rfl ?_
  refine x_aload_n C d_Md_unpacks_5 0 rfl ?_
  refine x_gd (fun h1 => ?_)
  refine x_getI (k := 10) C (okO_iff.mp h1) rfl j11_ok (by decide) rfl w1862 d_Md_unpacks_6 ?_
  refine x_icmp_ge (tgt := 41) C d_Md_unpacks_9 (by decide) (fun _ => ?_) (fun _ => ?_)
  · refine x_aload_n C d_Md_unpacks_12 0 rfl ?_
    refine x_gd (fun h2 => ?_)
    refine x_getR (k := 34) (kv := 101) C (okO_iff.mp h1) rfl j11_ok (by decide) rfl (okO_iff.mp h2) (by decide) w1886 d_Md_unpacks_13 ?_
    refine x_iload_n C d_Md_unpacks_16 2 rfl ?_
    refine x_iload_n C d_Md_unpacks_17 1 rfl ?_
    refine x_aload_n C d_Md_unpacks_18 0 rfl ?_
    refine x_getI (k := 11) C (okO_iff.mp h1) rfl j11_ok (by decide) rfl w1863 d_Md_unpacks_19 ?_
    refine x_iconst (v := (1 : Int32)) C d_Md_unpacks_22 (by decide) ?_
    refine x_iadd C d_Md_unpacks_23 ?_
    refine x_gd (fun h3 => ?_)
    refine x_irem C d_Md_unpacks_24 (nzI_iff.mp h3) ?_
    refine x_gd (fun h4 => ?_)
    refine x_astI C (okO_iff.mp h2) (inB_iff.mp h4) d_Md_unpacks_25 ?_
    refine x_letS (fun σ5 e6 => ?_)
    refine x_iload_n C d_Md_unpacks_26 1 rfl ?_
    refine x_aload_n C d_Md_unpacks_27 0 rfl ?_
    refine x_getI (k := 11) C (by first | exact (okO_iff.mp h1) | (rw [e6]; exact (okO_iff.mp h1))) rfl j11_ok (by decide) rfl w1863 d_Md_unpacks_28 ?_
    refine x_iconst (v := (1 : Int32)) C d_Md_unpacks_31 (by decide) ?_
    refine x_iadd C d_Md_unpacks_32 ?_
    refine x_gd (fun h7 => ?_)
    refine x_idiv C d_Md_unpacks_33 (nzI_iff.mp h7) ?_
    refine x_letI (fun x8 _ => ?_)
    refine x_istore_n (lv' := [(2, .int x8), (0, .ref v0R), (3, .int v3I)]) C d_Md_unpacks_34 (by decide) rfl rfl ?_
    refine x_iinc (v := v3I + (1 : Int32)) (lv' := [(3, .int (v3I + (1 : Int32))), (2, .int x8), (0, .ref v0R)]) C d_Md_unpacks_35 2 rfl rfl (by decide) rfl ?_
    refine x_goto (tgt := 4) C d_Md_unpacks_38 (by decide) ?_
    refine x_lv [2, 1, 0] rfl ?_
    exact IH.2 v0R x8 (v3I + (1 : Int32)) (σ5)
  · refine x_aload_n C d_Md_unpacks_41 0 rfl ?_
    refine x_callVV (As := []) C (c_Md_weighs G l v0R  σ) (okO_iff.mp h1) rfl w1822 w57 w1820 w1823 w134 k_Md_weighs rfl (by decide) (by decide) rfl (Nat.le_of_ble_eq_true rfl) d_Md_unpacks_42 (fun r9 σ10 => ?_)
    exact x_vret C d_Md_unpacks_45
theorem i_Md_unpacks {G : GX} {p : Program} {l : Launch} {e : Env} {s : State} {m : MethodId} {args : Array Value} {below : List Frame} {meth : Method} {c : Code} {z0 u0 : Nat} (C : Cx G p s m args meth c prog_14_method_34_code 4 "BellPlateModel" ((none))) (n : Nat) : I_Md_unpacks G p l e s m args below meth c z0 u0 n := by
  induction n with
  | zero => exact ⟨fun _ _ _ => x_none, fun _ _ _ _ => x_none⟩
  | succ n IH => exact ⟨fun v0R v1I σ => s_Md_unpacks_0 C IH v0R v1I σ, fun v0R v2I v3I σ => s_Md_unpacks_1 C IH v0R v2I v3I σ⟩
theorem c_Md_unpacks (G : GX) (l : Launch) (v0R : Nat) (v1I : Int32) (σ : AM) : CT eV G l 2 y_Md_unpacks prog_14_method_34_code 4 (none) [.ref v0R, .int v1I] σ (M_Md_unpacks v0R v1I σ) := by
  refine ct_of (by decide +kernel) (Nat.le_of_ble_eq_true rfl) (fun p e s m args below meth c C hin => ?_)
  refine x_lve (lv' := [(0, .ref v0R), (1, .int v1I)]) rfl ?_
  intro r σ' h
  obtain ⟨n, hn⟩ := (lp_iff _ _ _).mp h
  exact (i_Md_unpacks C n).1 v0R v1I σ r σ' hn
/-! BellPlateModel.listNow()J -/
abbrev y_Md_listNow : MethodName := ⟨"BellPlateModel", "listNow", "()J"⟩
theorem k_Md_listNow : y_Md_listNow.cls ≠ "java/lang/invoke/MethodHandle" ∧ y_Md_listNow.cls ≠ "java/lang/invoke/VarHandle" ∧ (parseMethodDescriptor y_Md_listNow.desc).map (fun d => d.parameters.length) = some 0 := by decide +kernel
theorem d_Md_listNow_0 : decode prog_14_method_36_code 0 = .ok (.lconst 0, 1) := by decide +kernel
theorem d_Md_listNow_1 : decode prog_14_method_36_code 1 = .ok (.lstore_n 1, 1) := by decide +kernel
theorem d_Md_listNow_2 : decode prog_14_method_36_code 2 = .ok (.iconst 0, 1) := by decide +kernel
theorem d_Md_listNow_3 : decode prog_14_method_36_code 3 = .ok (.istore_n 3, 1) := by decide +kernel
theorem d_Md_listNow_4 : decode prog_14_method_36_code 4 = .ok (.iload_n 3, 1) := by decide +kernel
theorem d_Md_listNow_5 : decode prog_14_method_36_code 5 = .ok (.aload_n 0, 1) := by decide +kernel
theorem d_Md_listNow_6 : decode prog_14_method_36_code 6 = .ok (.invokevirtual 306, 3) := by decide +kernel
theorem d_Md_listNow_9 : decode prog_14_method_36_code 9 = .ok (.if_icmp .ge 32, 3) := by decide +kernel
theorem d_Md_listNow_12 : decode prog_14_method_36_code 12 = .ok (.lload_n 1, 1) := by decide +kernel
theorem d_Md_listNow_13 : decode prog_14_method_36_code 13 = .ok (.aload_n 0, 1) := by decide +kernel
theorem d_Md_listNow_14 : decode prog_14_method_36_code 14 = .ok (.getfield 98, 3) := by decide +kernel
theorem d_Md_listNow_17 : decode prog_14_method_36_code 17 = .ok (.iload_n 3, 1) := by decide +kernel
theorem d_Md_listNow_18 : decode prog_14_method_36_code 18 = .ok (.iaload, 1) := by decide +kernel
theorem d_Md_listNow_19 : decode prog_14_method_36_code 19 = .ok (.aload_n 0, 1) := by decide +kernel
theorem d_Md_listNow_20 : decode prog_14_method_36_code 20 = .ok (.getfield 164, 3) := by decide +kernel
theorem d_Md_listNow_23 : decode prog_14_method_36_code 23 = .ok (.if_icmp .lt 9, 3) := by decide +kernel
theorem d_Md_listNow_26 : decode prog_14_method_36_code 26 = .ok (.lconst 1, 1) := by decide +kernel
theorem d_Md_listNow_27 : decode prog_14_method_36_code 27 = .ok (.iload_n 3, 1) := by decide +kernel
theorem d_Md_listNow_28 : decode prog_14_method_36_code 28 = .ok (.lshl, 1) := by decide +kernel
theorem d_Md_listNow_29 : decode prog_14_method_36_code 29 = .ok (.goto 4, 3) := by decide +kernel
theorem d_Md_listNow_32 : decode prog_14_method_36_code 32 = .ok (.lconst 0, 1) := by decide +kernel
theorem d_Md_listNow_33 : decode prog_14_method_36_code 33 = .ok (.lor, 1) := by decide +kernel
theorem d_Md_listNow_34 : decode prog_14_method_36_code 34 = .ok (.lstore_n 1, 1) := by decide +kernel
theorem d_Md_listNow_35 : decode prog_14_method_36_code 35 = .ok (.iinc 3 1, 3) := by decide +kernel
theorem d_Md_listNow_38 : decode prog_14_method_36_code 38 = .ok (.goto (-34), 3) := by decide +kernel
theorem d_Md_listNow_41 : decode prog_14_method_36_code 41 = .ok (.lload_n 1, 1) := by decide +kernel
theorem d_Md_listNow_42 : decode prog_14_method_36_code 42 = .ok (.lreturn, 1) := by decide +kernel
abbrev S_Md_listNow : Type := Nat × Nat × Int64 × Int32 × Int64 × Int64 × AM
noncomputable def T_Md_listNow_0 (v0R : Nat) (σ : AM) : S_Md_listNow ⊕ Option (Int64 × AM) :=
  .inl (1, v0R, (0 : Int64), (0 : Int32), 0, 0, σ)
noncomputable def T_Md_listNow_1 (v0R : Nat) (v1J : Int64) (v3I : Int32) (σ : AM) : S_Md_listNow ⊕ Option (Int64 × AM) :=
  gdT (okO σ v0R 12) <| bndT (M_Md_sets v0R σ) fun r1 σ2 => if v3I < r1 then (gdT (okO σ2 v0R 12) <| gdT (okO σ2 (aR σ2 v0R 35) 101) <| gdT (inB v3I (aN σ2 (aR σ2 v0R 35))) <| if (aI σ2 (aR σ2 v0R 35) v3I.toNatClampNeg) < (aI σ2 v0R 12) then (.inl (2, v0R, 0, v3I, v1J, (0 : Int64), σ2)) else (.inl (2, v0R, 0, v3I, v1J, (1 : Int64) <<< (v3I.toInt64 &&& 63), σ2))) else (.inr (some (v1J, σ2)))
noncomputable def T_Md_listNow_2 (v0R : Nat) (v3I : Int32) (s0J : Int64) (s1J : Int64) (σ : AM) : S_Md_listNow ⊕ Option (Int64 × AM) :=
  letT (s0J ||| s1J) fun x1 => .inl (1, v0R, x1, v3I + (1 : Int32), 0, 0, σ)
noncomputable def F_Md_listNow : S_Md_listNow → S_Md_listNow ⊕ Option (Int64 × AM) := fun s => match s.1 with
  | 0 => T_Md_listNow_0 (s.2.1) (s.2.2.2.2.2.2)
  | 1 => T_Md_listNow_1 (s.2.1) (s.2.2.1) (s.2.2.2.1) (s.2.2.2.2.2.2)
  | _ => T_Md_listNow_2 (s.2.1) (s.2.2.2.1) (s.2.2.2.2.1) (s.2.2.2.2.2.1) (s.2.2.2.2.2.2)
noncomputable def L_Md_listNow_0 (v0R : Nat) (σ : AM) : Option (Int64 × AM) := lp F_Md_listNow (0, v0R, 0, 0, 0, 0, σ)
noncomputable def L_Md_listNow_1 (v0R : Nat) (v1J : Int64) (v3I : Int32) (σ : AM) : Option (Int64 × AM) := lp F_Md_listNow (1, v0R, v1J, v3I, 0, 0, σ)
noncomputable def L_Md_listNow_2 (v0R : Nat) (v3I : Int32) (s0J : Int64) (s1J : Int64) (σ : AM) : Option (Int64 × AM) := lp F_Md_listNow (2, v0R, 0, v3I, s0J, s1J, σ)
set_option maxRecDepth 20000 in
theorem E_Md_listNow_0 (v0R : Nat) (σ : AM) : L_Md_listNow_0 v0R σ = (L_Md_listNow_1 v0R ((0 : Int64)) ((0 : Int32)) σ) := by
  unfold L_Md_listNow_0
  rw [lp_eq]
  show lpK (lp F_Md_listNow) (T_Md_listNow_0 v0R σ) = _
  unfold T_Md_listNow_0
  simp only [lpK_ite, lq_inl, lq_inr, lpK_bnd, lpK_gd, lq_let]
  try rfl
set_option maxRecDepth 20000 in
theorem E_Md_listNow_1 (v0R : Nat) (v1J : Int64) (v3I : Int32) (σ : AM) : L_Md_listNow_1 v0R v1J v3I σ = (gd (okO σ v0R 12) <| bnd (M_Md_sets v0R σ) fun r1 σ2 => if v3I < r1 then (gd (okO σ2 v0R 12) <| gd (okO σ2 (aR σ2 v0R 35) 101) <| gd (inB v3I (aN σ2 (aR σ2 v0R 35))) <| if (aI σ2 (aR σ2 v0R 35) v3I.toNatClampNeg) < (aI σ2 v0R 12) then (L_Md_listNow_2 v0R v3I v1J ((0 : Int64)) σ2) else (L_Md_listNow_2 v0R v3I v1J ((1 : Int64) <<< (v3I.toInt64 &&& 63)) σ2)) else ((some (v1J, σ2)))) := by
  unfold L_Md_listNow_1
  rw [lp_eq]
  show lpK (lp F_Md_listNow) (T_Md_listNow_1 v0R v1J v3I σ) = _
  unfold T_Md_listNow_1
  simp only [lpK_ite, lq_inl, lq_inr, lpK_bnd, lpK_gd, lq_let]
  try rfl
set_option maxRecDepth 20000 in
theorem E_Md_listNow_2 (v0R : Nat) (v3I : Int32) (s0J : Int64) (s1J : Int64) (σ : AM) : L_Md_listNow_2 v0R v3I s0J s1J σ = (letT (s0J ||| s1J) fun x1 => L_Md_listNow_1 v0R x1 (v3I + (1 : Int32)) σ) := by
  unfold L_Md_listNow_2
  rw [lp_eq]
  show lpK (lp F_Md_listNow) (T_Md_listNow_2 v0R v3I s0J s1J σ) = _
  unfold T_Md_listNow_2
  simp only [lpK_ite, lq_inl, lq_inr, lpK_bnd, lpK_gd, lq_let]
  try rfl
noncomputable def M_Md_listNow (v0R : Nat) (σ : AM) : Option (Int64 × AM) := mw σ (L_Md_listNow_0 v0R σ)
def I_Md_listNow (G : GX) (p : Program) (l : Launch) (e : Env) (s : State) (m : MethodId) (args : Array Value) (below : List Frame) (meth : Method) (c : Code) (z0 u0 n : Nat) : Prop :=
  (∀ (v0R : Nat) (σ : AM), VX (QM eJ G args s below z0 u0) G p l e s m args below meth c 1 z0 u0 4 (lpn F_Md_listNow n (0, v0R, 0, 0, 0, 0, σ)) 0 [(0, .ref v0R)] [] σ) ∧
  (∀ (v0R : Nat) (v1J : Int64) (v3I : Int32) (σ : AM), VX (QM eJ G args s below z0 u0) G p l e s m args below meth c 1 z0 u0 4 (lpn F_Md_listNow n (1, v0R, v1J, v3I, 0, 0, σ)) 4 [(0, .ref v0R), (1, .long v1J), (3, .int v3I)] [] σ) ∧
  (∀ (v0R : Nat) (v3I : Int32) (s0J : Int64) (s1J : Int64) (σ : AM), VX (QM eJ G args s below z0 u0) G p l e s m args below meth c 1 z0 u0 4 (lpn F_Md_listNow n (2, v0R, 0, v3I, s0J, s1J, σ)) 33 [(0, .ref v0R), (3, .int v3I)] [.long s1J, .long s0J] σ)
set_option maxRecDepth 20000 in
theorem s_Md_listNow_0 {G : GX} {p : Program} {l : Launch} {e : Env} {s : State} {m : MethodId} {args : Array Value} {below : List Frame} {meth : Method} {c : Code} {z0 u0 n : Nat} (C : Cx G p s m args meth c prog_14_method_36_code 4 "BellPlateModel" ((some FieldType.long))) (IH : I_Md_listNow G p l e s m args below meth c z0 u0 n) (v0R : Nat) (σ : AM) : VX (QM eJ G args s below z0 u0) G p l e s m args below meth c 1 z0 u0 4 (lpK (lpn F_Md_listNow n) (T_Md_listNow_0 v0R σ)) 0 [(0, .ref v0R)] [] σ := by
  unfold T_Md_listNow_0
  refine x_lconst (v := (0 : Int64)) C d_Md_listNow_0 (by decide) ?_
  refine x_lstore_n (lv' := [(1, .long (0 : Int64)), (0, .ref v0R)]) C d_Md_listNow_1 (by decide) rfl rfl ?_
  refine x_iconst (v := (0 : Int32)) C d_Md_listNow_2 (by decide) ?_
  refine x_istore_n (lv' := [(3, .int (0 : Int32)), (1, .long (0 : Int64)), (0, .ref v0R)]) C d_Md_listNow_3 (by decide) rfl rfl ?_
  refine x_lv [2, 1, 0] rfl ?_
  exact IH.2.1 v0R ((0 : Int64)) ((0 : Int32)) (σ)
set_option maxRecDepth 20000 in
theorem s_Md_listNow_1 {G : GX} {p : Program} {l : Launch} {e : Env} {s : State} {m : MethodId} {args : Array Value} {below : List Frame} {meth : Method} {c : Code} {z0 u0 n : Nat} (C : Cx G p s m args meth c prog_14_method_36_code 4 "BellPlateModel" ((some FieldType.long))) (IH : I_Md_listNow G p l e s m args below meth c z0 u0 n) (v0R : Nat) (v1J : Int64) (v3I : Int32) (σ : AM) : VX (QM eJ G args s below z0 u0) G p l e s m args below meth c 1 z0 u0 4 (lpK (lpn F_Md_listNow n) (T_Md_listNow_1 v0R v1J v3I σ)) 4 [(0, .ref v0R), (1, .long v1J), (3, .int v3I)] [] σ := by
  unfold T_Md_listNow_1
  refine x_iload_n C d_Md_listNow_4 2 rfl ?_
  refine x_aload_n C d_Md_listNow_5 0 rfl ?_
  refine x_gd (fun h3 => ?_)
  refine x_callVI (As := []) C (c_Md_sets G l v0R  σ) (okO_iff.mp h3) rfl w1826 w58 w1824 w1827 w134 k_Md_sets rfl (by decide) (by decide) rfl (Nat.le_of_ble_eq_true rfl) d_Md_listNow_6 (fun r1 σ2 => ?_)
  refine x_icmp_ge (tgt := 41) C d_Md_listNow_9 (by decide) (fun _ => ?_) (fun _ => ?_)
  · refine x_lload_n C d_Md_listNow_12 1 rfl ?_
    refine x_aload_n C d_Md_listNow_13 0 rfl ?_
    refine x_gd (fun h4 => ?_)
    refine x_gd (fun h5 => ?_)
    refine x_getR (k := 35) (kv := 101) C (okO_iff.mp h4) rfl j11_ok (by decide) rfl (okO_iff.mp h5) (by decide) w1887 d_Md_listNow_14 ?_
    refine x_iload_n C d_Md_listNow_17 2 rfl ?_
    refine x_gd (fun h6 => ?_)
    refine x_aldI C (okO_iff.mp h5) (inB_iff.mp h6) d_Md_listNow_18 ?_
    refine x_aload_n C d_Md_listNow_19 0 rfl ?_
    refine x_getI (k := 12) C (okO_iff.mp h4) rfl j11_ok (by decide) rfl w1864 d_Md_listNow_20 ?_
    refine x_icmp_lt (tgt := 32) C d_Md_listNow_23 (by decide) (fun _ => ?_) (fun _ => ?_)
    · refine x_lconst (v := (0 : Int64)) C d_Md_listNow_32 (by decide) ?_
      refine x_lv [0, 2] rfl ?_
      exact IH.2.2 v0R v3I v1J ((0 : Int64)) (σ2)
    · refine x_lconst (v := (1 : Int64)) C d_Md_listNow_26 (by decide) ?_
      refine x_iload_n C d_Md_listNow_27 2 rfl ?_
      refine x_lshl C d_Md_listNow_28 ?_
      refine x_goto (tgt := 33) C d_Md_listNow_29 (by decide) ?_
      refine x_lv [0, 2] rfl ?_
      exact IH.2.2 v0R v3I v1J ((1 : Int64) <<< (v3I.toInt64 &&& 63)) (σ2)
  · refine x_lload_n C d_Md_listNow_41 1 rfl ?_
    exact x_lret C d_Md_listNow_42
set_option maxRecDepth 20000 in
theorem s_Md_listNow_2 {G : GX} {p : Program} {l : Launch} {e : Env} {s : State} {m : MethodId} {args : Array Value} {below : List Frame} {meth : Method} {c : Code} {z0 u0 n : Nat} (C : Cx G p s m args meth c prog_14_method_36_code 4 "BellPlateModel" ((some FieldType.long))) (IH : I_Md_listNow G p l e s m args below meth c z0 u0 n) (v0R : Nat) (v3I : Int32) (s0J : Int64) (s1J : Int64) (σ : AM) : VX (QM eJ G args s below z0 u0) G p l e s m args below meth c 1 z0 u0 4 (lpK (lpn F_Md_listNow n) (T_Md_listNow_2 v0R v3I s0J s1J σ)) 33 [(0, .ref v0R), (3, .int v3I)] [.long s1J, .long s0J] σ := by
  unfold T_Md_listNow_2
  refine x_lor C d_Md_listNow_33 ?_
  refine x_letJ (fun x1 _ => ?_)
  refine x_lstore_n (lv' := [(1, .long x1), (0, .ref v0R), (3, .int v3I)]) C d_Md_listNow_34 (by decide) rfl rfl ?_
  refine x_iinc (v := v3I + (1 : Int32)) (lv' := [(3, .int (v3I + (1 : Int32))), (1, .long x1), (0, .ref v0R)]) C d_Md_listNow_35 2 rfl rfl (by decide) rfl ?_
  refine x_goto (tgt := 4) C d_Md_listNow_38 (by decide) ?_
  refine x_lv [2, 1, 0] rfl ?_
  exact IH.2.1 v0R x1 (v3I + (1 : Int32)) (σ)
theorem i_Md_listNow {G : GX} {p : Program} {l : Launch} {e : Env} {s : State} {m : MethodId} {args : Array Value} {below : List Frame} {meth : Method} {c : Code} {z0 u0 : Nat} (C : Cx G p s m args meth c prog_14_method_36_code 4 "BellPlateModel" ((some FieldType.long))) (n : Nat) : I_Md_listNow G p l e s m args below meth c z0 u0 n := by
  induction n with
  | zero => exact ⟨fun _ _ => x_none, fun _ _ _ _ => x_none, fun _ _ _ _ _ => x_none⟩
  | succ n IH => exact ⟨fun v0R σ => s_Md_listNow_0 C IH v0R σ, fun v0R v1J v3I σ => s_Md_listNow_1 C IH v0R v1J v3I σ, fun v0R v3I s0J s1J σ => s_Md_listNow_2 C IH v0R v3I s0J s1J σ⟩
theorem c_Md_listNow (G : GX) (l : Launch) (v0R : Nat) (σ : AM) : CT eJ G l 1 y_Md_listNow prog_14_method_36_code 4 ((some FieldType.long)) [.ref v0R] σ (M_Md_listNow v0R σ) := by
  refine ct_of (by decide +kernel) (Nat.le_of_ble_eq_true rfl) (fun p e s m args below meth c C hin => ?_)
  refine x_lve (lv' := [(0, .ref v0R)]) rfl ?_
  intro r σ' h
  obtain ⟨n, hn⟩ := (lp_iff _ _ _).mp h
  exact (i_Md_listNow C n).1 v0R σ r σ' hn
/-! BellPlateModel.both(III)I -/
abbrev y_Md_both : MethodName := ⟨"BellPlateModel", "both", "(III)I"⟩
theorem k_Md_both : y_Md_both.cls ≠ "java/lang/invoke/MethodHandle" ∧ y_Md_both.cls ≠ "java/lang/invoke/VarHandle" ∧ (parseMethodDescriptor y_Md_both.desc).map (fun d => d.parameters.length) = some 3 := by decide +kernel
theorem d_Md_both_0 : decode prog_14_method_32_code 0 = .ok (.iload_n 0, 1) := by decide +kernel
theorem d_Md_both_1 : decode prog_14_method_32_code 1 = .ok (.tableswitch 87 4 9 #[39, 43, 47, 51, 62, 73], 39) := by decide +kernel
theorem d_Md_both_40 : decode prog_14_method_32_code 40 = .ok (.iload_n 1, 1) := by decide +kernel
theorem d_Md_both_41 : decode prog_14_method_32_code 41 = .ok (.iload_n 2, 1) := by decide +kernel
theorem d_Md_both_42 : decode prog_14_method_32_code 42 = .ok (.iadd, 1) := by decide +kernel
theorem d_Md_both_43 : decode prog_14_method_32_code 43 = .ok (.ireturn, 1) := by decide +kernel
theorem d_Md_both_44 : decode prog_14_method_32_code 44 = .ok (.iload_n 1, 1) := by decide +kernel
theorem d_Md_both_45 : decode prog_14_method_32_code 45 = .ok (.iload_n 2, 1) := by decide +kernel
theorem d_Md_both_46 : decode prog_14_method_32_code 46 = .ok (.isub, 1) := by decide +kernel
theorem d_Md_both_47 : decode prog_14_method_32_code 47 = .ok (.ireturn, 1) := by decide +kernel
theorem d_Md_both_48 : decode prog_14_method_32_code 48 = .ok (.iload_n 1, 1) := by decide +kernel
theorem d_Md_both_49 : decode prog_14_method_32_code 49 = .ok (.iload_n 2, 1) := by decide +kernel
theorem d_Md_both_50 : decode prog_14_method_32_code 50 = .ok (.imul, 1) := by decide +kernel
theorem d_Md_both_51 : decode prog_14_method_32_code 51 = .ok (.ireturn, 1) := by decide +kernel
theorem d_Md_both_52 : decode prog_14_method_32_code 52 = .ok (.iload_n 1, 1) := by decide +kernel
theorem d_Md_both_53 : decode prog_14_method_32_code 53 = .ok (.iload_n 2, 1) := by decide +kernel
theorem d_Md_both_54 : decode prog_14_method_32_code 54 = .ok (.if_icmp .ge 7, 3) := by decide +kernel
theorem d_Md_both_57 : decode prog_14_method_32_code 57 = .ok (.iconst 1, 1) := by decide +kernel
theorem d_Md_both_58 : decode prog_14_method_32_code 58 = .ok (.goto 4, 3) := by decide +kernel
theorem d_Md_both_61 : decode prog_14_method_32_code 61 = .ok (.iconst 0, 1) := by decide +kernel
theorem d_Md_both_62 : decode prog_14_method_32_code 62 = .ok (.ireturn, 1) := by decide +kernel
theorem d_Md_both_63 : decode prog_14_method_32_code 63 = .ok (.iload_n 1, 1) := by decide +kernel
theorem d_Md_both_64 : decode prog_14_method_32_code 64 = .ok (.iload_n 2, 1) := by decide +kernel
theorem d_Md_both_65 : decode prog_14_method_32_code 65 = .ok (.if_icmp .ne 7, 3) := by decide +kernel
theorem d_Md_both_68 : decode prog_14_method_32_code 68 = .ok (.iconst 1, 1) := by decide +kernel
theorem d_Md_both_69 : decode prog_14_method_32_code 69 = .ok (.goto 4, 3) := by decide +kernel
theorem d_Md_both_72 : decode prog_14_method_32_code 72 = .ok (.iconst 0, 1) := by decide +kernel
theorem d_Md_both_73 : decode prog_14_method_32_code 73 = .ok (.ireturn, 1) := by decide +kernel
theorem d_Md_both_74 : decode prog_14_method_32_code 74 = .ok (.iload_n 1, 1) := by decide +kernel
theorem d_Md_both_75 : decode prog_14_method_32_code 75 = .ok (.ifCond .eq 11, 3) := by decide +kernel
theorem d_Md_both_78 : decode prog_14_method_32_code 78 = .ok (.iload_n 2, 1) := by decide +kernel
theorem d_Md_both_79 : decode prog_14_method_32_code 79 = .ok (.ifCond .eq 7, 3) := by decide +kernel
theorem d_Md_both_82 : decode prog_14_method_32_code 82 = .ok (.iconst 1, 1) := by decide +kernel
theorem d_Md_both_83 : decode prog_14_method_32_code 83 = .ok (.goto 4, 3) := by decide +kernel
theorem d_Md_both_86 : decode prog_14_method_32_code 86 = .ok (.iconst 0, 1) := by decide +kernel
theorem d_Md_both_87 : decode prog_14_method_32_code 87 = .ok (.ireturn, 1) := by decide +kernel
theorem d_Md_both_88 : decode prog_14_method_32_code 88 = .ok (.iload_n 1, 1) := by decide +kernel
theorem d_Md_both_89 : decode prog_14_method_32_code 89 = .ok (.ifCond .ne 7, 3) := by decide +kernel
theorem d_Md_both_92 : decode prog_14_method_32_code 92 = .ok (.iload_n 2, 1) := by decide +kernel
theorem d_Md_both_93 : decode prog_14_method_32_code 93 = .ok (.ifCond .eq 7, 3) := by decide +kernel
theorem d_Md_both_96 : decode prog_14_method_32_code 96 = .ok (.iconst 1, 1) := by decide +kernel
theorem d_Md_both_97 : decode prog_14_method_32_code 97 = .ok (.goto 4, 3) := by decide +kernel
theorem d_Md_both_100 : decode prog_14_method_32_code 100 = .ok (.iconst 0, 1) := by decide +kernel
theorem d_Md_both_101 : decode prog_14_method_32_code 101 = .ok (.ireturn, 1) := by decide +kernel
abbrev S_Md_both : Type := Nat × Int32 × Int32 × Int32 × Int32 × AM
noncomputable def T_Md_both_0 (v0I : Int32) (v1I : Int32) (v2I : Int32) (σ : AM) : S_Md_both ⊕ Option (Int32 × AM) :=
  if v0I = (4 : Int32) then (.inr (some ((v1I + v2I), σ))) else (if v0I = (5 : Int32) then (.inr (some ((v1I - v2I), σ))) else (if v0I = (6 : Int32) then (.inr (some ((v1I * v2I), σ))) else (if v0I = (7 : Int32) then (if v1I < v2I then (.inl (1, 0, 0, 0, (1 : Int32), σ)) else (.inl (1, 0, 0, 0, (0 : Int32), σ))) else (if v0I = (8 : Int32) then (if v1I = v2I then (.inl (2, 0, 0, 0, (1 : Int32), σ)) else (.inl (2, 0, 0, 0, (0 : Int32), σ))) else (if v0I = (9 : Int32) then (if v1I = 0 then (.inl (3, 0, 0, 0, 0, σ)) else (if v2I = 0 then (.inl (3, 0, 0, 0, 0, σ)) else (.inl (4, 0, 0, 0, (1 : Int32), σ)))) else (if v1I = 0 then (if v2I = 0 then (.inl (6, 0, 0, 0, (0 : Int32), σ)) else (.inl (5, 0, 0, 0, 0, σ))) else (.inl (5, 0, 0, 0, 0, σ))))))))
noncomputable def T_Md_both_1 (s0I : Int32) (σ : AM) : S_Md_both ⊕ Option (Int32 × AM) :=
  .inr (some (s0I, σ))
noncomputable def T_Md_both_2 (s0I : Int32) (σ : AM) : S_Md_both ⊕ Option (Int32 × AM) :=
  .inr (some (s0I, σ))
noncomputable def T_Md_both_3  (σ : AM) : S_Md_both ⊕ Option (Int32 × AM) :=
  .inl (4, 0, 0, 0, (0 : Int32), σ)
noncomputable def T_Md_both_4 (s0I : Int32) (σ : AM) : S_Md_both ⊕ Option (Int32 × AM) :=
  .inr (some (s0I, σ))
noncomputable def T_Md_both_5  (σ : AM) : S_Md_both ⊕ Option (Int32 × AM) :=
  .inl (6, 0, 0, 0, (1 : Int32), σ)
noncomputable def T_Md_both_6 (s0I : Int32) (σ : AM) : S_Md_both ⊕ Option (Int32 × AM) :=
  .inr (some (s0I, σ))
noncomputable def F_Md_both : S_Md_both → S_Md_both ⊕ Option (Int32 × AM) := fun s => match s.1 with
  | 0 => T_Md_both_0 (s.2.1) (s.2.2.1) (s.2.2.2.1) (s.2.2.2.2.2)
  | 1 => T_Md_both_1 (s.2.2.2.2.1) (s.2.2.2.2.2)
  | 2 => T_Md_both_2 (s.2.2.2.2.1) (s.2.2.2.2.2)
  | 3 => T_Md_both_3  (s.2.2.2.2.2)
  | 4 => T_Md_both_4 (s.2.2.2.2.1) (s.2.2.2.2.2)
  | 5 => T_Md_both_5  (s.2.2.2.2.2)
  | _ => T_Md_both_6 (s.2.2.2.2.1) (s.2.2.2.2.2)
noncomputable def L_Md_both_0 (v0I : Int32) (v1I : Int32) (v2I : Int32) (σ : AM) : Option (Int32 × AM) := lp F_Md_both (0, v0I, v1I, v2I, 0, σ)
noncomputable def L_Md_both_1 (s0I : Int32) (σ : AM) : Option (Int32 × AM) := lp F_Md_both (1, 0, 0, 0, s0I, σ)
noncomputable def L_Md_both_2 (s0I : Int32) (σ : AM) : Option (Int32 × AM) := lp F_Md_both (2, 0, 0, 0, s0I, σ)
noncomputable def L_Md_both_3  (σ : AM) : Option (Int32 × AM) := lp F_Md_both (3, 0, 0, 0, 0, σ)
noncomputable def L_Md_both_4 (s0I : Int32) (σ : AM) : Option (Int32 × AM) := lp F_Md_both (4, 0, 0, 0, s0I, σ)
noncomputable def L_Md_both_5  (σ : AM) : Option (Int32 × AM) := lp F_Md_both (5, 0, 0, 0, 0, σ)
noncomputable def L_Md_both_6 (s0I : Int32) (σ : AM) : Option (Int32 × AM) := lp F_Md_both (6, 0, 0, 0, s0I, σ)
set_option maxRecDepth 20000 in
theorem E_Md_both_0 (v0I : Int32) (v1I : Int32) (v2I : Int32) (σ : AM) : L_Md_both_0 v0I v1I v2I σ = (if v0I = (4 : Int32) then ((some ((v1I + v2I), σ))) else (if v0I = (5 : Int32) then ((some ((v1I - v2I), σ))) else (if v0I = (6 : Int32) then ((some ((v1I * v2I), σ))) else (if v0I = (7 : Int32) then (if v1I < v2I then (L_Md_both_1 ((1 : Int32)) σ) else (L_Md_both_1 ((0 : Int32)) σ)) else (if v0I = (8 : Int32) then (if v1I = v2I then (L_Md_both_2 ((1 : Int32)) σ) else (L_Md_both_2 ((0 : Int32)) σ)) else (if v0I = (9 : Int32) then (if v1I = 0 then (L_Md_both_3 σ) else (if v2I = 0 then (L_Md_both_3 σ) else (L_Md_both_4 ((1 : Int32)) σ))) else (if v1I = 0 then (if v2I = 0 then (L_Md_both_6 ((0 : Int32)) σ) else (L_Md_both_5 σ)) else (L_Md_both_5 σ)))))))) := by
  unfold L_Md_both_0
  rw [lp_eq]
  show lpK (lp F_Md_both) (T_Md_both_0 v0I v1I v2I σ) = _
  unfold T_Md_both_0
  simp only [lpK_ite, lq_inl, lq_inr, lpK_bnd, lpK_gd, lq_let]
  try rfl
set_option maxRecDepth 20000 in
theorem E_Md_both_1 (s0I : Int32) (σ : AM) : L_Md_both_1 s0I σ = ((some (s0I, σ))) := by
  unfold L_Md_both_1
  rw [lp_eq]
  show lpK (lp F_Md_both) (T_Md_both_1 s0I σ) = _
  unfold T_Md_both_1
  simp only [lpK_ite, lq_inl, lq_inr, lpK_bnd, lpK_gd, lq_let]
  try rfl
set_option maxRecDepth 20000 in
theorem E_Md_both_2 (s0I : Int32) (σ : AM) : L_Md_both_2 s0I σ = ((some (s0I, σ))) := by
  unfold L_Md_both_2
  rw [lp_eq]
  show lpK (lp F_Md_both) (T_Md_both_2 s0I σ) = _
  unfold T_Md_both_2
  simp only [lpK_ite, lq_inl, lq_inr, lpK_bnd, lpK_gd, lq_let]
  try rfl
set_option maxRecDepth 20000 in
theorem E_Md_both_3  (σ : AM) : L_Md_both_3  σ = (L_Md_both_4 ((0 : Int32)) σ) := by
  unfold L_Md_both_3
  rw [lp_eq]
  show lpK (lp F_Md_both) (T_Md_both_3  σ) = _
  unfold T_Md_both_3
  simp only [lpK_ite, lq_inl, lq_inr, lpK_bnd, lpK_gd, lq_let]
  try rfl
set_option maxRecDepth 20000 in
theorem E_Md_both_4 (s0I : Int32) (σ : AM) : L_Md_both_4 s0I σ = ((some (s0I, σ))) := by
  unfold L_Md_both_4
  rw [lp_eq]
  show lpK (lp F_Md_both) (T_Md_both_4 s0I σ) = _
  unfold T_Md_both_4
  simp only [lpK_ite, lq_inl, lq_inr, lpK_bnd, lpK_gd, lq_let]
  try rfl
set_option maxRecDepth 20000 in
theorem E_Md_both_5  (σ : AM) : L_Md_both_5  σ = (L_Md_both_6 ((1 : Int32)) σ) := by
  unfold L_Md_both_5
  rw [lp_eq]
  show lpK (lp F_Md_both) (T_Md_both_5  σ) = _
  unfold T_Md_both_5
  simp only [lpK_ite, lq_inl, lq_inr, lpK_bnd, lpK_gd, lq_let]
  try rfl
set_option maxRecDepth 20000 in
theorem E_Md_both_6 (s0I : Int32) (σ : AM) : L_Md_both_6 s0I σ = ((some (s0I, σ))) := by
  unfold L_Md_both_6
  rw [lp_eq]
  show lpK (lp F_Md_both) (T_Md_both_6 s0I σ) = _
  unfold T_Md_both_6
  simp only [lpK_ite, lq_inl, lq_inr, lpK_bnd, lpK_gd, lq_let]
  try rfl
noncomputable def M_Md_both (v0I : Int32) (v1I : Int32) (v2I : Int32) (σ : AM) : Option (Int32 × AM) := mw σ (L_Md_both_0 v0I v1I v2I σ)
def I_Md_both (G : GX) (p : Program) (l : Launch) (e : Env) (s : State) (m : MethodId) (args : Array Value) (below : List Frame) (meth : Method) (c : Code) (z0 u0 n : Nat) : Prop :=
  (∀ (v0I : Int32) (v1I : Int32) (v2I : Int32) (σ : AM), VX (QM eI G args s below z0 u0) G p l e s m args below meth c 0 z0 u0 3 (lpn F_Md_both n (0, v0I, v1I, v2I, 0, σ)) 0 [(0, .int v0I), (1, .int v1I), (2, .int v2I)] [] σ) ∧
  (∀ (s0I : Int32) (σ : AM), VX (QM eI G args s below z0 u0) G p l e s m args below meth c 0 z0 u0 3 (lpn F_Md_both n (1, 0, 0, 0, s0I, σ)) 62 [] [.int s0I] σ) ∧
  (∀ (s0I : Int32) (σ : AM), VX (QM eI G args s below z0 u0) G p l e s m args below meth c 0 z0 u0 3 (lpn F_Md_both n (2, 0, 0, 0, s0I, σ)) 73 [] [.int s0I] σ) ∧
  (∀ (σ : AM), VX (QM eI G args s below z0 u0) G p l e s m args below meth c 0 z0 u0 3 (lpn F_Md_both n (3, 0, 0, 0, 0, σ)) 86 [] [] σ) ∧
  (∀ (s0I : Int32) (σ : AM), VX (QM eI G args s below z0 u0) G p l e s m args below meth c 0 z0 u0 3 (lpn F_Md_both n (4, 0, 0, 0, s0I, σ)) 87 [] [.int s0I] σ) ∧
  (∀ (σ : AM), VX (QM eI G args s below z0 u0) G p l e s m args below meth c 0 z0 u0 3 (lpn F_Md_both n (5, 0, 0, 0, 0, σ)) 96 [] [] σ) ∧
  (∀ (s0I : Int32) (σ : AM), VX (QM eI G args s below z0 u0) G p l e s m args below meth c 0 z0 u0 3 (lpn F_Md_both n (6, 0, 0, 0, s0I, σ)) 101 [] [.int s0I] σ)
set_option maxRecDepth 20000 in
theorem s_Md_both_0 {G : GX} {p : Program} {l : Launch} {e : Env} {s : State} {m : MethodId} {args : Array Value} {below : List Frame} {meth : Method} {c : Code} {z0 u0 n : Nat} (C : Cx G p s m args meth c prog_14_method_32_code 3 "BellPlateModel" ((some FieldType.int))) (IH : I_Md_both G p l e s m args below meth c z0 u0 n) (v0I : Int32) (v1I : Int32) (v2I : Int32) (σ : AM) : VX (QM eI G args s below z0 u0) G p l e s m args below meth c 0 z0 u0 3 (lpK (lpn F_Md_both n) (T_Md_both_0 v0I v1I v2I σ)) 0 [(0, .int v0I), (1, .int v1I), (2, .int v2I)] [] σ := by
  unfold T_Md_both_0
  refine x_iload_n C d_Md_both_0 0 rfl ?_
  refine x_split (fun h1 => ?_) (fun h1 => ?_)
  · refine x_tabI (tgt := 40) C h1 d_Md_both_1 (by decide) (by decide) rfl (by decide) ?_
    refine x_iload_n C d_Md_both_40 1 rfl ?_
    refine x_iload_n C d_Md_both_41 2 rfl ?_
    refine x_iadd C d_Md_both_42 ?_
    exact x_iret C d_Md_both_43
  · refine x_split (fun h2 => ?_) (fun h2 => ?_)
    · refine x_tabI (tgt := 44) C h2 d_Md_both_1 (by decide) (by decide) rfl (by decide) ?_
      refine x_iload_n C d_Md_both_44 1 rfl ?_
      refine x_iload_n C d_Md_both_45 2 rfl ?_
      refine x_isub C d_Md_both_46 ?_
      exact x_iret C d_Md_both_47
    · refine x_split (fun h3 => ?_) (fun h3 => ?_)
      · refine x_tabI (tgt := 48) C h3 d_Md_both_1 (by decide) (by decide) rfl (by decide) ?_
        refine x_iload_n C d_Md_both_48 1 rfl ?_
        refine x_iload_n C d_Md_both_49 2 rfl ?_
        refine x_imul C d_Md_both_50 ?_
        exact x_iret C d_Md_both_51
      · refine x_split (fun h4 => ?_) (fun h4 => ?_)
        · refine x_tabI (tgt := 52) C h4 d_Md_both_1 (by decide) (by decide) rfl (by decide) ?_
          refine x_iload_n C d_Md_both_52 1 rfl ?_
          refine x_iload_n C d_Md_both_53 2 rfl ?_
          refine x_icmp_ge (tgt := 61) C d_Md_both_54 (by decide) (fun _ => ?_) (fun _ => ?_)
          · refine x_iconst (v := (1 : Int32)) C d_Md_both_57 (by decide) ?_
            refine x_goto (tgt := 62) C d_Md_both_58 (by decide) ?_
            refine x_lv [] rfl ?_
            exact IH.2.1 ((1 : Int32)) (σ)
          · refine x_iconst (v := (0 : Int32)) C d_Md_both_61 (by decide) ?_
            refine x_lv [] rfl ?_
            exact IH.2.1 ((0 : Int32)) (σ)
        · refine x_split (fun h5 => ?_) (fun h5 => ?_)
          · refine x_tabI (tgt := 63) C h5 d_Md_both_1 (by decide) (by decide) rfl (by decide) ?_
            refine x_iload_n C d_Md_both_63 1 rfl ?_
            refine x_iload_n C d_Md_both_64 2 rfl ?_
            refine x_icmp_ne (tgt := 72) C d_Md_both_65 (by decide) (fun _ => ?_) (fun _ => ?_)
            · refine x_iconst (v := (1 : Int32)) C d_Md_both_68 (by decide) ?_
              refine x_goto (tgt := 73) C d_Md_both_69 (by decide) ?_
              refine x_lv [] rfl ?_
              exact IH.2.2.1 ((1 : Int32)) (σ)
            · refine x_iconst (v := (0 : Int32)) C d_Md_both_72 (by decide) ?_
              refine x_lv [] rfl ?_
              exact IH.2.2.1 ((0 : Int32)) (σ)
          · refine x_split (fun h6 => ?_) (fun h6 => ?_)
            · refine x_tabI (tgt := 74) C h6 d_Md_both_1 (by decide) (by decide) rfl (by decide) ?_
              refine x_iload_n C d_Md_both_74 1 rfl ?_
              refine x_if_eq (tgt := 86) C d_Md_both_75 (by decide) (fun _ => ?_) (fun _ => ?_)
              · refine x_lv [] rfl ?_
                exact IH.2.2.2.1  (σ)
              · refine x_iload_n C d_Md_both_78 2 rfl ?_
                refine x_if_eq (tgt := 86) C d_Md_both_79 (by decide) (fun _ => ?_) (fun _ => ?_)
                · refine x_lv [] rfl ?_
                  exact IH.2.2.2.1  (σ)
                · refine x_iconst (v := (1 : Int32)) C d_Md_both_82 (by decide) ?_
                  refine x_goto (tgt := 87) C d_Md_both_83 (by decide) ?_
                  refine x_lv [] rfl ?_
                  exact IH.2.2.2.2.1 ((1 : Int32)) (σ)
            · refine x_tabO (tgt := 88) C d_Md_both_1 (by have e0 := lv_neT h1 (a := 4) (by decide); have e1 := lv_neT h2 (a := 5) (by decide); have e2 := lv_neT h3 (a := 6) (by decide); have e3 := lv_neT h4 (a := 7) (by decide); have e4 := lv_neT h5 (a := 8) (by decide); have e5 := lv_neT h6 (a := 9) (by decide); omega) (by decide) ?_
              refine x_iload_n C d_Md_both_88 1 rfl ?_
              refine x_if_ne (tgt := 96) C d_Md_both_89 (by decide) (fun _ => ?_) (fun _ => ?_)
              · refine x_iload_n C d_Md_both_92 2 rfl ?_
                refine x_if_eq (tgt := 100) C d_Md_both_93 (by decide) (fun _ => ?_) (fun _ => ?_)
                · refine x_iconst (v := (0 : Int32)) C d_Md_both_100 (by decide) ?_
                  refine x_lv [] rfl ?_
                  exact IH.2.2.2.2.2.2 ((0 : Int32)) (σ)
                · refine x_lv [] rfl ?_
                  exact IH.2.2.2.2.2.1  (σ)
              · refine x_lv [] rfl ?_
                exact IH.2.2.2.2.2.1  (σ)
set_option maxRecDepth 20000 in
theorem s_Md_both_1 {G : GX} {p : Program} {l : Launch} {e : Env} {s : State} {m : MethodId} {args : Array Value} {below : List Frame} {meth : Method} {c : Code} {z0 u0 n : Nat} (C : Cx G p s m args meth c prog_14_method_32_code 3 "BellPlateModel" ((some FieldType.int))) (IH : I_Md_both G p l e s m args below meth c z0 u0 n) (s0I : Int32) (σ : AM) : VX (QM eI G args s below z0 u0) G p l e s m args below meth c 0 z0 u0 3 (lpK (lpn F_Md_both n) (T_Md_both_1 s0I σ)) 62 [] [.int s0I] σ := by
  unfold T_Md_both_1
  exact x_iret C d_Md_both_62
set_option maxRecDepth 20000 in
theorem s_Md_both_2 {G : GX} {p : Program} {l : Launch} {e : Env} {s : State} {m : MethodId} {args : Array Value} {below : List Frame} {meth : Method} {c : Code} {z0 u0 n : Nat} (C : Cx G p s m args meth c prog_14_method_32_code 3 "BellPlateModel" ((some FieldType.int))) (IH : I_Md_both G p l e s m args below meth c z0 u0 n) (s0I : Int32) (σ : AM) : VX (QM eI G args s below z0 u0) G p l e s m args below meth c 0 z0 u0 3 (lpK (lpn F_Md_both n) (T_Md_both_2 s0I σ)) 73 [] [.int s0I] σ := by
  unfold T_Md_both_2
  exact x_iret C d_Md_both_73
set_option maxRecDepth 20000 in
theorem s_Md_both_3 {G : GX} {p : Program} {l : Launch} {e : Env} {s : State} {m : MethodId} {args : Array Value} {below : List Frame} {meth : Method} {c : Code} {z0 u0 n : Nat} (C : Cx G p s m args meth c prog_14_method_32_code 3 "BellPlateModel" ((some FieldType.int))) (IH : I_Md_both G p l e s m args below meth c z0 u0 n)  (σ : AM) : VX (QM eI G args s below z0 u0) G p l e s m args below meth c 0 z0 u0 3 (lpK (lpn F_Md_both n) (T_Md_both_3  σ)) 86 [] [] σ := by
  unfold T_Md_both_3
  refine x_iconst (v := (0 : Int32)) C d_Md_both_86 (by decide) ?_
  exact IH.2.2.2.2.1 ((0 : Int32)) (σ)
set_option maxRecDepth 20000 in
theorem s_Md_both_4 {G : GX} {p : Program} {l : Launch} {e : Env} {s : State} {m : MethodId} {args : Array Value} {below : List Frame} {meth : Method} {c : Code} {z0 u0 n : Nat} (C : Cx G p s m args meth c prog_14_method_32_code 3 "BellPlateModel" ((some FieldType.int))) (IH : I_Md_both G p l e s m args below meth c z0 u0 n) (s0I : Int32) (σ : AM) : VX (QM eI G args s below z0 u0) G p l e s m args below meth c 0 z0 u0 3 (lpK (lpn F_Md_both n) (T_Md_both_4 s0I σ)) 87 [] [.int s0I] σ := by
  unfold T_Md_both_4
  exact x_iret C d_Md_both_87
set_option maxRecDepth 20000 in
theorem s_Md_both_5 {G : GX} {p : Program} {l : Launch} {e : Env} {s : State} {m : MethodId} {args : Array Value} {below : List Frame} {meth : Method} {c : Code} {z0 u0 n : Nat} (C : Cx G p s m args meth c prog_14_method_32_code 3 "BellPlateModel" ((some FieldType.int))) (IH : I_Md_both G p l e s m args below meth c z0 u0 n)  (σ : AM) : VX (QM eI G args s below z0 u0) G p l e s m args below meth c 0 z0 u0 3 (lpK (lpn F_Md_both n) (T_Md_both_5  σ)) 96 [] [] σ := by
  unfold T_Md_both_5
  refine x_iconst (v := (1 : Int32)) C d_Md_both_96 (by decide) ?_
  refine x_goto (tgt := 101) C d_Md_both_97 (by decide) ?_
  exact IH.2.2.2.2.2.2 ((1 : Int32)) (σ)
set_option maxRecDepth 20000 in
theorem s_Md_both_6 {G : GX} {p : Program} {l : Launch} {e : Env} {s : State} {m : MethodId} {args : Array Value} {below : List Frame} {meth : Method} {c : Code} {z0 u0 n : Nat} (C : Cx G p s m args meth c prog_14_method_32_code 3 "BellPlateModel" ((some FieldType.int))) (IH : I_Md_both G p l e s m args below meth c z0 u0 n) (s0I : Int32) (σ : AM) : VX (QM eI G args s below z0 u0) G p l e s m args below meth c 0 z0 u0 3 (lpK (lpn F_Md_both n) (T_Md_both_6 s0I σ)) 101 [] [.int s0I] σ := by
  unfold T_Md_both_6
  exact x_iret C d_Md_both_101
theorem i_Md_both {G : GX} {p : Program} {l : Launch} {e : Env} {s : State} {m : MethodId} {args : Array Value} {below : List Frame} {meth : Method} {c : Code} {z0 u0 : Nat} (C : Cx G p s m args meth c prog_14_method_32_code 3 "BellPlateModel" ((some FieldType.int))) (n : Nat) : I_Md_both G p l e s m args below meth c z0 u0 n := by
  induction n with
  | zero => exact ⟨fun _ _ _ _ => x_none, fun _ _ => x_none, fun _ _ => x_none, fun _ => x_none, fun _ _ => x_none, fun _ => x_none, fun _ _ => x_none⟩
  | succ n IH => exact ⟨fun v0I v1I v2I σ => s_Md_both_0 C IH v0I v1I v2I σ, fun s0I σ => s_Md_both_1 C IH s0I σ, fun s0I σ => s_Md_both_2 C IH s0I σ, fun σ => s_Md_both_3 C IH σ, fun s0I σ => s_Md_both_4 C IH s0I σ, fun σ => s_Md_both_5 C IH σ, fun s0I σ => s_Md_both_6 C IH s0I σ⟩
theorem c_Md_both (G : GX) (l : Launch) (v0I : Int32) (v1I : Int32) (v2I : Int32) (σ : AM) : CT eI G l 0 y_Md_both prog_14_method_32_code 3 ((some FieldType.int)) [.int v0I, .int v1I, .int v2I] σ (M_Md_both v0I v1I v2I σ) := by
  refine ct_of (by decide +kernel) (Nat.le_of_ble_eq_true rfl) (fun p e s m args below meth c C hin => ?_)
  refine x_lve (lv' := [(0, .int v0I), (1, .int v1I), (2, .int v2I)]) rfl ?_
  intro r σ' h
  obtain ⟨n, hn⟩ := (lp_iff _ _ _).mp h
  exact (i_Md_both C n).1 v0I v1I v2I σ r σ' hn
/-! BellPlateModel.worthAt(I)I -/
abbrev y_Md_worthAt : MethodName := ⟨"BellPlateModel", "worthAt", "(I)I"⟩
theorem k_Md_worthAt : y_Md_worthAt.cls ≠ "java/lang/invoke/MethodHandle" ∧ y_Md_worthAt.cls ≠ "java/lang/invoke/VarHandle" ∧ (parseMethodDescriptor y_Md_worthAt.desc).map (fun d => d.parameters.length) = some 1 := by decide +kernel
theorem d_Md_worthAt_0 : decode prog_14_method_31_code 0 = .ok (.iconst 0, 1) := by decide +kernel
theorem d_Md_worthAt_1 : decode prog_14_method_31_code 1 = .ok (.istore_n 2, 1) := by decide +kernel
theorem d_Md_worthAt_2 : decode prog_14_method_31_code 2 = .ok (.iload_n 1, 1) := by decide +kernel
theorem d_Md_worthAt_3 : decode prog_14_method_31_code 3 = .ok (.istore_n 3, 1) := by decide +kernel
theorem d_Md_worthAt_4 : decode prog_14_method_31_code 4 = .ok (.aload_n 0, 1) := by decide +kernel
theorem d_Md_worthAt_5 : decode prog_14_method_31_code 5 = .ok (.getfield 63, 3) := by decide +kernel
theorem d_Md_worthAt_8 : decode prog_14_method_31_code 8 = .ok (.iload_n 3, 1) := by decide +kernel
theorem d_Md_worthAt_9 : decode prog_14_method_31_code 9 = .ok (.iaload, 1) := by decide +kernel
theorem d_Md_worthAt_10 : decode prog_14_method_31_code 10 = .ok (.ifCond .eq 130, 3) := by decide +kernel
theorem d_Md_worthAt_13 : decode prog_14_method_31_code 13 = .ok (.aload_n 0, 1) := by decide +kernel
theorem d_Md_worthAt_14 : decode prog_14_method_31_code 14 = .ok (.getfield 63, 3) := by decide +kernel
theorem d_Md_worthAt_17 : decode prog_14_method_31_code 17 = .ok (.iload_n 3, 1) := by decide +kernel
theorem d_Md_worthAt_18 : decode prog_14_method_31_code 18 = .ok (.iaload, 1) := by decide +kernel
theorem d_Md_worthAt_19 : decode prog_14_method_31_code 19 = .ok (.istore 4, 2) := by decide +kernel
theorem d_Md_worthAt_21 : decode prog_14_method_31_code 21 = .ok (.iload 4, 2) := by decide +kernel
theorem d_Md_worthAt_23 : decode prog_14_method_31_code 23 = .ok (.iconst 1, 1) := by decide +kernel
theorem d_Md_worthAt_24 : decode prog_14_method_31_code 24 = .ok (.if_icmp .eq 9, 3) := by decide +kernel
theorem d_Md_worthAt_27 : decode prog_14_method_31_code 27 = .ok (.iload 4, 2) := by decide +kernel
theorem d_Md_worthAt_29 : decode prog_14_method_31_code 29 = .ok (.iconst 2, 1) := by decide +kernel
theorem d_Md_worthAt_30 : decode prog_14_method_31_code 30 = .ok (.if_icmp .ne 41, 3) := by decide +kernel
theorem d_Md_worthAt_33 : decode prog_14_method_31_code 33 = .ok (.aload_n 0, 1) := by decide +kernel
theorem d_Md_worthAt_34 : decode prog_14_method_31_code 34 = .ok (.getfield 72, 3) := by decide +kernel
theorem d_Md_worthAt_37 : decode prog_14_method_31_code 37 = .ok (.iload_n 2, 1) := by decide +kernel
theorem d_Md_worthAt_38 : decode prog_14_method_31_code 38 = .ok (.iload 4, 2) := by decide +kernel
theorem d_Md_worthAt_40 : decode prog_14_method_31_code 40 = .ok (.iconst 1, 1) := by decide +kernel
theorem d_Md_worthAt_41 : decode prog_14_method_31_code 41 = .ok (.if_icmp .ne 12, 3) := by decide +kernel
theorem d_Md_worthAt_44 : decode prog_14_method_31_code 44 = .ok (.aload_n 0, 1) := by decide +kernel
theorem d_Md_worthAt_45 : decode prog_14_method_31_code 45 = .ok (.getfield 66, 3) := by decide +kernel
theorem d_Md_worthAt_48 : decode prog_14_method_31_code 48 = .ok (.iload_n 3, 1) := by decide +kernel
theorem d_Md_worthAt_49 : decode prog_14_method_31_code 49 = .ok (.iaload, 1) := by decide +kernel
theorem d_Md_worthAt_50 : decode prog_14_method_31_code 50 = .ok (.goto 14, 3) := by decide +kernel
theorem d_Md_worthAt_53 : decode prog_14_method_31_code 53 = .ok (.aload_n 0, 1) := by decide +kernel
theorem d_Md_worthAt_54 : decode prog_14_method_31_code 54 = .ok (.getfield 69, 3) := by decide +kernel
theorem d_Md_worthAt_57 : decode prog_14_method_31_code 57 = .ok (.aload_n 0, 1) := by decide +kernel
theorem d_Md_worthAt_58 : decode prog_14_method_31_code 58 = .ok (.getfield 66, 3) := by decide +kernel
theorem d_Md_worthAt_61 : decode prog_14_method_31_code 61 = .ok (.iload_n 3, 1) := by decide +kernel
theorem d_Md_worthAt_62 : decode prog_14_method_31_code 62 = .ok (.iaload, 1) := by decide +kernel
theorem d_Md_worthAt_63 : decode prog_14_method_31_code 63 = .ok (.iaload, 1) := by decide +kernel
theorem d_Md_worthAt_64 : decode prog_14_method_31_code 64 = .ok (.iastore, 1) := by decide +kernel
theorem d_Md_worthAt_65 : decode prog_14_method_31_code 65 = .ok (.iinc 2 1, 3) := by decide +kernel
theorem d_Md_worthAt_68 : decode prog_14_method_31_code 68 = .ok (.goto 66, 3) := by decide +kernel
theorem d_Md_worthAt_71 : decode prog_14_method_31_code 71 = .ok (.iload 4, 2) := by decide +kernel
theorem d_Md_worthAt_73 : decode prog_14_method_31_code 73 = .ok (.iconst 3, 1) := by decide +kernel
theorem d_Md_worthAt_74 : decode prog_14_method_31_code 74 = .ok (.if_icmp .ne 30, 3) := by decide +kernel
theorem d_Md_worthAt_77 : decode prog_14_method_31_code 77 = .ok (.aload_n 0, 1) := by decide +kernel
theorem d_Md_worthAt_78 : decode prog_14_method_31_code 78 = .ok (.getfield 72, 3) := by decide +kernel
theorem d_Md_worthAt_81 : decode prog_14_method_31_code 81 = .ok (.iload_n 2, 1) := by decide +kernel
theorem d_Md_worthAt_82 : decode prog_14_method_31_code 82 = .ok (.iconst 1, 1) := by decide +kernel
theorem d_Md_worthAt_83 : decode prog_14_method_31_code 83 = .ok (.isub, 1) := by decide +kernel
theorem d_Md_worthAt_84 : decode prog_14_method_31_code 84 = .ok (.aload_n 0, 1) := by decide +kernel
theorem d_Md_worthAt_85 : decode prog_14_method_31_code 85 = .ok (.getfield 72, 3) := by decide +kernel
theorem d_Md_worthAt_88 : decode prog_14_method_31_code 88 = .ok (.iload_n 2, 1) := by decide +kernel
theorem d_Md_worthAt_89 : decode prog_14_method_31_code 89 = .ok (.iconst 1, 1) := by decide +kernel
theorem d_Md_worthAt_90 : decode prog_14_method_31_code 90 = .ok (.isub, 1) := by decide +kernel
theorem d_Md_worthAt_91 : decode prog_14_method_31_code 91 = .ok (.iaload, 1) := by decide +kernel
theorem d_Md_worthAt_92 : decode prog_14_method_31_code 92 = .ok (.ifCond .ne 7, 3) := by decide +kernel
theorem d_Md_worthAt_95 : decode prog_14_method_31_code 95 = .ok (.iconst 1, 1) := by decide +kernel
theorem d_Md_worthAt_96 : decode prog_14_method_31_code 96 = .ok (.goto 4, 3) := by decide +kernel
theorem d_Md_worthAt_99 : decode prog_14_method_31_code 99 = .ok (.iconst 0, 1) := by decide +kernel
theorem d_Md_worthAt_100 : decode prog_14_method_31_code 100 = .ok (.iastore, 1) := by decide +kernel
theorem d_Md_worthAt_101 : decode prog_14_method_31_code 101 = .ok (.goto 33, 3) := by decide +kernel
theorem d_Md_worthAt_104 : decode prog_14_method_31_code 104 = .ok (.iinc 2 (-1), 3) := by decide +kernel
theorem d_Md_worthAt_107 : decode prog_14_method_31_code 107 = .ok (.aload_n 0, 1) := by decide +kernel
theorem d_Md_worthAt_108 : decode prog_14_method_31_code 108 = .ok (.getfield 72, 3) := by decide +kernel
theorem d_Md_worthAt_111 : decode prog_14_method_31_code 111 = .ok (.iload_n 2, 1) := by decide +kernel
theorem d_Md_worthAt_112 : decode prog_14_method_31_code 112 = .ok (.iconst 1, 1) := by decide +kernel
theorem d_Md_worthAt_113 : decode prog_14_method_31_code 113 = .ok (.isub, 1) := by decide +kernel
theorem d_Md_worthAt_114 : decode prog_14_method_31_code 114 = .ok (.iload 4, 2) := by decide +kernel
theorem d_Md_worthAt_116 : decode prog_14_method_31_code 116 = .ok (.aload_n 0, 1) := by decide +kernel
theorem d_Md_worthAt_117 : decode prog_14_method_31_code 117 = .ok (.getfield 72, 3) := by decide +kernel
theorem d_Md_worthAt_120 : decode prog_14_method_31_code 120 = .ok (.iload_n 2, 1) := by decide +kernel
theorem d_Md_worthAt_121 : decode prog_14_method_31_code 121 = .ok (.iconst 1, 1) := by decide +kernel
theorem d_Md_worthAt_122 : decode prog_14_method_31_code 122 = .ok (.isub, 1) := by decide +kernel
theorem d_Md_worthAt_123 : decode prog_14_method_31_code 123 = .ok (.iaload, 1) := by decide +kernel
theorem d_Md_worthAt_124 : decode prog_14_method_31_code 124 = .ok (.aload_n 0, 1) := by decide +kernel
theorem d_Md_worthAt_125 : decode prog_14_method_31_code 125 = .ok (.getfield 72, 3) := by decide +kernel
theorem d_Md_worthAt_128 : decode prog_14_method_31_code 128 = .ok (.iload_n 2, 1) := by decide +kernel
theorem d_Md_worthAt_129 : decode prog_14_method_31_code 129 = .ok (.iaload, 1) := by decide +kernel
theorem d_Md_worthAt_130 : decode prog_14_method_31_code 130 = .ok (.invokestatic 299, 3) := by decide +kernel
theorem d_Md_worthAt_133 : decode prog_14_method_31_code 133 = .ok (.iastore, 1) := by decide +kernel
theorem d_Md_worthAt_134 : decode prog_14_method_31_code 134 = .ok (.iinc 3 1, 3) := by decide +kernel
theorem d_Md_worthAt_137 : decode prog_14_method_31_code 137 = .ok (.goto (-133), 3) := by decide +kernel
theorem d_Md_worthAt_140 : decode prog_14_method_31_code 140 = .ok (.aload_n 0, 1) := by decide +kernel
theorem d_Md_worthAt_141 : decode prog_14_method_31_code 141 = .ok (.getfield 72, 3) := by decide +kernel
theorem d_Md_worthAt_144 : decode prog_14_method_31_code 144 = .ok (.iconst 0, 1) := by decide +kernel
theorem d_Md_worthAt_145 : decode prog_14_method_31_code 145 = .ok (.iaload, 1) := by decide +kernel
theorem d_Md_worthAt_146 : decode prog_14_method_31_code 146 = .ok (.ireturn, 1) := by decide +kernel
abbrev S_Md_worthAt : Type := Nat × Nat × Int32 × Int32 × Int32 × Int32 × Nat × Int32 × Int32 × AM
noncomputable def T_Md_worthAt_0 (v0R : Nat) (v1I : Int32) (σ : AM) : S_Md_worthAt ⊕ Option (Int32 × AM) :=
  .inl (1, v0R, 0, (0 : Int32), v1I, 0, 0, 0, 0, σ)
noncomputable def T_Md_worthAt_1 (v0R : Nat) (v2I : Int32) (v3I : Int32) (σ : AM) : S_Md_worthAt ⊕ Option (Int32 × AM) :=
  gdT (okO σ v0R 12) <| gdT (okO σ (aR σ v0R 20) 101) <| gdT (inB v3I (aN σ (aR σ v0R 20))) <| if (aI σ (aR σ v0R 20) v3I.toNatClampNeg) = 0 then (gdT (okO σ (aR σ v0R 25) 101) <| gdT (inB (0 : Int32) (aN σ (aR σ v0R 25))) <| .inr (some ((aI σ (aR σ v0R 25) (0 : Int32).toNatClampNeg), σ))) else (letT (aI σ (aR σ v0R 20) v3I.toNatClampNeg) fun x6 => if x6 = (1 : Int32) then (.inl (2, v0R, 0, v2I, v3I, x6, 0, 0, 0, σ)) else (if x6 = (2 : Int32) then (.inl (2, v0R, 0, v2I, v3I, x6, 0, 0, 0, σ)) else (if x6 = (3 : Int32) then (gdT (okO σ (aR σ v0R 25) 101) <| gdT (inB (v2I - (1 : Int32)) (aN σ (aR σ v0R 25))) <| if (aI σ (aR σ v0R 25) (v2I - (1 : Int32)).toNatClampNeg) = 0 then (.inl (4, v0R, 0, v2I, v3I, 0, aR σ v0R 25, v2I - (1 : Int32), (1 : Int32), σ)) else (.inl (4, v0R, 0, v2I, v3I, 0, aR σ v0R 25, v2I - (1 : Int32), (0 : Int32), σ))) else (gdT (okO σ (aR σ v0R 25) 101) <| gdT (inB ((v2I + ((-1) : Int32)) - (1 : Int32)) (aN σ (aR σ v0R 25))) <| gdT (inB (v2I + ((-1) : Int32)) (aN σ (aR σ v0R 25))) <| bndT (M_Md_both x6 (aI σ (aR σ v0R 25) ((v2I + ((-1) : Int32)) - (1 : Int32)).toNatClampNeg) (aI σ (aR σ v0R 25) (v2I + ((-1) : Int32)).toNatClampNeg) σ) fun r12 σ13 => gdT (okO σ13 (aR σ v0R 25) 101) <| gdT (inB ((v2I + ((-1) : Int32)) - (1 : Int32)) (aN σ13 (aR σ v0R 25))) <| letT (sI σ13 (aR σ v0R 25) ((v2I + ((-1) : Int32)) - (1 : Int32)).toNatClampNeg r12) fun σ16 => .inl (5, v0R, 0, v2I + ((-1) : Int32), v3I, 0, 0, 0, 0, σ16)))))
noncomputable def T_Md_worthAt_2 (v0R : Nat) (v2I : Int32) (v3I : Int32) (v4I : Int32) (σ : AM) : S_Md_worthAt ⊕ Option (Int32 × AM) :=
  gdT (okO σ v0R 12) <| gdT (okO σ (aR σ v0R 25) 101) <| if v4I = (1 : Int32) then (gdT (okO σ (aR σ v0R 21) 101) <| gdT (inB v3I (aN σ (aR σ v0R 21))) <| .inl (3, v0R, 0, v2I, v3I, 0, aR σ v0R 25, v2I, aI σ (aR σ v0R 21) v3I.toNatClampNeg, σ)) else (gdT (okO σ (aR σ v0R 24) 101) <| gdT (okO σ (aR σ v0R 21) 101) <| gdT (inB v3I (aN σ (aR σ v0R 21))) <| gdT (inB (aI σ (aR σ v0R 21) v3I.toNatClampNeg) (aN σ (aR σ v0R 24))) <| .inl (3, v0R, 0, v2I, v3I, 0, aR σ v0R 25, v2I, aI σ (aR σ v0R 24) (aI σ (aR σ v0R 21) v3I.toNatClampNeg).toNatClampNeg, σ))
noncomputable def T_Md_worthAt_3 (v0R : Nat) (v2I : Int32) (v3I : Int32) (s0R : Nat) (s1I : Int32) (s2I : Int32) (σ : AM) : S_Md_worthAt ⊕ Option (Int32 × AM) :=
  gdT (okO σ s0R 101) <| gdT (inB s1I (aN σ s0R)) <| letT (sI σ s0R s1I.toNatClampNeg s2I) fun σ3 => .inl (5, v0R, 0, v2I + (1 : Int32), v3I, 0, 0, 0, 0, σ3)
noncomputable def T_Md_worthAt_4 (v0R : Nat) (v2I : Int32) (v3I : Int32) (s0R : Nat) (s1I : Int32) (s2I : Int32) (σ : AM) : S_Md_worthAt ⊕ Option (Int32 × AM) :=
  gdT (okO σ s0R 101) <| gdT (inB s1I (aN σ s0R)) <| letT (sI σ s0R s1I.toNatClampNeg s2I) fun σ3 => .inl (5, v0R, 0, v2I, v3I, 0, 0, 0, 0, σ3)
noncomputable def T_Md_worthAt_5 (v0R : Nat) (v2I : Int32) (v3I : Int32) (σ : AM) : S_Md_worthAt ⊕ Option (Int32 × AM) :=
  .inl (1, v0R, 0, v2I, v3I + (1 : Int32), 0, 0, 0, 0, σ)
noncomputable def F_Md_worthAt : S_Md_worthAt → S_Md_worthAt ⊕ Option (Int32 × AM) := fun s => match s.1 with
  | 0 => T_Md_worthAt_0 (s.2.1) (s.2.2.1) (s.2.2.2.2.2.2.2.2.2)
  | 1 => T_Md_worthAt_1 (s.2.1) (s.2.2.2.1) (s.2.2.2.2.1) (s.2.2.2.2.2.2.2.2.2)
  | 2 => T_Md_worthAt_2 (s.2.1) (s.2.2.2.1) (s.2.2.2.2.1) (s.2.2.2.2.2.1) (s.2.2.2.2.2.2.2.2.2)
  | 3 => T_Md_worthAt_3 (s.2.1) (s.2.2.2.1) (s.2.2.2.2.1) (s.2.2.2.2.2.2.1) (s.2.2.2.2.2.2.2.1) (s.2.2.2.2.2.2.2.2.1) (s.2.2.2.2.2.2.2.2.2)
  | 4 => T_Md_worthAt_4 (s.2.1) (s.2.2.2.1) (s.2.2.2.2.1) (s.2.2.2.2.2.2.1) (s.2.2.2.2.2.2.2.1) (s.2.2.2.2.2.2.2.2.1) (s.2.2.2.2.2.2.2.2.2)
  | _ => T_Md_worthAt_5 (s.2.1) (s.2.2.2.1) (s.2.2.2.2.1) (s.2.2.2.2.2.2.2.2.2)
noncomputable def L_Md_worthAt_0 (v0R : Nat) (v1I : Int32) (σ : AM) : Option (Int32 × AM) := lp F_Md_worthAt (0, v0R, v1I, 0, 0, 0, 0, 0, 0, σ)
noncomputable def L_Md_worthAt_1 (v0R : Nat) (v2I : Int32) (v3I : Int32) (σ : AM) : Option (Int32 × AM) := lp F_Md_worthAt (1, v0R, 0, v2I, v3I, 0, 0, 0, 0, σ)
noncomputable def L_Md_worthAt_2 (v0R : Nat) (v2I : Int32) (v3I : Int32) (v4I : Int32) (σ : AM) : Option (Int32 × AM) := lp F_Md_worthAt (2, v0R, 0, v2I, v3I, v4I, 0, 0, 0, σ)
noncomputable def L_Md_worthAt_3 (v0R : Nat) (v2I : Int32) (v3I : Int32) (s0R : Nat) (s1I : Int32) (s2I : Int32) (σ : AM) : Option (Int32 × AM) := lp F_Md_worthAt (3, v0R, 0, v2I, v3I, 0, s0R, s1I, s2I, σ)
noncomputable def L_Md_worthAt_4 (v0R : Nat) (v2I : Int32) (v3I : Int32) (s0R : Nat) (s1I : Int32) (s2I : Int32) (σ : AM) : Option (Int32 × AM) := lp F_Md_worthAt (4, v0R, 0, v2I, v3I, 0, s0R, s1I, s2I, σ)
noncomputable def L_Md_worthAt_5 (v0R : Nat) (v2I : Int32) (v3I : Int32) (σ : AM) : Option (Int32 × AM) := lp F_Md_worthAt (5, v0R, 0, v2I, v3I, 0, 0, 0, 0, σ)
set_option maxRecDepth 20000 in
theorem E_Md_worthAt_0 (v0R : Nat) (v1I : Int32) (σ : AM) : L_Md_worthAt_0 v0R v1I σ = (L_Md_worthAt_1 v0R ((0 : Int32)) v1I σ) := by
  unfold L_Md_worthAt_0
  rw [lp_eq]
  show lpK (lp F_Md_worthAt) (T_Md_worthAt_0 v0R v1I σ) = _
  unfold T_Md_worthAt_0
  simp only [lpK_ite, lq_inl, lq_inr, lpK_bnd, lpK_gd, lq_let]
  try rfl
set_option maxRecDepth 20000 in
theorem E_Md_worthAt_1 (v0R : Nat) (v2I : Int32) (v3I : Int32) (σ : AM) : L_Md_worthAt_1 v0R v2I v3I σ = (gd (okO σ v0R 12) <| gd (okO σ (aR σ v0R 20) 101) <| gd (inB v3I (aN σ (aR σ v0R 20))) <| if (aI σ (aR σ v0R 20) v3I.toNatClampNeg) = 0 then (gd (okO σ (aR σ v0R 25) 101) <| gd (inB (0 : Int32) (aN σ (aR σ v0R 25))) <| (some ((aI σ (aR σ v0R 25) (0 : Int32).toNatClampNeg), σ))) else (letT (aI σ (aR σ v0R 20) v3I.toNatClampNeg) fun x6 => if x6 = (1 : Int32) then (L_Md_worthAt_2 v0R v2I v3I x6 σ) else (if x6 = (2 : Int32) then (L_Md_worthAt_2 v0R v2I v3I x6 σ) else (if x6 = (3 : Int32) then (gd (okO σ (aR σ v0R 25) 101) <| gd (inB (v2I - (1 : Int32)) (aN σ (aR σ v0R 25))) <| if (aI σ (aR σ v0R 25) (v2I - (1 : Int32)).toNatClampNeg) = 0 then (L_Md_worthAt_4 v0R v2I v3I (aR σ v0R 25) (v2I - (1 : Int32)) ((1 : Int32)) σ) else (L_Md_worthAt_4 v0R v2I v3I (aR σ v0R 25) (v2I - (1 : Int32)) ((0 : Int32)) σ)) else (gd (okO σ (aR σ v0R 25) 101) <| gd (inB ((v2I + ((-1) : Int32)) - (1 : Int32)) (aN σ (aR σ v0R 25))) <| gd (inB (v2I + ((-1) : Int32)) (aN σ (aR σ v0R 25))) <| bnd (M_Md_both x6 (aI σ (aR σ v0R 25) ((v2I + ((-1) : Int32)) - (1 : Int32)).toNatClampNeg) (aI σ (aR σ v0R 25) (v2I + ((-1) : Int32)).toNatClampNeg) σ) fun r12 σ13 => gd (okO σ13 (aR σ v0R 25) 101) <| gd (inB ((v2I + ((-1) : Int32)) - (1 : Int32)) (aN σ13 (aR σ v0R 25))) <| letT (sI σ13 (aR σ v0R 25) ((v2I + ((-1) : Int32)) - (1 : Int32)).toNatClampNeg r12) fun σ16 => L_Md_worthAt_5 v0R (v2I + ((-1) : Int32)) v3I σ16))))) := by
  unfold L_Md_worthAt_1
  rw [lp_eq]
  show lpK (lp F_Md_worthAt) (T_Md_worthAt_1 v0R v2I v3I σ) = _
  unfold T_Md_worthAt_1
  simp only [lpK_ite, lq_inl, lq_inr, lpK_bnd, lpK_gd, lq_let]
  try rfl
set_option maxRecDepth 20000 in
theorem E_Md_worthAt_2 (v0R : Nat) (v2I : Int32) (v3I : Int32) (v4I : Int32) (σ : AM) : L_Md_worthAt_2 v0R v2I v3I v4I σ = (gd (okO σ v0R 12) <| gd (okO σ (aR σ v0R 25) 101) <| if v4I = (1 : Int32) then (gd (okO σ (aR σ v0R 21) 101) <| gd (inB v3I (aN σ (aR σ v0R 21))) <| L_Md_worthAt_3 v0R v2I v3I (aR σ v0R 25) v2I (aI σ (aR σ v0R 21) v3I.toNatClampNeg) σ) else (gd (okO σ (aR σ v0R 24) 101) <| gd (okO σ (aR σ v0R 21) 101) <| gd (inB v3I (aN σ (aR σ v0R 21))) <| gd (inB (aI σ (aR σ v0R 21) v3I.toNatClampNeg) (aN σ (aR σ v0R 24))) <| L_Md_worthAt_3 v0R v2I v3I (aR σ v0R 25) v2I (aI σ (aR σ v0R 24) (aI σ (aR σ v0R 21) v3I.toNatClampNeg).toNatClampNeg) σ)) := by
  unfold L_Md_worthAt_2
  rw [lp_eq]
  show lpK (lp F_Md_worthAt) (T_Md_worthAt_2 v0R v2I v3I v4I σ) = _
  unfold T_Md_worthAt_2
  simp only [lpK_ite, lq_inl, lq_inr, lpK_bnd, lpK_gd, lq_let]
  try rfl
set_option maxRecDepth 20000 in
theorem E_Md_worthAt_3 (v0R : Nat) (v2I : Int32) (v3I : Int32) (s0R : Nat) (s1I : Int32) (s2I : Int32) (σ : AM) : L_Md_worthAt_3 v0R v2I v3I s0R s1I s2I σ = (gd (okO σ s0R 101) <| gd (inB s1I (aN σ s0R)) <| letT (sI σ s0R s1I.toNatClampNeg s2I) fun σ3 => L_Md_worthAt_5 v0R (v2I + (1 : Int32)) v3I σ3) := by
  unfold L_Md_worthAt_3
  rw [lp_eq]
  show lpK (lp F_Md_worthAt) (T_Md_worthAt_3 v0R v2I v3I s0R s1I s2I σ) = _
  unfold T_Md_worthAt_3
  simp only [lpK_ite, lq_inl, lq_inr, lpK_bnd, lpK_gd, lq_let]
  try rfl
set_option maxRecDepth 20000 in
theorem E_Md_worthAt_4 (v0R : Nat) (v2I : Int32) (v3I : Int32) (s0R : Nat) (s1I : Int32) (s2I : Int32) (σ : AM) : L_Md_worthAt_4 v0R v2I v3I s0R s1I s2I σ = (gd (okO σ s0R 101) <| gd (inB s1I (aN σ s0R)) <| letT (sI σ s0R s1I.toNatClampNeg s2I) fun σ3 => L_Md_worthAt_5 v0R v2I v3I σ3) := by
  unfold L_Md_worthAt_4
  rw [lp_eq]
  show lpK (lp F_Md_worthAt) (T_Md_worthAt_4 v0R v2I v3I s0R s1I s2I σ) = _
  unfold T_Md_worthAt_4
  simp only [lpK_ite, lq_inl, lq_inr, lpK_bnd, lpK_gd, lq_let]
  try rfl
set_option maxRecDepth 20000 in
theorem E_Md_worthAt_5 (v0R : Nat) (v2I : Int32) (v3I : Int32) (σ : AM) : L_Md_worthAt_5 v0R v2I v3I σ = (L_Md_worthAt_1 v0R v2I (v3I + (1 : Int32)) σ) := by
  unfold L_Md_worthAt_5
  rw [lp_eq]
  show lpK (lp F_Md_worthAt) (T_Md_worthAt_5 v0R v2I v3I σ) = _
  unfold T_Md_worthAt_5
  simp only [lpK_ite, lq_inl, lq_inr, lpK_bnd, lpK_gd, lq_let]
  try rfl
noncomputable def M_Md_worthAt (v0R : Nat) (v1I : Int32) (σ : AM) : Option (Int32 × AM) := mw σ (L_Md_worthAt_0 v0R v1I σ)
def I_Md_worthAt (G : GX) (p : Program) (l : Launch) (e : Env) (s : State) (m : MethodId) (args : Array Value) (below : List Frame) (meth : Method) (c : Code) (z0 u0 n : Nat) : Prop :=
  (∀ (v0R : Nat) (v1I : Int32) (σ : AM), VX (QM eI G args s below z0 u0) G p l e s m args below meth c 1 z0 u0 5 (lpn F_Md_worthAt n (0, v0R, v1I, 0, 0, 0, 0, 0, 0, σ)) 0 [(0, .ref v0R), (1, .int v1I)] [] σ) ∧
  (∀ (v0R : Nat) (v2I : Int32) (v3I : Int32) (σ : AM), VX (QM eI G args s below z0 u0) G p l e s m args below meth c 1 z0 u0 5 (lpn F_Md_worthAt n (1, v0R, 0, v2I, v3I, 0, 0, 0, 0, σ)) 4 [(0, .ref v0R), (2, .int v2I), (3, .int v3I)] [] σ) ∧
  (∀ (v0R : Nat) (v2I : Int32) (v3I : Int32) (v4I : Int32) (σ : AM), VX (QM eI G args s below z0 u0) G p l e s m args below meth c 1 z0 u0 5 (lpn F_Md_worthAt n (2, v0R, 0, v2I, v3I, v4I, 0, 0, 0, σ)) 33 [(0, .ref v0R), (2, .int v2I), (3, .int v3I), (4, .int v4I)] [] σ) ∧
  (∀ (v0R : Nat) (v2I : Int32) (v3I : Int32) (s0R : Nat) (s1I : Int32) (s2I : Int32) (σ : AM), VX (QM eI G args s below z0 u0) G p l e s m args below meth c 1 z0 u0 5 (lpn F_Md_worthAt n (3, v0R, 0, v2I, v3I, 0, s0R, s1I, s2I, σ)) 64 [(0, .ref v0R), (2, .int v2I), (3, .int v3I)] [.int s2I, .int s1I, .ref s0R] σ) ∧
  (∀ (v0R : Nat) (v2I : Int32) (v3I : Int32) (s0R : Nat) (s1I : Int32) (s2I : Int32) (σ : AM), VX (QM eI G args s below z0 u0) G p l e s m args below meth c 1 z0 u0 5 (lpn F_Md_worthAt n (4, v0R, 0, v2I, v3I, 0, s0R, s1I, s2I, σ)) 100 [(0, .ref v0R), (2, .int v2I), (3, .int v3I)] [.int s2I, .int s1I, .ref s0R] σ) ∧
  (∀ (v0R : Nat) (v2I : Int32) (v3I : Int32) (σ : AM), VX (QM eI G args s below z0 u0) G p l e s m args below meth c 1 z0 u0 5 (lpn F_Md_worthAt n (5, v0R, 0, v2I, v3I, 0, 0, 0, 0, σ)) 134 [(0, .ref v0R), (2, .int v2I), (3, .int v3I)] [] σ)
set_option maxRecDepth 20000 in
theorem s_Md_worthAt_0 {G : GX} {p : Program} {l : Launch} {e : Env} {s : State} {m : MethodId} {args : Array Value} {below : List Frame} {meth : Method} {c : Code} {z0 u0 n : Nat} (C : Cx G p s m args meth c prog_14_method_31_code 5 "BellPlateModel" ((some FieldType.int))) (IH : I_Md_worthAt G p l e s m args below meth c z0 u0 n) (v0R : Nat) (v1I : Int32) (σ : AM) : VX (QM eI G args s below z0 u0) G p l e s m args below meth c 1 z0 u0 5 (lpK (lpn F_Md_worthAt n) (T_Md_worthAt_0 v0R v1I σ)) 0 [(0, .ref v0R), (1, .int v1I)] [] σ := by
  unfold T_Md_worthAt_0
  refine x_iconst (v := (0 : Int32)) C d_Md_worthAt_0 (by decide) ?_
  refine x_istore_n (lv' := [(2, .int (0 : Int32)), (0, .ref v0R), (1, .int v1I)]) C d_Md_worthAt_1 (by decide) rfl rfl ?_
  refine x_iload_n C d_Md_worthAt_2 2 rfl ?_
  refine x_istore_n (lv' := [(3, .int v1I), (2, .int (0 : Int32)), (0, .ref v0R), (1, .int v1I)]) C d_Md_worthAt_3 (by decide) rfl rfl ?_
  refine x_lv [2, 1, 0] rfl ?_
  exact IH.2.1 v0R ((0 : Int32)) v1I (σ)
set_option maxRecDepth 20000 in
theorem s_Md_worthAt_1 {G : GX} {p : Program} {l : Launch} {e : Env} {s : State} {m : MethodId} {args : Array Value} {below : List Frame} {meth : Method} {c : Code} {z0 u0 n : Nat} (C : Cx G p s m args meth c prog_14_method_31_code 5 "BellPlateModel" ((some FieldType.int))) (IH : I_Md_worthAt G p l e s m args below meth c z0 u0 n) (v0R : Nat) (v2I : Int32) (v3I : Int32) (σ : AM) : VX (QM eI G args s below z0 u0) G p l e s m args below meth c 1 z0 u0 5 (lpK (lpn F_Md_worthAt n) (T_Md_worthAt_1 v0R v2I v3I σ)) 4 [(0, .ref v0R), (2, .int v2I), (3, .int v3I)] [] σ := by
  unfold T_Md_worthAt_1
  refine x_aload_n C d_Md_worthAt_4 0 rfl ?_
  refine x_gd (fun h1 => ?_)
  refine x_gd (fun h2 => ?_)
  refine x_getR (k := 20) (kv := 101) C (okO_iff.mp h1) rfl j11_ok (by decide) rfl (okO_iff.mp h2) (by decide) w1872 d_Md_worthAt_5 ?_
  refine x_iload_n C d_Md_worthAt_8 2 rfl ?_
  refine x_gd (fun h3 => ?_)
  refine x_aldI C (okO_iff.mp h2) (inB_iff.mp h3) d_Md_worthAt_9 ?_
  refine x_if_eq (tgt := 140) C d_Md_worthAt_10 (by decide) (fun _ => ?_) (fun _ => ?_)
  · refine x_aload_n C d_Md_worthAt_140 0 rfl ?_
    refine x_gd (fun h4 => ?_)
    refine x_getR (k := 25) (kv := 101) C (okO_iff.mp h1) rfl j11_ok (by decide) rfl (okO_iff.mp h4) (by decide) w1877 d_Md_worthAt_141 ?_
    refine x_iconst (v := (0 : Int32)) C d_Md_worthAt_144 (by decide) ?_
    refine x_gd (fun h5 => ?_)
    refine x_aldI C (okO_iff.mp h4) (inB_iff.mp h5) d_Md_worthAt_145 ?_
    exact x_iret C d_Md_worthAt_146
  · refine x_aload_n C d_Md_worthAt_13 0 rfl ?_
    refine x_getR (k := 20) (kv := 101) C (okO_iff.mp h1) rfl j11_ok (by decide) rfl (okO_iff.mp h2) (by decide) w1872 d_Md_worthAt_14 ?_
    refine x_iload_n C d_Md_worthAt_17 2 rfl ?_
    refine x_aldI C (okO_iff.mp h2) (inB_iff.mp h3) d_Md_worthAt_18 ?_
    refine x_letI (fun x6 _ => ?_)
    refine x_istore (lv' := [(4, .int x6), (0, .ref v0R), (2, .int v2I), (3, .int v3I)]) C d_Md_worthAt_19 (by decide) rfl ?_
    refine x_iload C d_Md_worthAt_21 0 rfl ?_
    refine x_iconst (v := (1 : Int32)) C d_Md_worthAt_23 (by decide) ?_
    refine x_icmp_eq (tgt := 33) C d_Md_worthAt_24 (by decide) (fun _ => ?_) (fun _ => ?_)
    · refine x_lv [1, 2, 3, 0] rfl ?_
      exact IH.2.2.1 v0R v2I v3I x6 (σ)
    · refine x_iload C d_Md_worthAt_27 0 rfl ?_
      refine x_iconst (v := (2 : Int32)) C d_Md_worthAt_29 (by decide) ?_
      refine x_icmp_ne (tgt := 71) C d_Md_worthAt_30 (by decide) (fun _ => ?_) (fun _ => ?_)
      · refine x_lv [1, 2, 3, 0] rfl ?_
        exact IH.2.2.1 v0R v2I v3I x6 (σ)
      · refine x_iload C d_Md_worthAt_71 0 rfl ?_
        refine x_iconst (v := (3 : Int32)) C d_Md_worthAt_73 (by decide) ?_
        refine x_icmp_ne (tgt := 104) C d_Md_worthAt_74 (by decide) (fun _ => ?_) (fun _ => ?_)
        · refine x_aload_n C d_Md_worthAt_77 1 rfl ?_
          refine x_gd (fun h7 => ?_)
          refine x_getR (k := 25) (kv := 101) C (okO_iff.mp h1) rfl j11_ok (by decide) rfl (okO_iff.mp h7) (by decide) w1877 d_Md_worthAt_78 ?_
          refine x_iload_n C d_Md_worthAt_81 2 rfl ?_
          refine x_iconst (v := (1 : Int32)) C d_Md_worthAt_82 (by decide) ?_
          refine x_isub C d_Md_worthAt_83 ?_
          refine x_aload_n C d_Md_worthAt_84 1 rfl ?_
          refine x_getR (k := 25) (kv := 101) C (okO_iff.mp h1) rfl j11_ok (by decide) rfl (okO_iff.mp h7) (by decide) w1877 d_Md_worthAt_85 ?_
          refine x_iload_n C d_Md_worthAt_88 2 rfl ?_
          refine x_iconst (v := (1 : Int32)) C d_Md_worthAt_89 (by decide) ?_
          refine x_isub C d_Md_worthAt_90 ?_
          refine x_gd (fun h8 => ?_)
          refine x_aldI C (okO_iff.mp h7) (inB_iff.mp h8) d_Md_worthAt_91 ?_
          refine x_if_ne (tgt := 99) C d_Md_worthAt_92 (by decide) (fun _ => ?_) (fun _ => ?_)
          · refine x_iconst (v := (1 : Int32)) C d_Md_worthAt_95 (by decide) ?_
            refine x_goto (tgt := 100) C d_Md_worthAt_96 (by decide) ?_
            refine x_lv [1, 2, 3] rfl ?_
            exact IH.2.2.2.2.1 v0R v2I v3I (aR σ v0R 25) (v2I - (1 : Int32)) ((1 : Int32)) (σ)
          · refine x_iconst (v := (0 : Int32)) C d_Md_worthAt_99 (by decide) ?_
            refine x_lv [1, 2, 3] rfl ?_
            exact IH.2.2.2.2.1 v0R v2I v3I (aR σ v0R 25) (v2I - (1 : Int32)) ((0 : Int32)) (σ)
        · refine x_iinc (v := v2I + ((-1) : Int32)) (lv' := [(2, .int (v2I + ((-1) : Int32))), (4, .int x6), (0, .ref v0R), (3, .int v3I)]) C d_Md_worthAt_104 2 rfl rfl (by decide) rfl ?_
          refine x_aload_n C d_Md_worthAt_107 2 rfl ?_
          refine x_gd (fun h9 => ?_)
          refine x_getR (k := 25) (kv := 101) C (okO_iff.mp h1) rfl j11_ok (by decide) rfl (okO_iff.mp h9) (by decide) w1877 d_Md_worthAt_108 ?_
          refine x_iload_n C d_Md_worthAt_111 0 rfl ?_
          refine x_iconst (v := (1 : Int32)) C d_Md_worthAt_112 (by decide) ?_
          refine x_isub C d_Md_worthAt_113 ?_
          refine x_iload C d_Md_worthAt_114 1 rfl ?_
          refine x_aload_n C d_Md_worthAt_116 2 rfl ?_
          refine x_getR (k := 25) (kv := 101) C (okO_iff.mp h1) rfl j11_ok (by decide) rfl (okO_iff.mp h9) (by decide) w1877 d_Md_worthAt_117 ?_
          refine x_iload_n C d_Md_worthAt_120 0 rfl ?_
          refine x_iconst (v := (1 : Int32)) C d_Md_worthAt_121 (by decide) ?_
          refine x_isub C d_Md_worthAt_122 ?_
          refine x_gd (fun h10 => ?_)
          refine x_aldI C (okO_iff.mp h9) (inB_iff.mp h10) d_Md_worthAt_123 ?_
          refine x_aload_n C d_Md_worthAt_124 2 rfl ?_
          refine x_getR (k := 25) (kv := 101) C (okO_iff.mp h1) rfl j11_ok (by decide) rfl (okO_iff.mp h9) (by decide) w1877 d_Md_worthAt_125 ?_
          refine x_iload_n C d_Md_worthAt_128 0 rfl ?_
          refine x_gd (fun h11 => ?_)
          refine x_aldI C (okO_iff.mp h9) (inB_iff.mp h11) d_Md_worthAt_129 ?_
          refine x_callSI (As := [.int x6, .int (aI σ (aR σ v0R 25) ((v2I + ((-1) : Int32)) - (1 : Int32)).toNatClampNeg), .int (aI σ (aR σ v0R 25) (v2I + ((-1) : Int32)).toNatClampNeg)]) C (c_Md_both G l x6 (aI σ (aR σ v0R 25) ((v2I + ((-1) : Int32)) - (1 : Int32)).toNatClampNeg) (aI σ (aR σ v0R 25) (v2I + ((-1) : Int32)).toNatClampNeg) σ) w1841 w1840 w1842 w134 k_Md_both rfl (by decide) (by decide) rfl (Nat.le_of_ble_eq_true rfl) d_Md_worthAt_130 (fun r12 σ13 => ?_)
          refine x_gd (fun h14 => ?_)
          refine x_gd (fun h15 => ?_)
          refine x_astI C (okO_iff.mp h14) (inB_iff.mp h15) d_Md_worthAt_133 ?_
          refine x_letS (fun σ16 e17 => ?_)
          refine x_lv [2, 0, 3] rfl ?_
          exact IH.2.2.2.2.2 v0R (v2I + ((-1) : Int32)) v3I (σ16)
set_option maxRecDepth 20000 in
theorem s_Md_worthAt_2 {G : GX} {p : Program} {l : Launch} {e : Env} {s : State} {m : MethodId} {args : Array Value} {below : List Frame} {meth : Method} {c : Code} {z0 u0 n : Nat} (C : Cx G p s m args meth c prog_14_method_31_code 5 "BellPlateModel" ((some FieldType.int))) (IH : I_Md_worthAt G p l e s m args below meth c z0 u0 n) (v0R : Nat) (v2I : Int32) (v3I : Int32) (v4I : Int32) (σ : AM) : VX (QM eI G args s below z0 u0) G p l e s m args below meth c 1 z0 u0 5 (lpK (lpn F_Md_worthAt n) (T_Md_worthAt_2 v0R v2I v3I v4I σ)) 33 [(0, .ref v0R), (2, .int v2I), (3, .int v3I), (4, .int v4I)] [] σ := by
  unfold T_Md_worthAt_2
  refine x_aload_n C d_Md_worthAt_33 0 rfl ?_
  refine x_gd (fun h1 => ?_)
  refine x_gd (fun h2 => ?_)
  refine x_getR (k := 25) (kv := 101) C (okO_iff.mp h1) rfl j11_ok (by decide) rfl (okO_iff.mp h2) (by decide) w1877 d_Md_worthAt_34 ?_
  refine x_iload_n C d_Md_worthAt_37 1 rfl ?_
  refine x_iload C d_Md_worthAt_38 3 rfl ?_
  refine x_iconst (v := (1 : Int32)) C d_Md_worthAt_40 (by decide) ?_
  refine x_icmp_ne (tgt := 53) C d_Md_worthAt_41 (by decide) (fun _ => ?_) (fun _ => ?_)
  · refine x_aload_n C d_Md_worthAt_44 0 rfl ?_
    refine x_gd (fun h3 => ?_)
    refine x_getR (k := 21) (kv := 101) C (okO_iff.mp h1) rfl j11_ok (by decide) rfl (okO_iff.mp h3) (by decide) w1873 d_Md_worthAt_45 ?_
    refine x_iload_n C d_Md_worthAt_48 2 rfl ?_
    refine x_gd (fun h4 => ?_)
    refine x_aldI C (okO_iff.mp h3) (inB_iff.mp h4) d_Md_worthAt_49 ?_
    refine x_goto (tgt := 64) C d_Md_worthAt_50 (by decide) ?_
    refine x_lv [0, 1, 2] rfl ?_
    exact IH.2.2.2.1 v0R v2I v3I (aR σ v0R 25) v2I (aI σ (aR σ v0R 21) v3I.toNatClampNeg) (σ)
  · refine x_aload_n C d_Md_worthAt_53 0 rfl ?_
    refine x_gd (fun h5 => ?_)
    refine x_getR (k := 24) (kv := 101) C (okO_iff.mp h1) rfl j11_ok (by decide) rfl (okO_iff.mp h5) (by decide) w1876 d_Md_worthAt_54 ?_
    refine x_aload_n C d_Md_worthAt_57 0 rfl ?_
    refine x_gd (fun h6 => ?_)
    refine x_getR (k := 21) (kv := 101) C (okO_iff.mp h1) rfl j11_ok (by decide) rfl (okO_iff.mp h6) (by decide) w1873 d_Md_worthAt_58 ?_
    refine x_iload_n C d_Md_worthAt_61 2 rfl ?_
    refine x_gd (fun h7 => ?_)
    refine x_aldI C (okO_iff.mp h6) (inB_iff.mp h7) d_Md_worthAt_62 ?_
    refine x_gd (fun h8 => ?_)
    refine x_aldI C (okO_iff.mp h5) (inB_iff.mp h8) d_Md_worthAt_63 ?_
    refine x_lv [0, 1, 2] rfl ?_
    exact IH.2.2.2.1 v0R v2I v3I (aR σ v0R 25) v2I (aI σ (aR σ v0R 24) (aI σ (aR σ v0R 21) v3I.toNatClampNeg).toNatClampNeg) (σ)
set_option maxRecDepth 20000 in
theorem s_Md_worthAt_3 {G : GX} {p : Program} {l : Launch} {e : Env} {s : State} {m : MethodId} {args : Array Value} {below : List Frame} {meth : Method} {c : Code} {z0 u0 n : Nat} (C : Cx G p s m args meth c prog_14_method_31_code 5 "BellPlateModel" ((some FieldType.int))) (IH : I_Md_worthAt G p l e s m args below meth c z0 u0 n) (v0R : Nat) (v2I : Int32) (v3I : Int32) (s0R : Nat) (s1I : Int32) (s2I : Int32) (σ : AM) : VX (QM eI G args s below z0 u0) G p l e s m args below meth c 1 z0 u0 5 (lpK (lpn F_Md_worthAt n) (T_Md_worthAt_3 v0R v2I v3I s0R s1I s2I σ)) 64 [(0, .ref v0R), (2, .int v2I), (3, .int v3I)] [.int s2I, .int s1I, .ref s0R] σ := by
  unfold T_Md_worthAt_3
  refine x_gd (fun h1 => ?_)
  refine x_gd (fun h2 => ?_)
  refine x_astI C (okO_iff.mp h1) (inB_iff.mp h2) d_Md_worthAt_64 ?_
  refine x_letS (fun σ3 e4 => ?_)
  refine x_iinc (v := v2I + (1 : Int32)) (lv' := [(2, .int (v2I + (1 : Int32))), (0, .ref v0R), (3, .int v3I)]) C d_Md_worthAt_65 1 rfl rfl (by decide) rfl ?_
  refine x_goto (tgt := 134) C d_Md_worthAt_68 (by decide) ?_
  refine x_lv [1, 0, 2] rfl ?_
  exact IH.2.2.2.2.2 v0R (v2I + (1 : Int32)) v3I (σ3)
set_option maxRecDepth 20000 in
theorem s_Md_worthAt_4 {G : GX} {p : Program} {l : Launch} {e : Env} {s : State} {m : MethodId} {args : Array Value} {below : List Frame} {meth : Method} {c : Code} {z0 u0 n : Nat} (C : Cx G p s m args meth c prog_14_method_31_code 5 "BellPlateModel" ((some FieldType.int))) (IH : I_Md_worthAt G p l e s m args below meth c z0 u0 n) (v0R : Nat) (v2I : Int32) (v3I : Int32) (s0R : Nat) (s1I : Int32) (s2I : Int32) (σ : AM) : VX (QM eI G args s below z0 u0) G p l e s m args below meth c 1 z0 u0 5 (lpK (lpn F_Md_worthAt n) (T_Md_worthAt_4 v0R v2I v3I s0R s1I s2I σ)) 100 [(0, .ref v0R), (2, .int v2I), (3, .int v3I)] [.int s2I, .int s1I, .ref s0R] σ := by
  unfold T_Md_worthAt_4
  refine x_gd (fun h1 => ?_)
  refine x_gd (fun h2 => ?_)
  refine x_astI C (okO_iff.mp h1) (inB_iff.mp h2) d_Md_worthAt_100 ?_
  refine x_letS (fun σ3 e4 => ?_)
  refine x_goto (tgt := 134) C d_Md_worthAt_101 (by decide) ?_
  exact IH.2.2.2.2.2 v0R v2I v3I (σ3)
set_option maxRecDepth 20000 in
theorem s_Md_worthAt_5 {G : GX} {p : Program} {l : Launch} {e : Env} {s : State} {m : MethodId} {args : Array Value} {below : List Frame} {meth : Method} {c : Code} {z0 u0 n : Nat} (C : Cx G p s m args meth c prog_14_method_31_code 5 "BellPlateModel" ((some FieldType.int))) (IH : I_Md_worthAt G p l e s m args below meth c z0 u0 n) (v0R : Nat) (v2I : Int32) (v3I : Int32) (σ : AM) : VX (QM eI G args s below z0 u0) G p l e s m args below meth c 1 z0 u0 5 (lpK (lpn F_Md_worthAt n) (T_Md_worthAt_5 v0R v2I v3I σ)) 134 [(0, .ref v0R), (2, .int v2I), (3, .int v3I)] [] σ := by
  unfold T_Md_worthAt_5
  refine x_iinc (v := v3I + (1 : Int32)) (lv' := [(3, .int (v3I + (1 : Int32))), (0, .ref v0R), (2, .int v2I)]) C d_Md_worthAt_134 2 rfl rfl (by decide) rfl ?_
  refine x_goto (tgt := 4) C d_Md_worthAt_137 (by decide) ?_
  refine x_lv [1, 2, 0] rfl ?_
  exact IH.2.1 v0R v2I (v3I + (1 : Int32)) (σ)
theorem i_Md_worthAt {G : GX} {p : Program} {l : Launch} {e : Env} {s : State} {m : MethodId} {args : Array Value} {below : List Frame} {meth : Method} {c : Code} {z0 u0 : Nat} (C : Cx G p s m args meth c prog_14_method_31_code 5 "BellPlateModel" ((some FieldType.int))) (n : Nat) : I_Md_worthAt G p l e s m args below meth c z0 u0 n := by
  induction n with
  | zero => exact ⟨fun _ _ _ => x_none, fun _ _ _ _ => x_none, fun _ _ _ _ _ => x_none, fun _ _ _ _ _ _ _ => x_none, fun _ _ _ _ _ _ _ => x_none, fun _ _ _ _ => x_none⟩
  | succ n IH => exact ⟨fun v0R v1I σ => s_Md_worthAt_0 C IH v0R v1I σ, fun v0R v2I v3I σ => s_Md_worthAt_1 C IH v0R v2I v3I σ, fun v0R v2I v3I v4I σ => s_Md_worthAt_2 C IH v0R v2I v3I v4I σ, fun v0R v2I v3I s0R s1I s2I σ => s_Md_worthAt_3 C IH v0R v2I v3I s0R s1I s2I σ, fun v0R v2I v3I s0R s1I s2I σ => s_Md_worthAt_4 C IH v0R v2I v3I s0R s1I s2I σ, fun v0R v2I v3I σ => s_Md_worthAt_5 C IH v0R v2I v3I σ⟩
theorem c_Md_worthAt (G : GX) (l : Launch) (v0R : Nat) (v1I : Int32) (σ : AM) : CT eI G l 1 y_Md_worthAt prog_14_method_31_code 5 ((some FieldType.int)) [.ref v0R, .int v1I] σ (M_Md_worthAt v0R v1I σ) := by
  refine ct_of (by decide +kernel) (Nat.le_of_ble_eq_true rfl) (fun p e s m args below meth c C hin => ?_)
  refine x_lve (lv' := [(0, .ref v0R), (1, .int v1I)]) rfl ?_
  intro r σ' h
  obtain ⟨n, hn⟩ := (lp_iff _ _ _).mp h
  exact (i_Md_worthAt C n).1 v0R v1I σ r σ' hn
/-! BellPlateModel.mayNow()Z -/
abbrev y_Md_mayNow : MethodName := ⟨"BellPlateModel", "mayNow", "()Z"⟩
theorem k_Md_mayNow : y_Md_mayNow.cls ≠ "java/lang/invoke/MethodHandle" ∧ y_Md_mayNow.cls ≠ "java/lang/invoke/VarHandle" ∧ (parseMethodDescriptor y_Md_mayNow.desc).map (fun d => d.parameters.length) = some 0 := by decide +kernel
theorem d_Md_mayNow_0 : decode prog_14_method_37_code 0 = .ok (.aload_n 0, 1) := by decide +kernel
theorem d_Md_mayNow_1 : decode prog_14_method_37_code 1 = .ok (.getfield 69, 3) := by decide +kernel
theorem d_Md_mayNow_4 : decode prog_14_method_37_code 4 = .ok (.bipush 6, 2) := by decide +kernel
theorem d_Md_mayNow_6 : decode prog_14_method_37_code 6 = .ok (.iconst 0, 1) := by decide +kernel
theorem d_Md_mayNow_7 : decode prog_14_method_37_code 7 = .ok (.iastore, 1) := by decide +kernel
theorem d_Md_mayNow_8 : decode prog_14_method_37_code 8 = .ok (.iconst 0, 1) := by decide +kernel
theorem d_Md_mayNow_9 : decode prog_14_method_37_code 9 = .ok (.istore_n 1, 1) := by decide +kernel
theorem d_Md_mayNow_10 : decode prog_14_method_37_code 10 = .ok (.iload_n 1, 1) := by decide +kernel
theorem d_Md_mayNow_11 : decode prog_14_method_37_code 11 = .ok (.aload_n 0, 1) := by decide +kernel
theorem d_Md_mayNow_12 : decode prog_14_method_37_code 12 = .ok (.getfield 239, 3) := by decide +kernel
theorem d_Md_mayNow_15 : decode prog_14_method_37_code 15 = .ok (.if_icmp .ge 37, 3) := by decide +kernel
theorem d_Md_mayNow_18 : decode prog_14_method_37_code 18 = .ok (.aload_n 0, 1) := by decide +kernel
theorem d_Md_mayNow_19 : decode prog_14_method_37_code 19 = .ok (.getfield 69, 3) := by decide +kernel
theorem d_Md_mayNow_22 : decode prog_14_method_37_code 22 = .ok (.iload_n 1, 1) := by decide +kernel
theorem d_Md_mayNow_23 : decode prog_14_method_37_code 23 = .ok (.aload_n 0, 1) := by decide +kernel
theorem d_Md_mayNow_24 : decode prog_14_method_37_code 24 = .ok (.getfield 95, 3) := by decide +kernel
theorem d_Md_mayNow_27 : decode prog_14_method_37_code 27 = .ok (.iload_n 1, 1) := by decide +kernel
theorem d_Md_mayNow_28 : decode prog_14_method_37_code 28 = .ok (.iaload, 1) := by decide +kernel
theorem d_Md_mayNow_29 : decode prog_14_method_37_code 29 = .ok (.iastore, 1) := by decide +kernel
theorem d_Md_mayNow_30 : decode prog_14_method_37_code 30 = .ok (.aload_n 0, 1) := by decide +kernel
theorem d_Md_mayNow_31 : decode prog_14_method_37_code 31 = .ok (.getfield 69, 3) := by decide +kernel
theorem d_Md_mayNow_34 : decode prog_14_method_37_code 34 = .ok (.bipush 6, 2) := by decide +kernel
theorem d_Md_mayNow_36 : decode prog_14_method_37_code 36 = .ok (.dup2, 1) := by decide +kernel
theorem d_Md_mayNow_37 : decode prog_14_method_37_code 37 = .ok (.iaload, 1) := by decide +kernel
theorem d_Md_mayNow_38 : decode prog_14_method_37_code 38 = .ok (.aload_n 0, 1) := by decide +kernel
theorem d_Md_mayNow_39 : decode prog_14_method_37_code 39 = .ok (.getfield 95, 3) := by decide +kernel
theorem d_Md_mayNow_42 : decode prog_14_method_37_code 42 = .ok (.iload_n 1, 1) := by decide +kernel
theorem d_Md_mayNow_43 : decode prog_14_method_37_code 43 = .ok (.iaload, 1) := by decide +kernel
theorem d_Md_mayNow_44 : decode prog_14_method_37_code 44 = .ok (.iadd, 1) := by decide +kernel
theorem d_Md_mayNow_45 : decode prog_14_method_37_code 45 = .ok (.iastore, 1) := by decide +kernel
theorem d_Md_mayNow_46 : decode prog_14_method_37_code 46 = .ok (.iinc 1 1, 3) := by decide +kernel
theorem d_Md_mayNow_49 : decode prog_14_method_37_code 49 = .ok (.goto (-39), 3) := by decide +kernel
theorem d_Md_mayNow_52 : decode prog_14_method_37_code 52 = .ok (.iconst 1, 1) := by decide +kernel
theorem d_Md_mayNow_53 : decode prog_14_method_37_code 53 = .ok (.istore_n 1, 1) := by decide +kernel
theorem d_Md_mayNow_54 : decode prog_14_method_37_code 54 = .ok (.iconst 0, 1) := by decide +kernel
theorem d_Md_mayNow_55 : decode prog_14_method_37_code 55 = .ok (.istore_n 2, 1) := by decide +kernel
theorem d_Md_mayNow_56 : decode prog_14_method_37_code 56 = .ok (.iload_n 2, 1) := by decide +kernel
theorem d_Md_mayNow_57 : decode prog_14_method_37_code 57 = .ok (.aload_n 0, 1) := by decide +kernel
theorem d_Md_mayNow_58 : decode prog_14_method_37_code 58 = .ok (.getfield 242, 3) := by decide +kernel
theorem d_Md_mayNow_61 : decode prog_14_method_37_code 61 = .ok (.if_icmp .ge 32, 3) := by decide +kernel
theorem d_Md_mayNow_64 : decode prog_14_method_37_code 64 = .ok (.iload_n 1, 1) := by decide +kernel
theorem d_Md_mayNow_65 : decode prog_14_method_37_code 65 = .ok (.ifCond .eq 20, 3) := by decide +kernel
theorem d_Md_mayNow_68 : decode prog_14_method_37_code 68 = .ok (.aload_n 0, 1) := by decide +kernel
theorem d_Md_mayNow_69 : decode prog_14_method_37_code 69 = .ok (.aload_n 0, 1) := by decide +kernel
theorem d_Md_mayNow_70 : decode prog_14_method_37_code 70 = .ok (.getfield 57, 3) := by decide +kernel
theorem d_Md_mayNow_73 : decode prog_14_method_37_code 73 = .ok (.iload_n 2, 1) := by decide +kernel
theorem d_Md_mayNow_74 : decode prog_14_method_37_code 74 = .ok (.iaload, 1) := by decide +kernel
theorem d_Md_mayNow_75 : decode prog_14_method_37_code 75 = .ok (.invokevirtual 310, 3) := by decide +kernel
theorem d_Md_mayNow_78 : decode prog_14_method_37_code 78 = .ok (.ifCond .eq 7, 3) := by decide +kernel
theorem d_Md_mayNow_81 : decode prog_14_method_37_code 81 = .ok (.iconst 1, 1) := by decide +kernel
theorem d_Md_mayNow_82 : decode prog_14_method_37_code 82 = .ok (.goto 4, 3) := by decide +kernel
theorem d_Md_mayNow_85 : decode prog_14_method_37_code 85 = .ok (.iconst 0, 1) := by decide +kernel
theorem d_Md_mayNow_86 : decode prog_14_method_37_code 86 = .ok (.istore_n 1, 1) := by decide +kernel
theorem d_Md_mayNow_87 : decode prog_14_method_37_code 87 = .ok (.iinc 2 1, 3) := by decide +kernel
theorem d_Md_mayNow_90 : decode prog_14_method_37_code 90 = .ok (.goto (-34), 3) := by decide +kernel
theorem d_Md_mayNow_93 : decode prog_14_method_37_code 93 = .ok (.iload_n 1, 1) := by decide +kernel
theorem d_Md_mayNow_94 : decode prog_14_method_37_code 94 = .ok (.ireturn, 1) := by decide +kernel
abbrev S_Md_mayNow : Type := Nat × Nat × Int32 × Int32 × Int32 × AM
noncomputable def T_Md_mayNow_0 (v0R : Nat) (σ : AM) : S_Md_mayNow ⊕ Option (Int32 × AM) :=
  gdT (okO σ v0R 12) <| gdT (okO σ (aR σ v0R 24) 101) <| gdT (inB (6 : Int32) (aN σ (aR σ v0R 24))) <| letT (sI σ (aR σ v0R 24) (6 : Int32).toNatClampNeg (0 : Int32)) fun σ4 => .inl (1, v0R, (0 : Int32), 0, 0, σ4)
noncomputable def T_Md_mayNow_1 (v0R : Nat) (v1I : Int32) (σ : AM) : S_Md_mayNow ⊕ Option (Int32 × AM) :=
  gdT (okO σ v0R 12) <| if v1I < (aI σ v0R 10) then (gdT (okO σ (aR σ v0R 24) 101) <| gdT (okO σ (aR σ v0R 34) 101) <| gdT (inB v1I (aN σ (aR σ v0R 34))) <| gdT (inB v1I (aN σ (aR σ v0R 24))) <| letT (sI σ (aR σ v0R 24) v1I.toNatClampNeg (aI σ (aR σ v0R 34) v1I.toNatClampNeg)) fun σ6 => gdT (okO σ6 (aR σ6 v0R 24) 101) <| gdT (inB (6 : Int32) (aN σ6 (aR σ6 v0R 24))) <| gdT (okO σ6 (aR σ6 v0R 34) 101) <| gdT (inB v1I (aN σ6 (aR σ6 v0R 34))) <| letT (sI σ6 (aR σ6 v0R 24) (6 : Int32).toNatClampNeg ((aI σ6 (aR σ6 v0R 24) (6 : Int32).toNatClampNeg) + (aI σ6 (aR σ6 v0R 34) v1I.toNatClampNeg))) fun σ12 => .inl (1, v0R, v1I + (1 : Int32), 0, 0, σ12)) else (.inl (2, v0R, (1 : Int32), (0 : Int32), 0, σ))
noncomputable def T_Md_mayNow_2 (v0R : Nat) (v1I : Int32) (v2I : Int32) (σ : AM) : S_Md_mayNow ⊕ Option (Int32 × AM) :=
  gdT (okO σ v0R 12) <| if v2I < (aI σ v0R 13) then (if v1I = 0 then (.inl (3, v0R, 0, v2I, 0, σ)) else (gdT (okO σ (aR σ v0R 14) 101) <| gdT (inB v2I (aN σ (aR σ v0R 14))) <| bndT (M_Md_worthAt v0R (aI σ (aR σ v0R 14) v2I.toNatClampNeg) σ) fun r4 σ5 => if r4 = 0 then (.inl (3, v0R, 0, v2I, 0, σ5)) else (.inl (4, v0R, 0, v2I, (1 : Int32), σ5)))) else (gdT (isB v1I) <| .inr (some (v1I, σ)))
noncomputable def T_Md_mayNow_3 (v0R : Nat) (v2I : Int32) (σ : AM) : S_Md_mayNow ⊕ Option (Int32 × AM) :=
  .inl (4, v0R, 0, v2I, (0 : Int32), σ)
noncomputable def T_Md_mayNow_4 (v0R : Nat) (v2I : Int32) (s0I : Int32) (σ : AM) : S_Md_mayNow ⊕ Option (Int32 × AM) :=
  .inl (2, v0R, s0I, v2I + (1 : Int32), 0, σ)
noncomputable def F_Md_mayNow : S_Md_mayNow → S_Md_mayNow ⊕ Option (Int32 × AM) := fun s => match s.1 with
  | 0 => T_Md_mayNow_0 (s.2.1) (s.2.2.2.2.2)
  | 1 => T_Md_mayNow_1 (s.2.1) (s.2.2.1) (s.2.2.2.2.2)
  | 2 => T_Md_mayNow_2 (s.2.1) (s.2.2.1) (s.2.2.2.1) (s.2.2.2.2.2)
  | 3 => T_Md_mayNow_3 (s.2.1) (s.2.2.2.1) (s.2.2.2.2.2)
  | _ => T_Md_mayNow_4 (s.2.1) (s.2.2.2.1) (s.2.2.2.2.1) (s.2.2.2.2.2)
noncomputable def L_Md_mayNow_0 (v0R : Nat) (σ : AM) : Option (Int32 × AM) := lp F_Md_mayNow (0, v0R, 0, 0, 0, σ)
noncomputable def L_Md_mayNow_1 (v0R : Nat) (v1I : Int32) (σ : AM) : Option (Int32 × AM) := lp F_Md_mayNow (1, v0R, v1I, 0, 0, σ)
noncomputable def L_Md_mayNow_2 (v0R : Nat) (v1I : Int32) (v2I : Int32) (σ : AM) : Option (Int32 × AM) := lp F_Md_mayNow (2, v0R, v1I, v2I, 0, σ)
noncomputable def L_Md_mayNow_3 (v0R : Nat) (v2I : Int32) (σ : AM) : Option (Int32 × AM) := lp F_Md_mayNow (3, v0R, 0, v2I, 0, σ)
noncomputable def L_Md_mayNow_4 (v0R : Nat) (v2I : Int32) (s0I : Int32) (σ : AM) : Option (Int32 × AM) := lp F_Md_mayNow (4, v0R, 0, v2I, s0I, σ)
set_option maxRecDepth 20000 in
theorem E_Md_mayNow_0 (v0R : Nat) (σ : AM) : L_Md_mayNow_0 v0R σ = (gd (okO σ v0R 12) <| gd (okO σ (aR σ v0R 24) 101) <| gd (inB (6 : Int32) (aN σ (aR σ v0R 24))) <| letT (sI σ (aR σ v0R 24) (6 : Int32).toNatClampNeg (0 : Int32)) fun σ4 => L_Md_mayNow_1 v0R ((0 : Int32)) σ4) := by
  unfold L_Md_mayNow_0
  rw [lp_eq]
  show lpK (lp F_Md_mayNow) (T_Md_mayNow_0 v0R σ) = _
  unfold T_Md_mayNow_0
  simp only [lpK_ite, lq_inl, lq_inr, lpK_bnd, lpK_gd, lq_let]
  try rfl
set_option maxRecDepth 20000 in
theorem E_Md_mayNow_1 (v0R : Nat) (v1I : Int32) (σ : AM) : L_Md_mayNow_1 v0R v1I σ = (gd (okO σ v0R 12) <| if v1I < (aI σ v0R 10) then (gd (okO σ (aR σ v0R 24) 101) <| gd (okO σ (aR σ v0R 34) 101) <| gd (inB v1I (aN σ (aR σ v0R 34))) <| gd (inB v1I (aN σ (aR σ v0R 24))) <| letT (sI σ (aR σ v0R 24) v1I.toNatClampNeg (aI σ (aR σ v0R 34) v1I.toNatClampNeg)) fun σ6 => gd (okO σ6 (aR σ6 v0R 24) 101) <| gd (inB (6 : Int32) (aN σ6 (aR σ6 v0R 24))) <| gd (okO σ6 (aR σ6 v0R 34) 101) <| gd (inB v1I (aN σ6 (aR σ6 v0R 34))) <| letT (sI σ6 (aR σ6 v0R 24) (6 : Int32).toNatClampNeg ((aI σ6 (aR σ6 v0R 24) (6 : Int32).toNatClampNeg) + (aI σ6 (aR σ6 v0R 34) v1I.toNatClampNeg))) fun σ12 => L_Md_mayNow_1 v0R (v1I + (1 : Int32)) σ12) else (L_Md_mayNow_2 v0R ((1 : Int32)) ((0 : Int32)) σ)) := by
  unfold L_Md_mayNow_1
  rw [lp_eq]
  show lpK (lp F_Md_mayNow) (T_Md_mayNow_1 v0R v1I σ) = _
  unfold T_Md_mayNow_1
  simp only [lpK_ite, lq_inl, lq_inr, lpK_bnd, lpK_gd, lq_let]
  try rfl
set_option maxRecDepth 20000 in
theorem E_Md_mayNow_2 (v0R : Nat) (v1I : Int32) (v2I : Int32) (σ : AM) : L_Md_mayNow_2 v0R v1I v2I σ = (gd (okO σ v0R 12) <| if v2I < (aI σ v0R 13) then (if v1I = 0 then (L_Md_mayNow_3 v0R v2I σ) else (gd (okO σ (aR σ v0R 14) 101) <| gd (inB v2I (aN σ (aR σ v0R 14))) <| bnd (M_Md_worthAt v0R (aI σ (aR σ v0R 14) v2I.toNatClampNeg) σ) fun r4 σ5 => if r4 = 0 then (L_Md_mayNow_3 v0R v2I σ5) else (L_Md_mayNow_4 v0R v2I ((1 : Int32)) σ5))) else (gd (isB v1I) <| (some (v1I, σ)))) := by
  unfold L_Md_mayNow_2
  rw [lp_eq]
  show lpK (lp F_Md_mayNow) (T_Md_mayNow_2 v0R v1I v2I σ) = _
  unfold T_Md_mayNow_2
  simp only [lpK_ite, lq_inl, lq_inr, lpK_bnd, lpK_gd, lq_let]
  try rfl
set_option maxRecDepth 20000 in
theorem E_Md_mayNow_3 (v0R : Nat) (v2I : Int32) (σ : AM) : L_Md_mayNow_3 v0R v2I σ = (L_Md_mayNow_4 v0R v2I ((0 : Int32)) σ) := by
  unfold L_Md_mayNow_3
  rw [lp_eq]
  show lpK (lp F_Md_mayNow) (T_Md_mayNow_3 v0R v2I σ) = _
  unfold T_Md_mayNow_3
  simp only [lpK_ite, lq_inl, lq_inr, lpK_bnd, lpK_gd, lq_let]
  try rfl
set_option maxRecDepth 20000 in
theorem E_Md_mayNow_4 (v0R : Nat) (v2I : Int32) (s0I : Int32) (σ : AM) : L_Md_mayNow_4 v0R v2I s0I σ = (L_Md_mayNow_2 v0R s0I (v2I + (1 : Int32)) σ) := by
  unfold L_Md_mayNow_4
  rw [lp_eq]
  show lpK (lp F_Md_mayNow) (T_Md_mayNow_4 v0R v2I s0I σ) = _
  unfold T_Md_mayNow_4
  simp only [lpK_ite, lq_inl, lq_inr, lpK_bnd, lpK_gd, lq_let]
  try rfl
noncomputable def M_Md_mayNow (v0R : Nat) (σ : AM) : Option (Int32 × AM) := mw σ (L_Md_mayNow_0 v0R σ)
def I_Md_mayNow (G : GX) (p : Program) (l : Launch) (e : Env) (s : State) (m : MethodId) (args : Array Value) (below : List Frame) (meth : Method) (c : Code) (z0 u0 n : Nat) : Prop :=
  (∀ (v0R : Nat) (σ : AM), VX (QM eI G args s below z0 u0) G p l e s m args below meth c 2 z0 u0 3 (lpn F_Md_mayNow n (0, v0R, 0, 0, 0, σ)) 0 [(0, .ref v0R)] [] σ) ∧
  (∀ (v0R : Nat) (v1I : Int32) (σ : AM), VX (QM eI G args s below z0 u0) G p l e s m args below meth c 2 z0 u0 3 (lpn F_Md_mayNow n (1, v0R, v1I, 0, 0, σ)) 10 [(0, .ref v0R), (1, .int v1I)] [] σ) ∧
  (∀ (v0R : Nat) (v1I : Int32) (v2I : Int32) (σ : AM), VX (QM eI G args s below z0 u0) G p l e s m args below meth c 2 z0 u0 3 (lpn F_Md_mayNow n (2, v0R, v1I, v2I, 0, σ)) 56 [(0, .ref v0R), (1, .int v1I), (2, .int v2I)] [] σ) ∧
  (∀ (v0R : Nat) (v2I : Int32) (σ : AM), VX (QM eI G args s below z0 u0) G p l e s m args below meth c 2 z0 u0 3 (lpn F_Md_mayNow n (3, v0R, 0, v2I, 0, σ)) 85 [(0, .ref v0R), (2, .int v2I)] [] σ) ∧
  (∀ (v0R : Nat) (v2I : Int32) (s0I : Int32) (σ : AM), VX (QM eI G args s below z0 u0) G p l e s m args below meth c 2 z0 u0 3 (lpn F_Md_mayNow n (4, v0R, 0, v2I, s0I, σ)) 86 [(0, .ref v0R), (2, .int v2I)] [.int s0I] σ)
set_option maxRecDepth 20000 in
theorem s_Md_mayNow_0 {G : GX} {p : Program} {l : Launch} {e : Env} {s : State} {m : MethodId} {args : Array Value} {below : List Frame} {meth : Method} {c : Code} {z0 u0 n : Nat} (C : Cx G p s m args meth c prog_14_method_37_code 3 "BellPlateModel" ((some FieldType.boolean))) (IH : I_Md_mayNow G p l e s m args below meth c z0 u0 n) (v0R : Nat) (σ : AM) : VX (QM eI G args s below z0 u0) G p l e s m args below meth c 2 z0 u0 3 (lpK (lpn F_Md_mayNow n) (T_Md_mayNow_0 v0R σ)) 0 [(0, .ref v0R)] [] σ := by
  unfold T_Md_mayNow_0
  refine x_aload_n C d_Md_mayNow_0 0 rfl ?_
  refine x_gd (fun h1 => ?_)
  refine x_gd (fun h2 => ?_)
  refine x_getR (k := 24) (kv := 101) C (okO_iff.mp h1) rfl j11_ok (by decide) rfl (okO_iff.mp h2) (by decide) w1876 d_Md_mayNow_1 ?_
  refine x_bipush (v := (6 : Int32)) C d_Md_mayNow_4 (by decide) ?_
  refine x_iconst (v := (0 : Int32)) C d_Md_mayNow_6 (by decide) ?_
  refine x_gd (fun h3 => ?_)
  refine x_astI C (okO_iff.mp h2) (inB_iff.mp h3) d_Md_mayNow_7 ?_
  refine x_letS (fun σ4 e5 => ?_)
  refine x_iconst (v := (0 : Int32)) C d_Md_mayNow_8 (by decide) ?_
  refine x_istore_n (lv' := [(1, .int (0 : Int32)), (0, .ref v0R)]) C d_Md_mayNow_9 (by decide) rfl rfl ?_
  refine x_lv [1, 0] rfl ?_
  exact IH.2.1 v0R ((0 : Int32)) (σ4)
set_option maxRecDepth 20000 in
theorem s_Md_mayNow_1 {G : GX} {p : Program} {l : Launch} {e : Env} {s : State} {m : MethodId} {args : Array Value} {below : List Frame} {meth : Method} {c : Code} {z0 u0 n : Nat} (C : Cx G p s m args meth c prog_14_method_37_code 3 "BellPlateModel" ((some FieldType.boolean))) (IH : I_Md_mayNow G p l e s m args below meth c z0 u0 n) (v0R : Nat) (v1I : Int32) (σ : AM) : VX (QM eI G args s below z0 u0) G p l e s m args below meth c 2 z0 u0 3 (lpK (lpn F_Md_mayNow n) (T_Md_mayNow_1 v0R v1I σ)) 10 [(0, .ref v0R), (1, .int v1I)] [] σ := by
  unfold T_Md_mayNow_1
  refine x_iload_n C d_Md_mayNow_10 1 rfl ?_
  refine x_aload_n C d_Md_mayNow_11 0 rfl ?_
  refine x_gd (fun h1 => ?_)
  refine x_getI (k := 10) C (okO_iff.mp h1) rfl j11_ok (by decide) rfl w1862 d_Md_mayNow_12 ?_
  refine x_icmp_ge (tgt := 52) C d_Md_mayNow_15 (by decide) (fun _ => ?_) (fun _ => ?_)
  · refine x_aload_n C d_Md_mayNow_18 0 rfl ?_
    refine x_gd (fun h2 => ?_)
    refine x_getR (k := 24) (kv := 101) C (okO_iff.mp h1) rfl j11_ok (by decide) rfl (okO_iff.mp h2) (by decide) w1876 d_Md_mayNow_19 ?_
    refine x_iload_n C d_Md_mayNow_22 1 rfl ?_
    refine x_aload_n C d_Md_mayNow_23 0 rfl ?_
    refine x_gd (fun h3 => ?_)
    refine x_getR (k := 34) (kv := 101) C (okO_iff.mp h1) rfl j11_ok (by decide) rfl (okO_iff.mp h3) (by decide) w1886 d_Md_mayNow_24 ?_
    refine x_iload_n C d_Md_mayNow_27 1 rfl ?_
    refine x_gd (fun h4 => ?_)
    refine x_aldI C (okO_iff.mp h3) (inB_iff.mp h4) d_Md_mayNow_28 ?_
    refine x_gd (fun h5 => ?_)
    refine x_astI C (okO_iff.mp h2) (inB_iff.mp h5) d_Md_mayNow_29 ?_
    refine x_letS (fun σ6 e7 => ?_)
    refine x_aload_n C d_Md_mayNow_30 0 rfl ?_
    refine x_gd (fun h8 => ?_)
    refine x_getR (k := 24) (kv := 101) C (by first | exact (okO_iff.mp h1) | (rw [e7]; exact (okO_iff.mp h1))) rfl j11_ok (by decide) rfl (okO_iff.mp h8) (by decide) w1876 d_Md_mayNow_31 ?_
    refine x_bipush (v := (6 : Int32)) C d_Md_mayNow_34 (by decide) ?_
    refine x_dup2 C d_Md_mayNow_36 rfl rfl ?_
    refine x_gd (fun h9 => ?_)
    refine x_aldI C (okO_iff.mp h8) (inB_iff.mp h9) d_Md_mayNow_37 ?_
    refine x_aload_n C d_Md_mayNow_38 0 rfl ?_
    refine x_gd (fun h10 => ?_)
    refine x_getR (k := 34) (kv := 101) C (by first | exact (okO_iff.mp h1) | (rw [e7]; exact (okO_iff.mp h1))) rfl j11_ok (by decide) rfl (okO_iff.mp h10) (by decide) w1886 d_Md_mayNow_39 ?_
    refine x_iload_n C d_Md_mayNow_42 1 rfl ?_
    refine x_gd (fun h11 => ?_)
    refine x_aldI C (okO_iff.mp h10) (inB_iff.mp h11) d_Md_mayNow_43 ?_
    refine x_iadd C d_Md_mayNow_44 ?_
    refine x_astI C (okO_iff.mp h8) (inB_iff.mp h9) d_Md_mayNow_45 ?_
    refine x_letS (fun σ12 e13 => ?_)
    refine x_iinc (v := v1I + (1 : Int32)) (lv' := [(1, .int (v1I + (1 : Int32))), (0, .ref v0R)]) C d_Md_mayNow_46 1 rfl rfl (by decide) rfl ?_
    refine x_goto (tgt := 10) C d_Md_mayNow_49 (by decide) ?_
    refine x_lv [1, 0] rfl ?_
    exact IH.2.1 v0R (v1I + (1 : Int32)) (σ12)
  · refine x_iconst (v := (1 : Int32)) C d_Md_mayNow_52 (by decide) ?_
    refine x_istore_n (lv' := [(1, .int (1 : Int32)), (0, .ref v0R)]) C d_Md_mayNow_53 (by decide) rfl rfl ?_
    refine x_iconst (v := (0 : Int32)) C d_Md_mayNow_54 (by decide) ?_
    refine x_istore_n (lv' := [(2, .int (0 : Int32)), (1, .int (1 : Int32)), (0, .ref v0R)]) C d_Md_mayNow_55 (by decide) rfl rfl ?_
    refine x_lv [2, 1, 0] rfl ?_
    exact IH.2.2.1 v0R ((1 : Int32)) ((0 : Int32)) (σ)
set_option maxRecDepth 20000 in
theorem s_Md_mayNow_2 {G : GX} {p : Program} {l : Launch} {e : Env} {s : State} {m : MethodId} {args : Array Value} {below : List Frame} {meth : Method} {c : Code} {z0 u0 n : Nat} (C : Cx G p s m args meth c prog_14_method_37_code 3 "BellPlateModel" ((some FieldType.boolean))) (IH : I_Md_mayNow G p l e s m args below meth c z0 u0 n) (v0R : Nat) (v1I : Int32) (v2I : Int32) (σ : AM) : VX (QM eI G args s below z0 u0) G p l e s m args below meth c 2 z0 u0 3 (lpK (lpn F_Md_mayNow n) (T_Md_mayNow_2 v0R v1I v2I σ)) 56 [(0, .ref v0R), (1, .int v1I), (2, .int v2I)] [] σ := by
  unfold T_Md_mayNow_2
  refine x_iload_n C d_Md_mayNow_56 2 rfl ?_
  refine x_aload_n C d_Md_mayNow_57 0 rfl ?_
  refine x_gd (fun h1 => ?_)
  refine x_getI (k := 13) C (okO_iff.mp h1) rfl j11_ok (by decide) rfl w1865 d_Md_mayNow_58 ?_
  refine x_icmp_ge (tgt := 93) C d_Md_mayNow_61 (by decide) (fun _ => ?_) (fun _ => ?_)
  · refine x_iload_n C d_Md_mayNow_64 1 rfl ?_
    refine x_if_eq (tgt := 85) C d_Md_mayNow_65 (by decide) (fun _ => ?_) (fun _ => ?_)
    · refine x_lv [0, 2] rfl ?_
      exact IH.2.2.2.1 v0R v2I (σ)
    · refine x_aload_n C d_Md_mayNow_68 0 rfl ?_
      refine x_aload_n C d_Md_mayNow_69 0 rfl ?_
      refine x_gd (fun h2 => ?_)
      refine x_getR (k := 14) (kv := 101) C (okO_iff.mp h1) rfl j11_ok (by decide) rfl (okO_iff.mp h2) (by decide) w1866 d_Md_mayNow_70 ?_
      refine x_iload_n C d_Md_mayNow_73 2 rfl ?_
      refine x_gd (fun h3 => ?_)
      refine x_aldI C (okO_iff.mp h2) (inB_iff.mp h3) d_Md_mayNow_74 ?_
      refine x_callVI (As := [.int (aI σ (aR σ v0R 14) v2I.toNatClampNeg)]) C (c_Md_worthAt G l v0R (aI σ (aR σ v0R 14) v2I.toNatClampNeg) σ) (okO_iff.mp h1) rfl w1838 w61 w1836 w1839 w134 k_Md_worthAt rfl (by decide) (by decide) rfl (Nat.le_of_ble_eq_true rfl) d_Md_mayNow_75 (fun r4 σ5 => ?_)
      refine x_if_eq (tgt := 85) C d_Md_mayNow_78 (by decide) (fun _ => ?_) (fun _ => ?_)
      · refine x_lv [0, 2] rfl ?_
        exact IH.2.2.2.1 v0R v2I (σ5)
      · refine x_iconst (v := (1 : Int32)) C d_Md_mayNow_81 (by decide) ?_
        refine x_goto (tgt := 86) C d_Md_mayNow_82 (by decide) ?_
        refine x_lv [0, 2] rfl ?_
        exact IH.2.2.2.2 v0R v2I ((1 : Int32)) (σ5)
  · refine x_iload_n C d_Md_mayNow_93 1 rfl ?_
    refine x_gd (fun h6 => ?_)
    exact x_zret C (isB_narrow h6) d_Md_mayNow_94
set_option maxRecDepth 20000 in
theorem s_Md_mayNow_3 {G : GX} {p : Program} {l : Launch} {e : Env} {s : State} {m : MethodId} {args : Array Value} {below : List Frame} {meth : Method} {c : Code} {z0 u0 n : Nat} (C : Cx G p s m args meth c prog_14_method_37_code 3 "BellPlateModel" ((some FieldType.boolean))) (IH : I_Md_mayNow G p l e s m args below meth c z0 u0 n) (v0R : Nat) (v2I : Int32) (σ : AM) : VX (QM eI G args s below z0 u0) G p l e s m args below meth c 2 z0 u0 3 (lpK (lpn F_Md_mayNow n) (T_Md_mayNow_3 v0R v2I σ)) 85 [(0, .ref v0R), (2, .int v2I)] [] σ := by
  unfold T_Md_mayNow_3
  refine x_iconst (v := (0 : Int32)) C d_Md_mayNow_85 (by decide) ?_
  exact IH.2.2.2.2 v0R v2I ((0 : Int32)) (σ)
set_option maxRecDepth 20000 in
theorem s_Md_mayNow_4 {G : GX} {p : Program} {l : Launch} {e : Env} {s : State} {m : MethodId} {args : Array Value} {below : List Frame} {meth : Method} {c : Code} {z0 u0 n : Nat} (C : Cx G p s m args meth c prog_14_method_37_code 3 "BellPlateModel" ((some FieldType.boolean))) (IH : I_Md_mayNow G p l e s m args below meth c z0 u0 n) (v0R : Nat) (v2I : Int32) (s0I : Int32) (σ : AM) : VX (QM eI G args s below z0 u0) G p l e s m args below meth c 2 z0 u0 3 (lpK (lpn F_Md_mayNow n) (T_Md_mayNow_4 v0R v2I s0I σ)) 86 [(0, .ref v0R), (2, .int v2I)] [.int s0I] σ := by
  unfold T_Md_mayNow_4
  refine x_istore_n (lv' := [(1, .int s0I), (0, .ref v0R), (2, .int v2I)]) C d_Md_mayNow_86 (by decide) rfl rfl ?_
  refine x_iinc (v := v2I + (1 : Int32)) (lv' := [(2, .int (v2I + (1 : Int32))), (1, .int s0I), (0, .ref v0R)]) C d_Md_mayNow_87 2 rfl rfl (by decide) rfl ?_
  refine x_goto (tgt := 56) C d_Md_mayNow_90 (by decide) ?_
  refine x_lv [2, 1, 0] rfl ?_
  exact IH.2.2.1 v0R s0I (v2I + (1 : Int32)) (σ)
theorem i_Md_mayNow {G : GX} {p : Program} {l : Launch} {e : Env} {s : State} {m : MethodId} {args : Array Value} {below : List Frame} {meth : Method} {c : Code} {z0 u0 : Nat} (C : Cx G p s m args meth c prog_14_method_37_code 3 "BellPlateModel" ((some FieldType.boolean))) (n : Nat) : I_Md_mayNow G p l e s m args below meth c z0 u0 n := by
  induction n with
  | zero => exact ⟨fun _ _ => x_none, fun _ _ _ => x_none, fun _ _ _ _ => x_none, fun _ _ _ => x_none, fun _ _ _ _ => x_none⟩
  | succ n IH => exact ⟨fun v0R σ => s_Md_mayNow_0 C IH v0R σ, fun v0R v1I σ => s_Md_mayNow_1 C IH v0R v1I σ, fun v0R v1I v2I σ => s_Md_mayNow_2 C IH v0R v1I v2I σ, fun v0R v2I σ => s_Md_mayNow_3 C IH v0R v2I σ, fun v0R v2I s0I σ => s_Md_mayNow_4 C IH v0R v2I s0I σ⟩
theorem c_Md_mayNow (G : GX) (l : Launch) (v0R : Nat) (σ : AM) : CT eI G l 2 y_Md_mayNow prog_14_method_37_code 3 ((some FieldType.boolean)) [.ref v0R] σ (M_Md_mayNow v0R σ) := by
  refine ct_of (by decide +kernel) (Nat.le_of_ble_eq_true rfl) (fun p e s m args below meth c C hin => ?_)
  refine x_lve (lv' := [(0, .ref v0R)]) rfl ?_
  intro r σ' h
  obtain ⟨n, hn⟩ := (lp_iff _ _ _).mp h
  exact (i_Md_mayNow C n).1 v0R σ r σ' hn
/-! BellPlateModel.numberFor(J)I -/
abbrev y_Md_numberFor : MethodName := ⟨"BellPlateModel", "numberFor", "(J)I"⟩
theorem k_Md_numberFor : y_Md_numberFor.cls ≠ "java/lang/invoke/MethodHandle" ∧ y_Md_numberFor.cls ≠ "java/lang/invoke/VarHandle" ∧ (parseMethodDescriptor y_Md_numberFor.desc).map (fun d => d.parameters.length) = some 1 := by decide +kernel
theorem d_Md_numberFor_0 : decode prog_14_method_39_code 0 = .ok (.lload_n 1, 1) := by decide +kernel
theorem d_Md_numberFor_1 : decode prog_14_method_39_code 1 = .ok (.ldc2_w 335, 3) := by decide +kernel
theorem d_Md_numberFor_4 : decode prog_14_method_39_code 4 = .ok (.lmul, 1) := by decide +kernel
theorem d_Md_numberFor_5 : decode prog_14_method_39_code 5 = .ok (.bipush 49, 2) := by decide +kernel
theorem d_Md_numberFor_7 : decode prog_14_method_39_code 7 = .ok (.lushr, 1) := by decide +kernel
theorem d_Md_numberFor_8 : decode prog_14_method_39_code 8 = .ok (.l2i, 1) := by decide +kernel
theorem d_Md_numberFor_9 : decode prog_14_method_39_code 9 = .ok (.istore_n 3, 1) := by decide +kernel
theorem d_Md_numberFor_10 : decode prog_14_method_39_code 10 = .ok (.aload_n 0, 1) := by decide +kernel
theorem d_Md_numberFor_11 : decode prog_14_method_39_code 11 = .ok (.getfield 92, 3) := by decide +kernel
theorem d_Md_numberFor_14 : decode prog_14_method_39_code 14 = .ok (.iload_n 3, 1) := by decide +kernel
theorem d_Md_numberFor_15 : decode prog_14_method_39_code 15 = .ok (.iaload, 1) := by decide +kernel
theorem d_Md_numberFor_16 : decode prog_14_method_39_code 16 = .ok (.ifCond .lt 30, 3) := by decide +kernel
theorem d_Md_numberFor_19 : decode prog_14_method_39_code 19 = .ok (.aload_n 0, 1) := by decide +kernel
theorem d_Md_numberFor_20 : decode prog_14_method_39_code 20 = .ok (.getfield 82, 3) := by decide +kernel
theorem d_Md_numberFor_23 : decode prog_14_method_39_code 23 = .ok (.aload_n 0, 1) := by decide +kernel
theorem d_Md_numberFor_24 : decode prog_14_method_39_code 24 = .ok (.getfield 92, 3) := by decide +kernel
theorem d_Md_numberFor_27 : decode prog_14_method_39_code 27 = .ok (.iload_n 3, 1) := by decide +kernel
theorem d_Md_numberFor_28 : decode prog_14_method_39_code 28 = .ok (.iaload, 1) := by decide +kernel
theorem d_Md_numberFor_29 : decode prog_14_method_39_code 29 = .ok (.laload, 1) := by decide +kernel
theorem d_Md_numberFor_30 : decode prog_14_method_39_code 30 = .ok (.lload_n 1, 1) := by decide +kernel
theorem d_Md_numberFor_31 : decode prog_14_method_39_code 31 = .ok (.lcmp, 1) := by decide +kernel
theorem d_Md_numberFor_32 : decode prog_14_method_39_code 32 = .ok (.ifCond .eq 14, 3) := by decide +kernel
theorem d_Md_numberFor_35 : decode prog_14_method_39_code 35 = .ok (.iload_n 3, 1) := by decide +kernel
theorem d_Md_numberFor_36 : decode prog_14_method_39_code 36 = .ok (.iconst 1, 1) := by decide +kernel
theorem d_Md_numberFor_37 : decode prog_14_method_39_code 37 = .ok (.iadd, 1) := by decide +kernel
theorem d_Md_numberFor_38 : decode prog_14_method_39_code 38 = .ok (.sipush 32767, 3) := by decide +kernel
theorem d_Md_numberFor_41 : decode prog_14_method_39_code 41 = .ok (.iand, 1) := by decide +kernel
theorem d_Md_numberFor_42 : decode prog_14_method_39_code 42 = .ok (.istore_n 3, 1) := by decide +kernel
theorem d_Md_numberFor_43 : decode prog_14_method_39_code 43 = .ok (.goto (-33), 3) := by decide +kernel
theorem d_Md_numberFor_46 : decode prog_14_method_39_code 46 = .ok (.aload_n 0, 1) := by decide +kernel
theorem d_Md_numberFor_47 : decode prog_14_method_39_code 47 = .ok (.getfield 92, 3) := by decide +kernel
theorem d_Md_numberFor_50 : decode prog_14_method_39_code 50 = .ok (.iload_n 3, 1) := by decide +kernel
theorem d_Md_numberFor_51 : decode prog_14_method_39_code 51 = .ok (.iaload, 1) := by decide +kernel
theorem d_Md_numberFor_52 : decode prog_14_method_39_code 52 = .ok (.ifCond .ge 43, 3) := by decide +kernel
theorem d_Md_numberFor_55 : decode prog_14_method_39_code 55 = .ok (.aload_n 0, 1) := by decide +kernel
theorem d_Md_numberFor_56 : decode prog_14_method_39_code 56 = .ok (.getfield 92, 3) := by decide +kernel
theorem d_Md_numberFor_59 : decode prog_14_method_39_code 59 = .ok (.iload_n 3, 1) := by decide +kernel
theorem d_Md_numberFor_60 : decode prog_14_method_39_code 60 = .ok (.aload_n 0, 1) := by decide +kernel
theorem d_Md_numberFor_61 : decode prog_14_method_39_code 61 = .ok (.getfield 316, 3) := by decide +kernel
theorem d_Md_numberFor_64 : decode prog_14_method_39_code 64 = .ok (.iastore, 1) := by decide +kernel
theorem d_Md_numberFor_65 : decode prog_14_method_39_code 65 = .ok (.aload_n 0, 1) := by decide +kernel
theorem d_Md_numberFor_66 : decode prog_14_method_39_code 66 = .ok (.getfield 82, 3) := by decide +kernel
theorem d_Md_numberFor_69 : decode prog_14_method_39_code 69 = .ok (.aload_n 0, 1) := by decide +kernel
theorem d_Md_numberFor_70 : decode prog_14_method_39_code 70 = .ok (.getfield 316, 3) := by decide +kernel
theorem d_Md_numberFor_73 : decode prog_14_method_39_code 73 = .ok (.lload_n 1, 1) := by decide +kernel
theorem d_Md_numberFor_74 : decode prog_14_method_39_code 74 = .ok (.lastore, 1) := by decide +kernel
theorem d_Md_numberFor_75 : decode prog_14_method_39_code 75 = .ok (.aload_n 0, 1) := by decide +kernel
theorem d_Md_numberFor_76 : decode prog_14_method_39_code 76 = .ok (.getfield 85, 3) := by decide +kernel
theorem d_Md_numberFor_79 : decode prog_14_method_39_code 79 = .ok (.aload_n 0, 1) := by decide +kernel
theorem d_Md_numberFor_80 : decode prog_14_method_39_code 80 = .ok (.getfield 316, 3) := by decide +kernel
theorem d_Md_numberFor_83 : decode prog_14_method_39_code 83 = .ok (.iconst 0, 1) := by decide +kernel
theorem d_Md_numberFor_84 : decode prog_14_method_39_code 84 = .ok (.iastore, 1) := by decide +kernel
theorem d_Md_numberFor_85 : decode prog_14_method_39_code 85 = .ok (.aload_n 0, 1) := by decide +kernel
theorem d_Md_numberFor_86 : decode prog_14_method_39_code 86 = .ok (.dup, 1) := by decide +kernel
theorem d_Md_numberFor_87 : decode prog_14_method_39_code 87 = .ok (.getfield 316, 3) := by decide +kernel
theorem d_Md_numberFor_90 : decode prog_14_method_39_code 90 = .ok (.iconst 1, 1) := by decide +kernel
theorem d_Md_numberFor_91 : decode prog_14_method_39_code 91 = .ok (.iadd, 1) := by decide +kernel
theorem d_Md_numberFor_92 : decode prog_14_method_39_code 92 = .ok (.putfield 316, 3) := by decide +kernel
theorem d_Md_numberFor_95 : decode prog_14_method_39_code 95 = .ok (.aload_n 0, 1) := by decide +kernel
theorem d_Md_numberFor_96 : decode prog_14_method_39_code 96 = .ok (.getfield 92, 3) := by decide +kernel
theorem d_Md_numberFor_99 : decode prog_14_method_39_code 99 = .ok (.iload_n 3, 1) := by decide +kernel
theorem d_Md_numberFor_100 : decode prog_14_method_39_code 100 = .ok (.iaload, 1) := by decide +kernel
theorem d_Md_numberFor_101 : decode prog_14_method_39_code 101 = .ok (.ireturn, 1) := by decide +kernel
abbrev S_Md_numberFor : Type := Nat × Nat × Int64 × Int32 × AM
noncomputable def T_Md_numberFor_0 (v0R : Nat) (v1J : Int64) (σ : AM) : S_Md_numberFor ⊕ Option (Int32 × AM) :=
  letT ((((v1J * (7046029254386353131 : Int64)).toUInt64 >>> ((49 : Int32).toInt64.toUInt64 &&& Int64.toUInt64 63)).toInt64).toInt32) fun x1 => .inl (1, v0R, v1J, x1, σ)
noncomputable def T_Md_numberFor_1 (v0R : Nat) (v1J : Int64) (v3I : Int32) (σ : AM) : S_Md_numberFor ⊕ Option (Int32 × AM) :=
  gdT (okO σ v0R 12) <| gdT (okO σ (aR σ v0R 33) 101) <| gdT (inB v3I (aN σ (aR σ v0R 33))) <| if (aI σ (aR σ v0R 33) v3I.toNatClampNeg) < 0 then (.inl (2, v0R, v1J, v3I, σ)) else (gdT (okO σ (aR σ v0R 30) 102) <| gdT (inB (aI σ (aR σ v0R 33) v3I.toNatClampNeg) (aN σ (aR σ v0R 30))) <| if (lg_cmp (aL σ (aR σ v0R 30) (aI σ (aR σ v0R 33) v3I.toNatClampNeg).toNatClampNeg) v1J) = 0 then (.inl (2, v0R, v1J, v3I, σ)) else (letT ((v3I + (1 : Int32)) &&& (32767 : Int32)) fun x6 => .inl (1, v0R, v1J, x6, σ)))
noncomputable def T_Md_numberFor_2 (v0R : Nat) (v1J : Int64) (v3I : Int32) (σ : AM) : S_Md_numberFor ⊕ Option (Int32 × AM) :=
  gdT (okO σ v0R 12) <| gdT (okO σ (aR σ v0R 33) 101) <| gdT (inB v3I (aN σ (aR σ v0R 33))) <| if (aI σ (aR σ v0R 33) v3I.toNatClampNeg) < 0 then (letT (sI σ (aR σ v0R 33) v3I.toNatClampNeg (aI σ v0R 29)) fun σ4 => gdT (okO σ4 (aR σ4 v0R 30) 102) <| gdT (inB (aI σ4 v0R 29) (aN σ4 (aR σ4 v0R 30))) <| letT (sL σ4 (aR σ4 v0R 30) (aI σ4 v0R 29).toNatClampNeg v1J) fun σ8 => gdT (okO σ8 (aR σ8 v0R 31) 101) <| gdT (inB (aI σ8 v0R 29) (aN σ8 (aR σ8 v0R 31))) <| letT (sI σ8 (aR σ8 v0R 31) (aI σ8 v0R 29).toNatClampNeg (0 : Int32)) fun σ12 => letT (sI σ12 v0R 29 ((aI σ12 v0R 29) + (1 : Int32))) fun σ14 => .inl (3, v0R, 0, v3I, σ14)) else (.inl (3, v0R, 0, v3I, σ))
noncomputable def T_Md_numberFor_3 (v0R : Nat) (v3I : Int32) (σ : AM) : S_Md_numberFor ⊕ Option (Int32 × AM) :=
  gdT (okO σ v0R 12) <| gdT (okO σ (aR σ v0R 33) 101) <| gdT (inB v3I (aN σ (aR σ v0R 33))) <| .inr (some ((aI σ (aR σ v0R 33) v3I.toNatClampNeg), σ))
noncomputable def F_Md_numberFor : S_Md_numberFor → S_Md_numberFor ⊕ Option (Int32 × AM) := fun s => match s.1 with
  | 0 => T_Md_numberFor_0 (s.2.1) (s.2.2.1) (s.2.2.2.2)
  | 1 => T_Md_numberFor_1 (s.2.1) (s.2.2.1) (s.2.2.2.1) (s.2.2.2.2)
  | 2 => T_Md_numberFor_2 (s.2.1) (s.2.2.1) (s.2.2.2.1) (s.2.2.2.2)
  | _ => T_Md_numberFor_3 (s.2.1) (s.2.2.2.1) (s.2.2.2.2)
noncomputable def L_Md_numberFor_0 (v0R : Nat) (v1J : Int64) (σ : AM) : Option (Int32 × AM) := lp F_Md_numberFor (0, v0R, v1J, 0, σ)
noncomputable def L_Md_numberFor_1 (v0R : Nat) (v1J : Int64) (v3I : Int32) (σ : AM) : Option (Int32 × AM) := lp F_Md_numberFor (1, v0R, v1J, v3I, σ)
noncomputable def L_Md_numberFor_2 (v0R : Nat) (v1J : Int64) (v3I : Int32) (σ : AM) : Option (Int32 × AM) := lp F_Md_numberFor (2, v0R, v1J, v3I, σ)
noncomputable def L_Md_numberFor_3 (v0R : Nat) (v3I : Int32) (σ : AM) : Option (Int32 × AM) := lp F_Md_numberFor (3, v0R, 0, v3I, σ)
set_option maxRecDepth 20000 in
theorem E_Md_numberFor_0 (v0R : Nat) (v1J : Int64) (σ : AM) : L_Md_numberFor_0 v0R v1J σ = (letT ((((v1J * (7046029254386353131 : Int64)).toUInt64 >>> ((49 : Int32).toInt64.toUInt64 &&& Int64.toUInt64 63)).toInt64).toInt32) fun x1 => L_Md_numberFor_1 v0R v1J x1 σ) := by
  unfold L_Md_numberFor_0
  rw [lp_eq]
  show lpK (lp F_Md_numberFor) (T_Md_numberFor_0 v0R v1J σ) = _
  unfold T_Md_numberFor_0
  simp only [lpK_ite, lq_inl, lq_inr, lpK_bnd, lpK_gd, lq_let]
  try rfl
set_option maxRecDepth 20000 in
theorem E_Md_numberFor_1 (v0R : Nat) (v1J : Int64) (v3I : Int32) (σ : AM) : L_Md_numberFor_1 v0R v1J v3I σ = (gd (okO σ v0R 12) <| gd (okO σ (aR σ v0R 33) 101) <| gd (inB v3I (aN σ (aR σ v0R 33))) <| if (aI σ (aR σ v0R 33) v3I.toNatClampNeg) < 0 then (L_Md_numberFor_2 v0R v1J v3I σ) else (gd (okO σ (aR σ v0R 30) 102) <| gd (inB (aI σ (aR σ v0R 33) v3I.toNatClampNeg) (aN σ (aR σ v0R 30))) <| if (lg_cmp (aL σ (aR σ v0R 30) (aI σ (aR σ v0R 33) v3I.toNatClampNeg).toNatClampNeg) v1J) = 0 then (L_Md_numberFor_2 v0R v1J v3I σ) else (letT ((v3I + (1 : Int32)) &&& (32767 : Int32)) fun x6 => L_Md_numberFor_1 v0R v1J x6 σ))) := by
  unfold L_Md_numberFor_1
  rw [lp_eq]
  show lpK (lp F_Md_numberFor) (T_Md_numberFor_1 v0R v1J v3I σ) = _
  unfold T_Md_numberFor_1
  simp only [lpK_ite, lq_inl, lq_inr, lpK_bnd, lpK_gd, lq_let]
  try rfl
set_option maxRecDepth 20000 in
theorem E_Md_numberFor_2 (v0R : Nat) (v1J : Int64) (v3I : Int32) (σ : AM) : L_Md_numberFor_2 v0R v1J v3I σ = (gd (okO σ v0R 12) <| gd (okO σ (aR σ v0R 33) 101) <| gd (inB v3I (aN σ (aR σ v0R 33))) <| if (aI σ (aR σ v0R 33) v3I.toNatClampNeg) < 0 then (letT (sI σ (aR σ v0R 33) v3I.toNatClampNeg (aI σ v0R 29)) fun σ4 => gd (okO σ4 (aR σ4 v0R 30) 102) <| gd (inB (aI σ4 v0R 29) (aN σ4 (aR σ4 v0R 30))) <| letT (sL σ4 (aR σ4 v0R 30) (aI σ4 v0R 29).toNatClampNeg v1J) fun σ8 => gd (okO σ8 (aR σ8 v0R 31) 101) <| gd (inB (aI σ8 v0R 29) (aN σ8 (aR σ8 v0R 31))) <| letT (sI σ8 (aR σ8 v0R 31) (aI σ8 v0R 29).toNatClampNeg (0 : Int32)) fun σ12 => letT (sI σ12 v0R 29 ((aI σ12 v0R 29) + (1 : Int32))) fun σ14 => L_Md_numberFor_3 v0R v3I σ14) else (L_Md_numberFor_3 v0R v3I σ)) := by
  unfold L_Md_numberFor_2
  rw [lp_eq]
  show lpK (lp F_Md_numberFor) (T_Md_numberFor_2 v0R v1J v3I σ) = _
  unfold T_Md_numberFor_2
  simp only [lpK_ite, lq_inl, lq_inr, lpK_bnd, lpK_gd, lq_let]
  try rfl
set_option maxRecDepth 20000 in
theorem E_Md_numberFor_3 (v0R : Nat) (v3I : Int32) (σ : AM) : L_Md_numberFor_3 v0R v3I σ = (gd (okO σ v0R 12) <| gd (okO σ (aR σ v0R 33) 101) <| gd (inB v3I (aN σ (aR σ v0R 33))) <| (some ((aI σ (aR σ v0R 33) v3I.toNatClampNeg), σ))) := by
  unfold L_Md_numberFor_3
  rw [lp_eq]
  show lpK (lp F_Md_numberFor) (T_Md_numberFor_3 v0R v3I σ) = _
  unfold T_Md_numberFor_3
  simp only [lpK_ite, lq_inl, lq_inr, lpK_bnd, lpK_gd, lq_let]
  try rfl
noncomputable def M_Md_numberFor (v0R : Nat) (v1J : Int64) (σ : AM) : Option (Int32 × AM) := mw σ (L_Md_numberFor_0 v0R v1J σ)
def I_Md_numberFor (G : GX) (p : Program) (l : Launch) (e : Env) (s : State) (m : MethodId) (args : Array Value) (below : List Frame) (meth : Method) (c : Code) (z0 u0 n : Nat) : Prop :=
  (∀ (v0R : Nat) (v1J : Int64) (σ : AM), VX (QM eI G args s below z0 u0) G p l e s m args below meth c 0 z0 u0 4 (lpn F_Md_numberFor n (0, v0R, v1J, 0, σ)) 0 [(0, .ref v0R), (1, .long v1J)] [] σ) ∧
  (∀ (v0R : Nat) (v1J : Int64) (v3I : Int32) (σ : AM), VX (QM eI G args s below z0 u0) G p l e s m args below meth c 0 z0 u0 4 (lpn F_Md_numberFor n (1, v0R, v1J, v3I, σ)) 10 [(0, .ref v0R), (1, .long v1J), (3, .int v3I)] [] σ) ∧
  (∀ (v0R : Nat) (v1J : Int64) (v3I : Int32) (σ : AM), VX (QM eI G args s below z0 u0) G p l e s m args below meth c 0 z0 u0 4 (lpn F_Md_numberFor n (2, v0R, v1J, v3I, σ)) 46 [(0, .ref v0R), (1, .long v1J), (3, .int v3I)] [] σ) ∧
  (∀ (v0R : Nat) (v3I : Int32) (σ : AM), VX (QM eI G args s below z0 u0) G p l e s m args below meth c 0 z0 u0 4 (lpn F_Md_numberFor n (3, v0R, 0, v3I, σ)) 95 [(0, .ref v0R), (3, .int v3I)] [] σ)
set_option maxRecDepth 20000 in
theorem s_Md_numberFor_0 {G : GX} {p : Program} {l : Launch} {e : Env} {s : State} {m : MethodId} {args : Array Value} {below : List Frame} {meth : Method} {c : Code} {z0 u0 n : Nat} (C : Cx G p s m args meth c prog_14_method_39_code 4 "BellPlateModel" ((some FieldType.int))) (IH : I_Md_numberFor G p l e s m args below meth c z0 u0 n) (v0R : Nat) (v1J : Int64) (σ : AM) : VX (QM eI G args s below z0 u0) G p l e s m args below meth c 0 z0 u0 4 (lpK (lpn F_Md_numberFor n) (T_Md_numberFor_0 v0R v1J σ)) 0 [(0, .ref v0R), (1, .long v1J)] [] σ := by
  unfold T_Md_numberFor_0
  refine x_lload_n C d_Md_numberFor_0 1 rfl ?_
  refine x_ldc2 C d_Md_numberFor_1 w1847 ?_
  refine x_lmul C d_Md_numberFor_4 ?_
  refine x_bipush (v := (49 : Int32)) C d_Md_numberFor_5 (by decide) ?_
  refine x_lushr C d_Md_numberFor_7 ?_
  refine x_l2i C d_Md_numberFor_8 ?_
  refine x_letI (fun x1 _ => ?_)
  refine x_istore_n (lv' := [(3, .int x1), (0, .ref v0R), (1, .long v1J)]) C d_Md_numberFor_9 (by decide) rfl rfl ?_
  refine x_lv [1, 2, 0] rfl ?_
  exact IH.2.1 v0R v1J x1 (σ)
set_option maxRecDepth 20000 in
theorem s_Md_numberFor_1 {G : GX} {p : Program} {l : Launch} {e : Env} {s : State} {m : MethodId} {args : Array Value} {below : List Frame} {meth : Method} {c : Code} {z0 u0 n : Nat} (C : Cx G p s m args meth c prog_14_method_39_code 4 "BellPlateModel" ((some FieldType.int))) (IH : I_Md_numberFor G p l e s m args below meth c z0 u0 n) (v0R : Nat) (v1J : Int64) (v3I : Int32) (σ : AM) : VX (QM eI G args s below z0 u0) G p l e s m args below meth c 0 z0 u0 4 (lpK (lpn F_Md_numberFor n) (T_Md_numberFor_1 v0R v1J v3I σ)) 10 [(0, .ref v0R), (1, .long v1J), (3, .int v3I)] [] σ := by
  unfold T_Md_numberFor_1
  refine x_aload_n C d_Md_numberFor_10 0 rfl ?_
  refine x_gd (fun h1 => ?_)
  refine x_gd (fun h2 => ?_)
  refine x_getR (k := 33) (kv := 101) C (okO_iff.mp h1) rfl j11_ok (by decide) rfl (okO_iff.mp h2) (by decide) w1885 d_Md_numberFor_11 ?_
  refine x_iload_n C d_Md_numberFor_14 2 rfl ?_
  refine x_gd (fun h3 => ?_)
  refine x_aldI C (okO_iff.mp h2) (inB_iff.mp h3) d_Md_numberFor_15 ?_
  refine x_if_lt (tgt := 46) C d_Md_numberFor_16 (by decide) (fun _ => ?_) (fun _ => ?_)
  · exact IH.2.2.1 v0R v1J v3I (σ)
  · refine x_aload_n C d_Md_numberFor_19 0 rfl ?_
    refine x_gd (fun h4 => ?_)
    refine x_getR (k := 30) (kv := 102) C (okO_iff.mp h1) rfl j11_ok (by decide) rfl (okO_iff.mp h4) (by decide) w1882 d_Md_numberFor_20 ?_
    refine x_aload_n C d_Md_numberFor_23 0 rfl ?_
    refine x_getR (k := 33) (kv := 101) C (okO_iff.mp h1) rfl j11_ok (by decide) rfl (okO_iff.mp h2) (by decide) w1885 d_Md_numberFor_24 ?_
    refine x_iload_n C d_Md_numberFor_27 2 rfl ?_
    refine x_aldI C (okO_iff.mp h2) (inB_iff.mp h3) d_Md_numberFor_28 ?_
    refine x_gd (fun h5 => ?_)
    refine x_aldJ C (okO_iff.mp h4) (inB_iff.mp h5) d_Md_numberFor_29 ?_
    refine x_lload_n C d_Md_numberFor_30 1 rfl ?_
    refine x_lcmp C d_Md_numberFor_31 ?_
    refine x_if_eq (tgt := 46) C d_Md_numberFor_32 (by decide) (fun _ => ?_) (fun _ => ?_)
    · exact IH.2.2.1 v0R v1J v3I (σ)
    · refine x_iload_n C d_Md_numberFor_35 2 rfl ?_
      refine x_iconst (v := (1 : Int32)) C d_Md_numberFor_36 (by decide) ?_
      refine x_iadd C d_Md_numberFor_37 ?_
      refine x_sipush (v := (32767 : Int32)) C d_Md_numberFor_38 (by decide) ?_
      refine x_iand C d_Md_numberFor_41 ?_
      refine x_letI (fun x6 _ => ?_)
      refine x_istore_n (lv' := [(3, .int x6), (0, .ref v0R), (1, .long v1J)]) C d_Md_numberFor_42 (by decide) rfl rfl ?_
      refine x_goto (tgt := 10) C d_Md_numberFor_43 (by decide) ?_
      refine x_lv [1, 2, 0] rfl ?_
      exact IH.2.1 v0R v1J x6 (σ)
set_option maxRecDepth 20000 in
theorem s_Md_numberFor_2 {G : GX} {p : Program} {l : Launch} {e : Env} {s : State} {m : MethodId} {args : Array Value} {below : List Frame} {meth : Method} {c : Code} {z0 u0 n : Nat} (C : Cx G p s m args meth c prog_14_method_39_code 4 "BellPlateModel" ((some FieldType.int))) (IH : I_Md_numberFor G p l e s m args below meth c z0 u0 n) (v0R : Nat) (v1J : Int64) (v3I : Int32) (σ : AM) : VX (QM eI G args s below z0 u0) G p l e s m args below meth c 0 z0 u0 4 (lpK (lpn F_Md_numberFor n) (T_Md_numberFor_2 v0R v1J v3I σ)) 46 [(0, .ref v0R), (1, .long v1J), (3, .int v3I)] [] σ := by
  unfold T_Md_numberFor_2
  refine x_aload_n C d_Md_numberFor_46 0 rfl ?_
  refine x_gd (fun h1 => ?_)
  refine x_gd (fun h2 => ?_)
  refine x_getR (k := 33) (kv := 101) C (okO_iff.mp h1) rfl j11_ok (by decide) rfl (okO_iff.mp h2) (by decide) w1885 d_Md_numberFor_47 ?_
  refine x_iload_n C d_Md_numberFor_50 2 rfl ?_
  refine x_gd (fun h3 => ?_)
  refine x_aldI C (okO_iff.mp h2) (inB_iff.mp h3) d_Md_numberFor_51 ?_
  refine x_if_ge (tgt := 95) C d_Md_numberFor_52 (by decide) (fun _ => ?_) (fun _ => ?_)
  · refine x_aload_n C d_Md_numberFor_55 0 rfl ?_
    refine x_getR (k := 33) (kv := 101) C (okO_iff.mp h1) rfl j11_ok (by decide) rfl (okO_iff.mp h2) (by decide) w1885 d_Md_numberFor_56 ?_
    refine x_iload_n C d_Md_numberFor_59 2 rfl ?_
    refine x_aload_n C d_Md_numberFor_60 0 rfl ?_
    refine x_getI (k := 29) C (okO_iff.mp h1) rfl j11_ok (by decide) rfl w1881 d_Md_numberFor_61 ?_
    refine x_astI C (okO_iff.mp h2) (inB_iff.mp h3) d_Md_numberFor_64 ?_
    refine x_letS (fun σ4 e5 => ?_)
    refine x_aload_n C d_Md_numberFor_65 0 rfl ?_
    refine x_gd (fun h6 => ?_)
    refine x_getR (k := 30) (kv := 102) C (by first | exact (okO_iff.mp h1) | (rw [e5]; exact (okO_iff.mp h1))) rfl j11_ok (by decide) rfl (okO_iff.mp h6) (by decide) w1882 d_Md_numberFor_66 ?_
    refine x_aload_n C d_Md_numberFor_69 0 rfl ?_
    refine x_getI (k := 29) C (by first | exact (okO_iff.mp h1) | (rw [e5]; exact (okO_iff.mp h1))) rfl j11_ok (by decide) rfl w1881 d_Md_numberFor_70 ?_
    refine x_lload_n C d_Md_numberFor_73 1 rfl ?_
    refine x_gd (fun h7 => ?_)
    refine x_astJ C (okO_iff.mp h6) (inB_iff.mp h7) d_Md_numberFor_74 ?_
    refine x_letS (fun σ8 e9 => ?_)
    refine x_aload_n C d_Md_numberFor_75 0 rfl ?_
    refine x_gd (fun h10 => ?_)
    refine x_getR (k := 31) (kv := 101) C (by first | exact (okO_iff.mp h1) | (rw [e9, e5]; exact (okO_iff.mp h1))) rfl j11_ok (by decide) rfl (okO_iff.mp h10) (by decide) w1883 d_Md_numberFor_76 ?_
    refine x_aload_n C d_Md_numberFor_79 0 rfl ?_
    refine x_getI (k := 29) C (by first | exact (okO_iff.mp h1) | (rw [e9, e5]; exact (okO_iff.mp h1))) rfl j11_ok (by decide) rfl w1881 d_Md_numberFor_80 ?_
    refine x_iconst (v := (0 : Int32)) C d_Md_numberFor_83 (by decide) ?_
    refine x_gd (fun h11 => ?_)
    refine x_astI C (okO_iff.mp h10) (inB_iff.mp h11) d_Md_numberFor_84 ?_
    refine x_letS (fun σ12 e13 => ?_)
    refine x_aload_n C d_Md_numberFor_85 0 rfl ?_
    refine x_dup C d_Md_numberFor_86 rfl ?_
    refine x_getI (k := 29) C (by first | exact (okO_iff.mp h1) | (rw [e13, e9, e5]; exact (okO_iff.mp h1))) rfl j11_ok (by decide) rfl w1881 d_Md_numberFor_87 ?_
    refine x_iconst (v := (1 : Int32)) C d_Md_numberFor_90 (by decide) ?_
    refine x_iadd C d_Md_numberFor_91 ?_
    refine x_putI (k := 29) C (by first | exact (okO_iff.mp h1) | (rw [e13, e9, e5]; exact (okO_iff.mp h1))) rfl j11_ok y11_ok n11_ok (by decide) rfl rfl rfl rfl w1881 d_Md_numberFor_92 ?_
    refine x_letS (fun σ14 e15 => ?_)
    refine x_lv [0, 2] rfl ?_
    exact IH.2.2.2 v0R v3I (σ14)
  · refine x_lv [0, 2] rfl ?_
    exact IH.2.2.2 v0R v3I (σ)
set_option maxRecDepth 20000 in
theorem s_Md_numberFor_3 {G : GX} {p : Program} {l : Launch} {e : Env} {s : State} {m : MethodId} {args : Array Value} {below : List Frame} {meth : Method} {c : Code} {z0 u0 n : Nat} (C : Cx G p s m args meth c prog_14_method_39_code 4 "BellPlateModel" ((some FieldType.int))) (IH : I_Md_numberFor G p l e s m args below meth c z0 u0 n) (v0R : Nat) (v3I : Int32) (σ : AM) : VX (QM eI G args s below z0 u0) G p l e s m args below meth c 0 z0 u0 4 (lpK (lpn F_Md_numberFor n) (T_Md_numberFor_3 v0R v3I σ)) 95 [(0, .ref v0R), (3, .int v3I)] [] σ := by
  unfold T_Md_numberFor_3
  refine x_aload_n C d_Md_numberFor_95 0 rfl ?_
  refine x_gd (fun h1 => ?_)
  refine x_gd (fun h2 => ?_)
  refine x_getR (k := 33) (kv := 101) C (okO_iff.mp h1) rfl j11_ok (by decide) rfl (okO_iff.mp h2) (by decide) w1885 d_Md_numberFor_96 ?_
  refine x_iload_n C d_Md_numberFor_99 1 rfl ?_
  refine x_gd (fun h3 => ?_)
  refine x_aldI C (okO_iff.mp h2) (inB_iff.mp h3) d_Md_numberFor_100 ?_
  exact x_iret C d_Md_numberFor_101
theorem i_Md_numberFor {G : GX} {p : Program} {l : Launch} {e : Env} {s : State} {m : MethodId} {args : Array Value} {below : List Frame} {meth : Method} {c : Code} {z0 u0 : Nat} (C : Cx G p s m args meth c prog_14_method_39_code 4 "BellPlateModel" ((some FieldType.int))) (n : Nat) : I_Md_numberFor G p l e s m args below meth c z0 u0 n := by
  induction n with
  | zero => exact ⟨fun _ _ _ => x_none, fun _ _ _ _ => x_none, fun _ _ _ _ => x_none, fun _ _ _ => x_none⟩
  | succ n IH => exact ⟨fun v0R v1J σ => s_Md_numberFor_0 C IH v0R v1J σ, fun v0R v1J v3I σ => s_Md_numberFor_1 C IH v0R v1J v3I σ, fun v0R v1J v3I σ => s_Md_numberFor_2 C IH v0R v1J v3I σ, fun v0R v3I σ => s_Md_numberFor_3 C IH v0R v3I σ⟩
theorem c_Md_numberFor (G : GX) (l : Launch) (v0R : Nat) (v1J : Int64) (σ : AM) : CT eI G l 0 y_Md_numberFor prog_14_method_39_code 4 ((some FieldType.int)) [.ref v0R, .long v1J] σ (M_Md_numberFor v0R v1J σ) := by
  refine ct_of (by decide +kernel) (Nat.le_of_ble_eq_true rfl) (fun p e s m args below meth c C hin => ?_)
  refine x_lve (lv' := [(0, .ref v0R), (1, .long v1J)]) rfl ?_
  intro r σ' h
  obtain ⟨n, hn⟩ := (lp_iff _ _ _).mp h
  exact (i_Md_numberFor C n).1 v0R v1J σ r σ' hn
/-! BellPlateModel.costOf(I)I -/
abbrev y_Md_costOf : MethodName := ⟨"BellPlateModel", "costOf", "(I)I"⟩
theorem k_Md_costOf : y_Md_costOf.cls ≠ "java/lang/invoke/MethodHandle" ∧ y_Md_costOf.cls ≠ "java/lang/invoke/VarHandle" ∧ (parseMethodDescriptor y_Md_costOf.desc).map (fun d => d.parameters.length) = some 1 := by decide +kernel
theorem d_Md_costOf_0 : decode prog_14_method_40_code 0 = .ok (.aload_n 0, 1) := by decide +kernel
theorem d_Md_costOf_1 : decode prog_14_method_40_code 1 = .ok (.getfield 57, 3) := by decide +kernel
theorem d_Md_costOf_4 : decode prog_14_method_40_code 4 = .ok (.iconst 4, 1) := by decide +kernel
theorem d_Md_costOf_5 : decode prog_14_method_40_code 5 = .ok (.iaload, 1) := by decide +kernel
theorem d_Md_costOf_6 : decode prog_14_method_40_code 6 = .ok (.ifCond .ge 5, 3) := by decide +kernel
theorem d_Md_costOf_9 : decode prog_14_method_40_code 9 = .ok (.iconst 1, 1) := by decide +kernel
theorem d_Md_costOf_10 : decode prog_14_method_40_code 10 = .ok (.ireturn, 1) := by decide +kernel
theorem d_Md_costOf_11 : decode prog_14_method_40_code 11 = .ok (.aload_n 0, 1) := by decide +kernel
theorem d_Md_costOf_12 : decode prog_14_method_40_code 12 = .ok (.getfield 69, 3) := by decide +kernel
theorem d_Md_costOf_15 : decode prog_14_method_40_code 15 = .ok (.bipush 6, 2) := by decide +kernel
theorem d_Md_costOf_17 : decode prog_14_method_40_code 17 = .ok (.iconst 0, 1) := by decide +kernel
theorem d_Md_costOf_18 : decode prog_14_method_40_code 18 = .ok (.iastore, 1) := by decide +kernel
theorem d_Md_costOf_19 : decode prog_14_method_40_code 19 = .ok (.iconst 0, 1) := by decide +kernel
theorem d_Md_costOf_20 : decode prog_14_method_40_code 20 = .ok (.istore_n 2, 1) := by decide +kernel
theorem d_Md_costOf_21 : decode prog_14_method_40_code 21 = .ok (.iload_n 2, 1) := by decide +kernel
theorem d_Md_costOf_22 : decode prog_14_method_40_code 22 = .ok (.aload_n 0, 1) := by decide +kernel
theorem d_Md_costOf_23 : decode prog_14_method_40_code 23 = .ok (.getfield 239, 3) := by decide +kernel
theorem d_Md_costOf_26 : decode prog_14_method_40_code 26 = .ok (.if_icmp .ge 36, 3) := by decide +kernel
theorem d_Md_costOf_29 : decode prog_14_method_40_code 29 = .ok (.aload_n 0, 1) := by decide +kernel
theorem d_Md_costOf_30 : decode prog_14_method_40_code 30 = .ok (.getfield 69, 3) := by decide +kernel
theorem d_Md_costOf_33 : decode prog_14_method_40_code 33 = .ok (.iload_n 2, 1) := by decide +kernel
theorem d_Md_costOf_34 : decode prog_14_method_40_code 34 = .ok (.iload_n 1, 1) := by decide +kernel
theorem d_Md_costOf_35 : decode prog_14_method_40_code 35 = .ok (.iload_n 2, 1) := by decide +kernel
theorem d_Md_costOf_36 : decode prog_14_method_40_code 36 = .ok (.ishr, 1) := by decide +kernel
theorem d_Md_costOf_37 : decode prog_14_method_40_code 37 = .ok (.iconst 1, 1) := by decide +kernel
theorem d_Md_costOf_38 : decode prog_14_method_40_code 38 = .ok (.iand, 1) := by decide +kernel
theorem d_Md_costOf_39 : decode prog_14_method_40_code 39 = .ok (.iastore, 1) := by decide +kernel
theorem d_Md_costOf_40 : decode prog_14_method_40_code 40 = .ok (.aload_n 0, 1) := by decide +kernel
theorem d_Md_costOf_41 : decode prog_14_method_40_code 41 = .ok (.getfield 69, 3) := by decide +kernel
theorem d_Md_costOf_44 : decode prog_14_method_40_code 44 = .ok (.bipush 6, 2) := by decide +kernel
theorem d_Md_costOf_46 : decode prog_14_method_40_code 46 = .ok (.dup2, 1) := by decide +kernel
theorem d_Md_costOf_47 : decode prog_14_method_40_code 47 = .ok (.iaload, 1) := by decide +kernel
theorem d_Md_costOf_48 : decode prog_14_method_40_code 48 = .ok (.aload_n 0, 1) := by decide +kernel
theorem d_Md_costOf_49 : decode prog_14_method_40_code 49 = .ok (.getfield 69, 3) := by decide +kernel
theorem d_Md_costOf_52 : decode prog_14_method_40_code 52 = .ok (.iload_n 2, 1) := by decide +kernel
theorem d_Md_costOf_53 : decode prog_14_method_40_code 53 = .ok (.iaload, 1) := by decide +kernel
theorem d_Md_costOf_54 : decode prog_14_method_40_code 54 = .ok (.iadd, 1) := by decide +kernel
theorem d_Md_costOf_55 : decode prog_14_method_40_code 55 = .ok (.iastore, 1) := by decide +kernel
theorem d_Md_costOf_56 : decode prog_14_method_40_code 56 = .ok (.iinc 2 1, 3) := by decide +kernel
theorem d_Md_costOf_59 : decode prog_14_method_40_code 59 = .ok (.goto (-38), 3) := by decide +kernel
theorem d_Md_costOf_62 : decode prog_14_method_40_code 62 = .ok (.aload_n 0, 1) := by decide +kernel
theorem d_Md_costOf_63 : decode prog_14_method_40_code 63 = .ok (.aload_n 0, 1) := by decide +kernel
theorem d_Md_costOf_64 : decode prog_14_method_40_code 64 = .ok (.getfield 57, 3) := by decide +kernel
theorem d_Md_costOf_67 : decode prog_14_method_40_code 67 = .ok (.iconst 4, 1) := by decide +kernel
theorem d_Md_costOf_68 : decode prog_14_method_40_code 68 = .ok (.iaload, 1) := by decide +kernel
theorem d_Md_costOf_69 : decode prog_14_method_40_code 69 = .ok (.invokevirtual 310, 3) := by decide +kernel
theorem d_Md_costOf_72 : decode prog_14_method_40_code 72 = .ok (.istore_n 2, 1) := by decide +kernel
theorem d_Md_costOf_73 : decode prog_14_method_40_code 73 = .ok (.iload_n 2, 1) := by decide +kernel
theorem d_Md_costOf_74 : decode prog_14_method_40_code 74 = .ok (.ifCond .ge 7, 3) := by decide +kernel
theorem d_Md_costOf_77 : decode prog_14_method_40_code 77 = .ok (.iconst 0, 1) := by decide +kernel
theorem d_Md_costOf_78 : decode prog_14_method_40_code 78 = .ok (.goto 4, 3) := by decide +kernel
theorem d_Md_costOf_81 : decode prog_14_method_40_code 81 = .ok (.iload_n 2, 1) := by decide +kernel
theorem d_Md_costOf_82 : decode prog_14_method_40_code 82 = .ok (.ireturn, 1) := by decide +kernel
abbrev S_Md_costOf : Type := Nat × Nat × Int32 × Int32 × Int32 × AM
noncomputable def T_Md_costOf_0 (v0R : Nat) (v1I : Int32) (σ : AM) : S_Md_costOf ⊕ Option (Int32 × AM) :=
  gdT (okO σ v0R 12) <| gdT (okO σ (aR σ v0R 14) 101) <| gdT (inB (4 : Int32) (aN σ (aR σ v0R 14))) <| if (aI σ (aR σ v0R 14) (4 : Int32).toNatClampNeg) < 0 then (.inr (some ((1 : Int32), σ))) else (gdT (okO σ (aR σ v0R 24) 101) <| gdT (inB (6 : Int32) (aN σ (aR σ v0R 24))) <| letT (sI σ (aR σ v0R 24) (6 : Int32).toNatClampNeg (0 : Int32)) fun σ6 => .inl (1, v0R, v1I, (0 : Int32), 0, σ6))
noncomputable def T_Md_costOf_1 (v0R : Nat) (v1I : Int32) (v2I : Int32) (σ : AM) : S_Md_costOf ⊕ Option (Int32 × AM) :=
  gdT (okO σ v0R 12) <| if v2I < (aI σ v0R 10) then (gdT (okO σ (aR σ v0R 24) 101) <| gdT (inB v2I (aN σ (aR σ v0R 24))) <| letT (sI σ (aR σ v0R 24) v2I.toNatClampNeg ((v1I >>> (v2I &&& 31)) &&& (1 : Int32))) fun σ4 => gdT (okO σ4 (aR σ4 v0R 24) 101) <| gdT (inB (6 : Int32) (aN σ4 (aR σ4 v0R 24))) <| gdT (inB v2I (aN σ4 (aR σ4 v0R 24))) <| letT (sI σ4 (aR σ4 v0R 24) (6 : Int32).toNatClampNeg ((aI σ4 (aR σ4 v0R 24) (6 : Int32).toNatClampNeg) + (aI σ4 (aR σ4 v0R 24) v2I.toNatClampNeg))) fun σ9 => .inl (1, v0R, v1I, v2I + (1 : Int32), 0, σ9)) else (gdT (okO σ (aR σ v0R 14) 101) <| gdT (inB (4 : Int32) (aN σ (aR σ v0R 14))) <| bndT (M_Md_worthAt v0R (aI σ (aR σ v0R 14) (4 : Int32).toNatClampNeg) σ) fun r13 σ14 => if r13 < 0 then (.inl (2, 0, 0, 0, (0 : Int32), σ14)) else (.inl (2, 0, 0, 0, r13, σ14)))
noncomputable def T_Md_costOf_2 (s0I : Int32) (σ : AM) : S_Md_costOf ⊕ Option (Int32 × AM) :=
  .inr (some (s0I, σ))
noncomputable def F_Md_costOf : S_Md_costOf → S_Md_costOf ⊕ Option (Int32 × AM) := fun s => match s.1 with
  | 0 => T_Md_costOf_0 (s.2.1) (s.2.2.1) (s.2.2.2.2.2)
  | 1 => T_Md_costOf_1 (s.2.1) (s.2.2.1) (s.2.2.2.1) (s.2.2.2.2.2)
  | _ => T_Md_costOf_2 (s.2.2.2.2.1) (s.2.2.2.2.2)
noncomputable def L_Md_costOf_0 (v0R : Nat) (v1I : Int32) (σ : AM) : Option (Int32 × AM) := lp F_Md_costOf (0, v0R, v1I, 0, 0, σ)
noncomputable def L_Md_costOf_1 (v0R : Nat) (v1I : Int32) (v2I : Int32) (σ : AM) : Option (Int32 × AM) := lp F_Md_costOf (1, v0R, v1I, v2I, 0, σ)
noncomputable def L_Md_costOf_2 (s0I : Int32) (σ : AM) : Option (Int32 × AM) := lp F_Md_costOf (2, 0, 0, 0, s0I, σ)
set_option maxRecDepth 20000 in
theorem E_Md_costOf_0 (v0R : Nat) (v1I : Int32) (σ : AM) : L_Md_costOf_0 v0R v1I σ = (gd (okO σ v0R 12) <| gd (okO σ (aR σ v0R 14) 101) <| gd (inB (4 : Int32) (aN σ (aR σ v0R 14))) <| if (aI σ (aR σ v0R 14) (4 : Int32).toNatClampNeg) < 0 then ((some ((1 : Int32), σ))) else (gd (okO σ (aR σ v0R 24) 101) <| gd (inB (6 : Int32) (aN σ (aR σ v0R 24))) <| letT (sI σ (aR σ v0R 24) (6 : Int32).toNatClampNeg (0 : Int32)) fun σ6 => L_Md_costOf_1 v0R v1I ((0 : Int32)) σ6)) := by
  unfold L_Md_costOf_0
  rw [lp_eq]
  show lpK (lp F_Md_costOf) (T_Md_costOf_0 v0R v1I σ) = _
  unfold T_Md_costOf_0
  simp only [lpK_ite, lq_inl, lq_inr, lpK_bnd, lpK_gd, lq_let]
  try rfl
set_option maxRecDepth 20000 in
theorem E_Md_costOf_1 (v0R : Nat) (v1I : Int32) (v2I : Int32) (σ : AM) : L_Md_costOf_1 v0R v1I v2I σ = (gd (okO σ v0R 12) <| if v2I < (aI σ v0R 10) then (gd (okO σ (aR σ v0R 24) 101) <| gd (inB v2I (aN σ (aR σ v0R 24))) <| letT (sI σ (aR σ v0R 24) v2I.toNatClampNeg ((v1I >>> (v2I &&& 31)) &&& (1 : Int32))) fun σ4 => gd (okO σ4 (aR σ4 v0R 24) 101) <| gd (inB (6 : Int32) (aN σ4 (aR σ4 v0R 24))) <| gd (inB v2I (aN σ4 (aR σ4 v0R 24))) <| letT (sI σ4 (aR σ4 v0R 24) (6 : Int32).toNatClampNeg ((aI σ4 (aR σ4 v0R 24) (6 : Int32).toNatClampNeg) + (aI σ4 (aR σ4 v0R 24) v2I.toNatClampNeg))) fun σ9 => L_Md_costOf_1 v0R v1I (v2I + (1 : Int32)) σ9) else (gd (okO σ (aR σ v0R 14) 101) <| gd (inB (4 : Int32) (aN σ (aR σ v0R 14))) <| bnd (M_Md_worthAt v0R (aI σ (aR σ v0R 14) (4 : Int32).toNatClampNeg) σ) fun r13 σ14 => if r13 < 0 then (L_Md_costOf_2 ((0 : Int32)) σ14) else (L_Md_costOf_2 r13 σ14))) := by
  unfold L_Md_costOf_1
  rw [lp_eq]
  show lpK (lp F_Md_costOf) (T_Md_costOf_1 v0R v1I v2I σ) = _
  unfold T_Md_costOf_1
  simp only [lpK_ite, lq_inl, lq_inr, lpK_bnd, lpK_gd, lq_let]
  try rfl
set_option maxRecDepth 20000 in
theorem E_Md_costOf_2 (s0I : Int32) (σ : AM) : L_Md_costOf_2 s0I σ = ((some (s0I, σ))) := by
  unfold L_Md_costOf_2
  rw [lp_eq]
  show lpK (lp F_Md_costOf) (T_Md_costOf_2 s0I σ) = _
  unfold T_Md_costOf_2
  simp only [lpK_ite, lq_inl, lq_inr, lpK_bnd, lpK_gd, lq_let]
  try rfl
noncomputable def M_Md_costOf (v0R : Nat) (v1I : Int32) (σ : AM) : Option (Int32 × AM) := mw σ (L_Md_costOf_0 v0R v1I σ)
def I_Md_costOf (G : GX) (p : Program) (l : Launch) (e : Env) (s : State) (m : MethodId) (args : Array Value) (below : List Frame) (meth : Method) (c : Code) (z0 u0 n : Nat) : Prop :=
  (∀ (v0R : Nat) (v1I : Int32) (σ : AM), VX (QM eI G args s below z0 u0) G p l e s m args below meth c 2 z0 u0 3 (lpn F_Md_costOf n (0, v0R, v1I, 0, 0, σ)) 0 [(0, .ref v0R), (1, .int v1I)] [] σ) ∧
  (∀ (v0R : Nat) (v1I : Int32) (v2I : Int32) (σ : AM), VX (QM eI G args s below z0 u0) G p l e s m args below meth c 2 z0 u0 3 (lpn F_Md_costOf n (1, v0R, v1I, v2I, 0, σ)) 21 [(0, .ref v0R), (1, .int v1I), (2, .int v2I)] [] σ) ∧
  (∀ (s0I : Int32) (σ : AM), VX (QM eI G args s below z0 u0) G p l e s m args below meth c 2 z0 u0 3 (lpn F_Md_costOf n (2, 0, 0, 0, s0I, σ)) 82 [] [.int s0I] σ)
set_option maxRecDepth 20000 in
theorem s_Md_costOf_0 {G : GX} {p : Program} {l : Launch} {e : Env} {s : State} {m : MethodId} {args : Array Value} {below : List Frame} {meth : Method} {c : Code} {z0 u0 n : Nat} (C : Cx G p s m args meth c prog_14_method_40_code 3 "BellPlateModel" ((some FieldType.int))) (IH : I_Md_costOf G p l e s m args below meth c z0 u0 n) (v0R : Nat) (v1I : Int32) (σ : AM) : VX (QM eI G args s below z0 u0) G p l e s m args below meth c 2 z0 u0 3 (lpK (lpn F_Md_costOf n) (T_Md_costOf_0 v0R v1I σ)) 0 [(0, .ref v0R), (1, .int v1I)] [] σ := by
  unfold T_Md_costOf_0
  refine x_aload_n C d_Md_costOf_0 0 rfl ?_
  refine x_gd (fun h1 => ?_)
  refine x_gd (fun h2 => ?_)
  refine x_getR (k := 14) (kv := 101) C (okO_iff.mp h1) rfl j11_ok (by decide) rfl (okO_iff.mp h2) (by decide) w1866 d_Md_costOf_1 ?_
  refine x_iconst (v := (4 : Int32)) C d_Md_costOf_4 (by decide) ?_
  refine x_gd (fun h3 => ?_)
  refine x_aldI C (okO_iff.mp h2) (inB_iff.mp h3) d_Md_costOf_5 ?_
  refine x_if_ge (tgt := 11) C d_Md_costOf_6 (by decide) (fun _ => ?_) (fun _ => ?_)
  · refine x_iconst (v := (1 : Int32)) C d_Md_costOf_9 (by decide) ?_
    exact x_iret C d_Md_costOf_10
  · refine x_aload_n C d_Md_costOf_11 0 rfl ?_
    refine x_gd (fun h4 => ?_)
    refine x_getR (k := 24) (kv := 101) C (okO_iff.mp h1) rfl j11_ok (by decide) rfl (okO_iff.mp h4) (by decide) w1876 d_Md_costOf_12 ?_
    refine x_bipush (v := (6 : Int32)) C d_Md_costOf_15 (by decide) ?_
    refine x_iconst (v := (0 : Int32)) C d_Md_costOf_17 (by decide) ?_
    refine x_gd (fun h5 => ?_)
    refine x_astI C (okO_iff.mp h4) (inB_iff.mp h5) d_Md_costOf_18 ?_
    refine x_letS (fun σ6 e7 => ?_)
    refine x_iconst (v := (0 : Int32)) C d_Md_costOf_19 (by decide) ?_
    refine x_istore_n (lv' := [(2, .int (0 : Int32)), (0, .ref v0R), (1, .int v1I)]) C d_Md_costOf_20 (by decide) rfl rfl ?_
    refine x_lv [1, 2, 0] rfl ?_
    exact IH.2.1 v0R v1I ((0 : Int32)) (σ6)
set_option maxRecDepth 20000 in
theorem s_Md_costOf_1 {G : GX} {p : Program} {l : Launch} {e : Env} {s : State} {m : MethodId} {args : Array Value} {below : List Frame} {meth : Method} {c : Code} {z0 u0 n : Nat} (C : Cx G p s m args meth c prog_14_method_40_code 3 "BellPlateModel" ((some FieldType.int))) (IH : I_Md_costOf G p l e s m args below meth c z0 u0 n) (v0R : Nat) (v1I : Int32) (v2I : Int32) (σ : AM) : VX (QM eI G args s below z0 u0) G p l e s m args below meth c 2 z0 u0 3 (lpK (lpn F_Md_costOf n) (T_Md_costOf_1 v0R v1I v2I σ)) 21 [(0, .ref v0R), (1, .int v1I), (2, .int v2I)] [] σ := by
  unfold T_Md_costOf_1
  refine x_iload_n C d_Md_costOf_21 2 rfl ?_
  refine x_aload_n C d_Md_costOf_22 0 rfl ?_
  refine x_gd (fun h1 => ?_)
  refine x_getI (k := 10) C (okO_iff.mp h1) rfl j11_ok (by decide) rfl w1862 d_Md_costOf_23 ?_
  refine x_icmp_ge (tgt := 62) C d_Md_costOf_26 (by decide) (fun _ => ?_) (fun _ => ?_)
  · refine x_aload_n C d_Md_costOf_29 0 rfl ?_
    refine x_gd (fun h2 => ?_)
    refine x_getR (k := 24) (kv := 101) C (okO_iff.mp h1) rfl j11_ok (by decide) rfl (okO_iff.mp h2) (by decide) w1876 d_Md_costOf_30 ?_
    refine x_iload_n C d_Md_costOf_33 2 rfl ?_
    refine x_iload_n C d_Md_costOf_34 1 rfl ?_
    refine x_iload_n C d_Md_costOf_35 2 rfl ?_
    refine x_ishr C d_Md_costOf_36 ?_
    refine x_iconst (v := (1 : Int32)) C d_Md_costOf_37 (by decide) ?_
    refine x_iand C d_Md_costOf_38 ?_
    refine x_gd (fun h3 => ?_)
    refine x_astI C (okO_iff.mp h2) (inB_iff.mp h3) d_Md_costOf_39 ?_
    refine x_letS (fun σ4 e5 => ?_)
    refine x_aload_n C d_Md_costOf_40 0 rfl ?_
    refine x_gd (fun h6 => ?_)
    refine x_getR (k := 24) (kv := 101) C (by first | exact (okO_iff.mp h1) | (rw [e5]; exact (okO_iff.mp h1))) rfl j11_ok (by decide) rfl (okO_iff.mp h6) (by decide) w1876 d_Md_costOf_41 ?_
    refine x_bipush (v := (6 : Int32)) C d_Md_costOf_44 (by decide) ?_
    refine x_dup2 C d_Md_costOf_46 rfl rfl ?_
    refine x_gd (fun h7 => ?_)
    refine x_aldI C (okO_iff.mp h6) (inB_iff.mp h7) d_Md_costOf_47 ?_
    refine x_aload_n C d_Md_costOf_48 0 rfl ?_
    refine x_getR (k := 24) (kv := 101) C (by first | exact (okO_iff.mp h1) | (rw [e5]; exact (okO_iff.mp h1))) rfl j11_ok (by decide) rfl (okO_iff.mp h6) (by decide) w1876 d_Md_costOf_49 ?_
    refine x_iload_n C d_Md_costOf_52 2 rfl ?_
    refine x_gd (fun h8 => ?_)
    refine x_aldI C (okO_iff.mp h6) (inB_iff.mp h8) d_Md_costOf_53 ?_
    refine x_iadd C d_Md_costOf_54 ?_
    refine x_astI C (okO_iff.mp h6) (inB_iff.mp h7) d_Md_costOf_55 ?_
    refine x_letS (fun σ9 e10 => ?_)
    refine x_iinc (v := v2I + (1 : Int32)) (lv' := [(2, .int (v2I + (1 : Int32))), (0, .ref v0R), (1, .int v1I)]) C d_Md_costOf_56 2 rfl rfl (by decide) rfl ?_
    refine x_goto (tgt := 21) C d_Md_costOf_59 (by decide) ?_
    refine x_lv [1, 2, 0] rfl ?_
    exact IH.2.1 v0R v1I (v2I + (1 : Int32)) (σ9)
  · refine x_aload_n C d_Md_costOf_62 0 rfl ?_
    refine x_aload_n C d_Md_costOf_63 0 rfl ?_
    refine x_gd (fun h11 => ?_)
    refine x_getR (k := 14) (kv := 101) C (okO_iff.mp h1) rfl j11_ok (by decide) rfl (okO_iff.mp h11) (by decide) w1866 d_Md_costOf_64 ?_
    refine x_iconst (v := (4 : Int32)) C d_Md_costOf_67 (by decide) ?_
    refine x_gd (fun h12 => ?_)
    refine x_aldI C (okO_iff.mp h11) (inB_iff.mp h12) d_Md_costOf_68 ?_
    refine x_callVI (As := [.int (aI σ (aR σ v0R 14) (4 : Int32).toNatClampNeg)]) C (c_Md_worthAt G l v0R (aI σ (aR σ v0R 14) (4 : Int32).toNatClampNeg) σ) (okO_iff.mp h1) rfl w1838 w61 w1836 w1839 w134 k_Md_worthAt rfl (by decide) (by decide) rfl (Nat.le_of_ble_eq_true rfl) d_Md_costOf_69 (fun r13 σ14 => ?_)
    refine x_istore_n (lv' := [(2, .int r13), (0, .ref v0R), (1, .int v1I)]) C d_Md_costOf_72 (by decide) rfl rfl ?_
    refine x_iload_n C d_Md_costOf_73 0 rfl ?_
    refine x_if_ge (tgt := 81) C d_Md_costOf_74 (by decide) (fun _ => ?_) (fun _ => ?_)
    · refine x_iconst (v := (0 : Int32)) C d_Md_costOf_77 (by decide) ?_
      refine x_goto (tgt := 82) C d_Md_costOf_78 (by decide) ?_
      refine x_lv [] rfl ?_
      exact IH.2.2 ((0 : Int32)) (σ14)
    · refine x_iload_n C d_Md_costOf_81 0 rfl ?_
      refine x_lv [] rfl ?_
      exact IH.2.2 r13 (σ14)
set_option maxRecDepth 20000 in
theorem s_Md_costOf_2 {G : GX} {p : Program} {l : Launch} {e : Env} {s : State} {m : MethodId} {args : Array Value} {below : List Frame} {meth : Method} {c : Code} {z0 u0 n : Nat} (C : Cx G p s m args meth c prog_14_method_40_code 3 "BellPlateModel" ((some FieldType.int))) (IH : I_Md_costOf G p l e s m args below meth c z0 u0 n) (s0I : Int32) (σ : AM) : VX (QM eI G args s below z0 u0) G p l e s m args below meth c 2 z0 u0 3 (lpK (lpn F_Md_costOf n) (T_Md_costOf_2 s0I σ)) 82 [] [.int s0I] σ := by
  unfold T_Md_costOf_2
  exact x_iret C d_Md_costOf_82
theorem i_Md_costOf {G : GX} {p : Program} {l : Launch} {e : Env} {s : State} {m : MethodId} {args : Array Value} {below : List Frame} {meth : Method} {c : Code} {z0 u0 : Nat} (C : Cx G p s m args meth c prog_14_method_40_code 3 "BellPlateModel" ((some FieldType.int))) (n : Nat) : I_Md_costOf G p l e s m args below meth c z0 u0 n := by
  induction n with
  | zero => exact ⟨fun _ _ _ => x_none, fun _ _ _ _ => x_none, fun _ _ => x_none⟩
  | succ n IH => exact ⟨fun v0R v1I σ => s_Md_costOf_0 C IH v0R v1I σ, fun v0R v1I v2I σ => s_Md_costOf_1 C IH v0R v1I v2I σ, fun s0I σ => s_Md_costOf_2 C IH s0I σ⟩
theorem c_Md_costOf (G : GX) (l : Launch) (v0R : Nat) (v1I : Int32) (σ : AM) : CT eI G l 2 y_Md_costOf prog_14_method_40_code 3 ((some FieldType.int)) [.ref v0R, .int v1I] σ (M_Md_costOf v0R v1I σ) := by
  refine ct_of (by decide +kernel) (Nat.le_of_ble_eq_true rfl) (fun p e s m args below meth c C hin => ?_)
  refine x_lve (lv' := [(0, .ref v0R), (1, .int v1I)]) rfl ?_
  intro r σ' h
  obtain ⟨n, hn⟩ := (lp_iff _ _ _).mp h
  exact (i_Md_costOf C n).1 v0R v1I σ r σ' hn
/-! BellPlateModel.laysAll()V -/
abbrev y_Md_laysAll : MethodName := ⟨"BellPlateModel", "laysAll", "()V"⟩
theorem k_Md_laysAll : y_Md_laysAll.cls ≠ "java/lang/invoke/MethodHandle" ∧ y_Md_laysAll.cls ≠ "java/lang/invoke/VarHandle" ∧ (parseMethodDescriptor y_Md_laysAll.desc).map (fun d => d.parameters.length) = some 0 := by decide +kernel
theorem d_Md_laysAll_0 : decode prog_14_method_38_code 0 = .ok (.aload_n 0, 1) := by decide +kernel
theorem d_Md_laysAll_1 : decode prog_14_method_38_code 1 = .ok (.iconst 1, 1) := by decide +kernel
theorem d_Md_laysAll_2 : decode prog_14_method_38_code 2 = .ok (.putfield 313, 3) := by decide +kernel
theorem d_Md_laysAll_5 : decode prog_14_method_38_code 5 = .ok (.iconst 0, 1) := by decide +kernel
theorem d_Md_laysAll_6 : decode prog_14_method_38_code 6 = .ok (.istore_n 1, 1) := by decide +kernel
theorem d_Md_laysAll_7 : decode prog_14_method_38_code 7 = .ok (.iload_n 1, 1) := by decide +kernel
theorem d_Md_laysAll_8 : decode prog_14_method_38_code 8 = .ok (.aload_n 0, 1) := by decide +kernel
theorem d_Md_laysAll_9 : decode prog_14_method_38_code 9 = .ok (.getfield 239, 3) := by decide +kernel
theorem d_Md_laysAll_12 : decode prog_14_method_38_code 12 = .ok (.if_icmp .ge 24, 3) := by decide +kernel
theorem d_Md_laysAll_15 : decode prog_14_method_38_code 15 = .ok (.aload_n 0, 1) := by decide +kernel
theorem d_Md_laysAll_16 : decode prog_14_method_38_code 16 = .ok (.aload_n 0, 1) := by decide +kernel
theorem d_Md_laysAll_17 : decode prog_14_method_38_code 17 = .ok (.getfield 313, 3) := by decide +kernel
theorem d_Md_laysAll_20 : decode prog_14_method_38_code 20 = .ok (.aload_n 0, 1) := by decide +kernel
theorem d_Md_laysAll_21 : decode prog_14_method_38_code 21 = .ok (.getfield 161, 3) := by decide +kernel
theorem d_Md_laysAll_24 : decode prog_14_method_38_code 24 = .ok (.iconst 1, 1) := by decide +kernel
theorem d_Md_laysAll_25 : decode prog_14_method_38_code 25 = .ok (.iadd, 1) := by decide +kernel
theorem d_Md_laysAll_26 : decode prog_14_method_38_code 26 = .ok (.imul, 1) := by decide +kernel
theorem d_Md_laysAll_27 : decode prog_14_method_38_code 27 = .ok (.putfield 313, 3) := by decide +kernel
theorem d_Md_laysAll_30 : decode prog_14_method_38_code 30 = .ok (.iinc 1 1, 3) := by decide +kernel
theorem d_Md_laysAll_33 : decode prog_14_method_38_code 33 = .ok (.goto (-26), 3) := by decide +kernel
theorem d_Md_laysAll_36 : decode prog_14_method_38_code 36 = .ok (.aload_n 0, 1) := by decide +kernel
theorem d_Md_laysAll_37 : decode prog_14_method_38_code 37 = .ok (.iconst 0, 1) := by decide +kernel
theorem d_Md_laysAll_38 : decode prog_14_method_38_code 38 = .ok (.putfield 316, 3) := by decide +kernel
theorem d_Md_laysAll_41 : decode prog_14_method_38_code 41 = .ok (.iconst 0, 1) := by decide +kernel
theorem d_Md_laysAll_42 : decode prog_14_method_38_code 42 = .ok (.istore_n 1, 1) := by decide +kernel
theorem d_Md_laysAll_43 : decode prog_14_method_38_code 43 = .ok (.iload_n 1, 1) := by decide +kernel
theorem d_Md_laysAll_44 : decode prog_14_method_38_code 44 = .ok (.ldc 91, 2) := by decide +kernel
theorem d_Md_laysAll_46 : decode prog_14_method_38_code 46 = .ok (.if_icmp .ge 16, 3) := by decide +kernel
theorem d_Md_laysAll_49 : decode prog_14_method_38_code 49 = .ok (.aload_n 0, 1) := by decide +kernel
theorem d_Md_laysAll_50 : decode prog_14_method_38_code 50 = .ok (.getfield 92, 3) := by decide +kernel
theorem d_Md_laysAll_53 : decode prog_14_method_38_code 53 = .ok (.iload_n 1, 1) := by decide +kernel
theorem d_Md_laysAll_54 : decode prog_14_method_38_code 54 = .ok (.iconst (-1), 1) := by decide +kernel
theorem d_Md_laysAll_55 : decode prog_14_method_38_code 55 = .ok (.iastore, 1) := by decide +kernel
theorem d_Md_laysAll_56 : decode prog_14_method_38_code 56 = .ok (.iinc 1 1, 3) := by decide +kernel
theorem d_Md_laysAll_59 : decode prog_14_method_38_code 59 = .ok (.goto (-16), 3) := by decide +kernel
theorem d_Md_laysAll_62 : decode prog_14_method_38_code 62 = .ok (.iconst 0, 1) := by decide +kernel
theorem d_Md_laysAll_63 : decode prog_14_method_38_code 63 = .ok (.istore_n 1, 1) := by decide +kernel
theorem d_Md_laysAll_64 : decode prog_14_method_38_code 64 = .ok (.iload_n 1, 1) := by decide +kernel
theorem d_Md_laysAll_65 : decode prog_14_method_38_code 65 = .ok (.aload_n 0, 1) := by decide +kernel
theorem d_Md_laysAll_66 : decode prog_14_method_38_code 66 = .ok (.getfield 313, 3) := by decide +kernel
theorem d_Md_laysAll_69 : decode prog_14_method_38_code 69 = .ok (.if_icmp .ge 74, 3) := by decide +kernel
theorem d_Md_laysAll_72 : decode prog_14_method_38_code 72 = .ok (.aload_n 0, 1) := by decide +kernel
theorem d_Md_laysAll_73 : decode prog_14_method_38_code 73 = .ok (.iload_n 1, 1) := by decide +kernel
theorem d_Md_laysAll_74 : decode prog_14_method_38_code 74 = .ok (.invokevirtual 319, 3) := by decide +kernel
theorem d_Md_laysAll_77 : decode prog_14_method_38_code 77 = .ok (.aload_n 0, 1) := by decide +kernel
theorem d_Md_laysAll_78 : decode prog_14_method_38_code 78 = .ok (.getfield 75, 3) := by decide +kernel
theorem d_Md_laysAll_81 : decode prog_14_method_38_code 81 = .ok (.iload_n 1, 1) := by decide +kernel
theorem d_Md_laysAll_82 : decode prog_14_method_38_code 82 = .ok (.aload_n 0, 1) := by decide +kernel
theorem d_Md_laysAll_83 : decode prog_14_method_38_code 83 = .ok (.invokevirtual 322, 3) := by decide +kernel
theorem d_Md_laysAll_86 : decode prog_14_method_38_code 86 = .ok (.lastore, 1) := by decide +kernel
theorem d_Md_laysAll_87 : decode prog_14_method_38_code 87 = .ok (.aload_n 0, 1) := by decide +kernel
theorem d_Md_laysAll_88 : decode prog_14_method_38_code 88 = .ok (.getfield 78, 3) := by decide +kernel
theorem d_Md_laysAll_91 : decode prog_14_method_38_code 91 = .ok (.iload_n 1, 1) := by decide +kernel
theorem d_Md_laysAll_92 : decode prog_14_method_38_code 92 = .ok (.aload_n 0, 1) := by decide +kernel
theorem d_Md_laysAll_93 : decode prog_14_method_38_code 93 = .ok (.invokevirtual 326, 3) := by decide +kernel
theorem d_Md_laysAll_96 : decode prog_14_method_38_code 96 = .ok (.bastore, 1) := by decide +kernel
theorem d_Md_laysAll_97 : decode prog_14_method_38_code 97 = .ok (.aload_n 0, 1) := by decide +kernel
theorem d_Md_laysAll_98 : decode prog_14_method_38_code 98 = .ok (.getfield 78, 3) := by decide +kernel
theorem d_Md_laysAll_101 : decode prog_14_method_38_code 101 = .ok (.iload_n 1, 1) := by decide +kernel
theorem d_Md_laysAll_102 : decode prog_14_method_38_code 102 = .ok (.baload, 1) := by decide +kernel
theorem d_Md_laysAll_103 : decode prog_14_method_38_code 103 = .ok (.ifCond .eq 34, 3) := by decide +kernel
theorem d_Md_laysAll_106 : decode prog_14_method_38_code 106 = .ok (.aload_n 0, 1) := by decide +kernel
theorem d_Md_laysAll_107 : decode prog_14_method_38_code 107 = .ok (.getfield 88, 3) := by decide +kernel
theorem d_Md_laysAll_110 : decode prog_14_method_38_code 110 = .ok (.iload_n 1, 1) := by decide +kernel
theorem d_Md_laysAll_111 : decode prog_14_method_38_code 111 = .ok (.aload_n 0, 1) := by decide +kernel
theorem d_Md_laysAll_112 : decode prog_14_method_38_code 112 = .ok (.aload_n 0, 1) := by decide +kernel
theorem d_Md_laysAll_113 : decode prog_14_method_38_code 113 = .ok (.getfield 75, 3) := by decide +kernel
theorem d_Md_laysAll_116 : decode prog_14_method_38_code 116 = .ok (.iload_n 1, 1) := by decide +kernel
theorem d_Md_laysAll_117 : decode prog_14_method_38_code 117 = .ok (.laload, 1) := by decide +kernel
theorem d_Md_laysAll_118 : decode prog_14_method_38_code 118 = .ok (.invokevirtual 329, 3) := by decide +kernel
theorem d_Md_laysAll_121 : decode prog_14_method_38_code 121 = .ok (.iastore, 1) := by decide +kernel
theorem d_Md_laysAll_122 : decode prog_14_method_38_code 122 = .ok (.aload_n 0, 1) := by decide +kernel
theorem d_Md_laysAll_123 : decode prog_14_method_38_code 123 = .ok (.getfield 85, 3) := by decide +kernel
theorem d_Md_laysAll_126 : decode prog_14_method_38_code 126 = .ok (.aload_n 0, 1) := by decide +kernel
theorem d_Md_laysAll_127 : decode prog_14_method_38_code 127 = .ok (.getfield 88, 3) := by decide +kernel
theorem d_Md_laysAll_130 : decode prog_14_method_38_code 130 = .ok (.iload_n 1, 1) := by decide +kernel
theorem d_Md_laysAll_131 : decode prog_14_method_38_code 131 = .ok (.iaload, 1) := by decide +kernel
theorem d_Md_laysAll_132 : decode prog_14_method_38_code 132 = .ok (.dup2, 1) := by decide +kernel
theorem d_Md_laysAll_133 : decode prog_14_method_38_code 133 = .ok (.iaload, 1) := by decide +kernel
theorem d_Md_laysAll_134 : decode prog_14_method_38_code 134 = .ok (.iconst 1, 1) := by decide +kernel
theorem d_Md_laysAll_135 : decode prog_14_method_38_code 135 = .ok (.iadd, 1) := by decide +kernel
theorem d_Md_laysAll_136 : decode prog_14_method_38_code 136 = .ok (.iastore, 1) := by decide +kernel
theorem d_Md_laysAll_137 : decode prog_14_method_38_code 137 = .ok (.iinc 1 1, 3) := by decide +kernel
theorem d_Md_laysAll_140 : decode prog_14_method_38_code 140 = .ok (.goto (-76), 3) := by decide +kernel
theorem d_Md_laysAll_143 : decode prog_14_method_38_code 143 = .ok (.iconst 0, 1) := by decide +kernel
theorem d_Md_laysAll_144 : decode prog_14_method_38_code 144 = .ok (.istore_n 1, 1) := by decide +kernel
theorem d_Md_laysAll_145 : decode prog_14_method_38_code 145 = .ok (.iload_n 1, 1) := by decide +kernel
theorem d_Md_laysAll_146 : decode prog_14_method_38_code 146 = .ok (.aload_n 0, 1) := by decide +kernel
theorem d_Md_laysAll_147 : decode prog_14_method_38_code 147 = .ok (.invokevirtual 306, 3) := by decide +kernel
theorem d_Md_laysAll_150 : decode prog_14_method_38_code 150 = .ok (.if_icmp .ge 20, 3) := by decide +kernel
theorem d_Md_laysAll_153 : decode prog_14_method_38_code 153 = .ok (.aload_n 0, 1) := by decide +kernel
theorem d_Md_laysAll_154 : decode prog_14_method_38_code 154 = .ok (.getfield 101, 3) := by decide +kernel
theorem d_Md_laysAll_157 : decode prog_14_method_38_code 157 = .ok (.iload_n 1, 1) := by decide +kernel
theorem d_Md_laysAll_158 : decode prog_14_method_38_code 158 = .ok (.aload_n 0, 1) := by decide +kernel
theorem d_Md_laysAll_159 : decode prog_14_method_38_code 159 = .ok (.iload_n 1, 1) := by decide +kernel
theorem d_Md_laysAll_160 : decode prog_14_method_38_code 160 = .ok (.invokevirtual 332, 3) := by decide +kernel
theorem d_Md_laysAll_163 : decode prog_14_method_38_code 163 = .ok (.iastore, 1) := by decide +kernel
theorem d_Md_laysAll_164 : decode prog_14_method_38_code 164 = .ok (.iinc 1 1, 3) := by decide +kernel
theorem d_Md_laysAll_167 : decode prog_14_method_38_code 167 = .ok (.goto (-22), 3) := by decide +kernel
theorem d_Md_laysAll_170 : decode prog_14_method_38_code 170 = .ok (.return_, 1) := by decide +kernel
abbrev S_Md_laysAll : Type := Nat × Nat × Int32 × AM
noncomputable def T_Md_laysAll_0 (v0R : Nat) (σ : AM) : S_Md_laysAll ⊕ Option (Unit × AM) :=
  gdT (okO σ v0R 12) <| letT (sI σ v0R 26 (1 : Int32)) fun σ2 => .inl (1, v0R, (0 : Int32), σ2)
noncomputable def T_Md_laysAll_1 (v0R : Nat) (v1I : Int32) (σ : AM) : S_Md_laysAll ⊕ Option (Unit × AM) :=
  gdT (okO σ v0R 12) <| if v1I < (aI σ v0R 10) then (letT (sI σ v0R 26 ((aI σ v0R 26) * ((aI σ v0R 11) + (1 : Int32)))) fun σ2 => .inl (1, v0R, v1I + (1 : Int32), σ2)) else (letT (sI σ v0R 29 (0 : Int32)) fun σ4 => .inl (2, v0R, (0 : Int32), σ4))
noncomputable def T_Md_laysAll_2 (v0R : Nat) (v1I : Int32) (σ : AM) : S_Md_laysAll ⊕ Option (Unit × AM) :=
  if v1I < (32768 : Int32) then (gdT (okO σ v0R 12) <| gdT (okO σ (aR σ v0R 33) 101) <| gdT (inB v1I (aN σ (aR σ v0R 33))) <| letT (sI σ (aR σ v0R 33) v1I.toNatClampNeg ((-1) : Int32)) fun σ4 => .inl (2, v0R, v1I + (1 : Int32), σ4)) else (.inl (3, v0R, (0 : Int32), σ))
noncomputable def T_Md_laysAll_3 (v0R : Nat) (v1I : Int32) (σ : AM) : S_Md_laysAll ⊕ Option (Unit × AM) :=
  gdT (okO σ v0R 12) <| if v1I < (aI σ v0R 26) then (bndT (M_Md_unpacks v0R v1I σ) fun _ σ3 => gdT (okO σ3 v0R 12) <| gdT (okO σ3 (aR σ3 v0R 27) 102) <| bndT (M_Md_listNow v0R σ3) fun r6 σ7 => gdT (okO σ7 (aR σ3 v0R 27) 102) <| gdT (inB v1I (aN σ7 (aR σ3 v0R 27))) <| letT (sL σ7 (aR σ3 v0R 27) v1I.toNatClampNeg r6) fun σ10 => gdT (okO σ10 v0R 12) <| gdT (okO σ10 (aR σ10 v0R 28) 103) <| bndT (M_Md_mayNow v0R σ10) fun r14 σ15 => gdT (okO σ15 (aR σ10 v0R 28) 103) <| gdT (inB v1I (aN σ15 (aR σ10 v0R 28))) <| letT (sI σ15 (aR σ10 v0R 28) v1I.toNatClampNeg (vp_nar .boolean r14)) fun σ18 => gdT (okO σ18 v0R 12) <| gdT (okO σ18 (aR σ18 v0R 28) 103) <| gdT (inB v1I (aN σ18 (aR σ18 v0R 28))) <| if (aI σ18 (aR σ18 v0R 28) v1I.toNatClampNeg) = 0 then (.inl (4, v0R, v1I, σ18)) else (gdT (okO σ18 (aR σ18 v0R 32) 101) <| gdT (okO σ18 (aR σ18 v0R 27) 102) <| gdT (inB v1I (aN σ18 (aR σ18 v0R 27))) <| bndT (M_Md_numberFor v0R (aL σ18 (aR σ18 v0R 27) v1I.toNatClampNeg) σ18) fun r26 σ27 => gdT (okO σ27 (aR σ18 v0R 32) 101) <| gdT (inB v1I (aN σ27 (aR σ18 v0R 32))) <| letT (sI σ27 (aR σ18 v0R 32) v1I.toNatClampNeg r26) fun σ30 => gdT (okO σ30 v0R 12) <| gdT (okO σ30 (aR σ30 v0R 31) 101) <| gdT (okO σ30 (aR σ30 v0R 32) 101) <| gdT (inB v1I (aN σ30 (aR σ30 v0R 32))) <| gdT (inB (aI σ30 (aR σ30 v0R 32) v1I.toNatClampNeg) (aN σ30 (aR σ30 v0R 31))) <| letT (sI σ30 (aR σ30 v0R 31) (aI σ30 (aR σ30 v0R 32) v1I.toNatClampNeg).toNatClampNeg ((aI σ30 (aR σ30 v0R 31) (aI σ30 (aR σ30 v0R 32) v1I.toNatClampNeg).toNatClampNeg) + (1 : Int32))) fun σ37 => .inl (4, v0R, v1I, σ37))) else (.inl (5, v0R, (0 : Int32), σ))
noncomputable def T_Md_laysAll_4 (v0R : Nat) (v1I : Int32) (σ : AM) : S_Md_laysAll ⊕ Option (Unit × AM) :=
  .inl (3, v0R, v1I + (1 : Int32), σ)
noncomputable def T_Md_laysAll_5 (v0R : Nat) (v1I : Int32) (σ : AM) : S_Md_laysAll ⊕ Option (Unit × AM) :=
  gdT (okO σ v0R 12) <| bndT (M_Md_sets v0R σ) fun r1 σ2 => if v1I < r1 then (gdT (okO σ2 v0R 12) <| gdT (okO σ2 (aR σ2 v0R 36) 101) <| bndT (M_Md_costOf v0R v1I σ2) fun r6 σ7 => gdT (okO σ7 (aR σ2 v0R 36) 101) <| gdT (inB v1I (aN σ7 (aR σ2 v0R 36))) <| letT (sI σ7 (aR σ2 v0R 36) v1I.toNatClampNeg r6) fun σ10 => .inl (5, v0R, v1I + (1 : Int32), σ10)) else (.inr (some ((), σ2)))
noncomputable def F_Md_laysAll : S_Md_laysAll → S_Md_laysAll ⊕ Option (Unit × AM) := fun s => match s.1 with
  | 0 => T_Md_laysAll_0 (s.2.1) (s.2.2.2)
  | 1 => T_Md_laysAll_1 (s.2.1) (s.2.2.1) (s.2.2.2)
  | 2 => T_Md_laysAll_2 (s.2.1) (s.2.2.1) (s.2.2.2)
  | 3 => T_Md_laysAll_3 (s.2.1) (s.2.2.1) (s.2.2.2)
  | 4 => T_Md_laysAll_4 (s.2.1) (s.2.2.1) (s.2.2.2)
  | _ => T_Md_laysAll_5 (s.2.1) (s.2.2.1) (s.2.2.2)
noncomputable def L_Md_laysAll_0 (v0R : Nat) (σ : AM) : Option (Unit × AM) := lp F_Md_laysAll (0, v0R, 0, σ)
noncomputable def L_Md_laysAll_1 (v0R : Nat) (v1I : Int32) (σ : AM) : Option (Unit × AM) := lp F_Md_laysAll (1, v0R, v1I, σ)
noncomputable def L_Md_laysAll_2 (v0R : Nat) (v1I : Int32) (σ : AM) : Option (Unit × AM) := lp F_Md_laysAll (2, v0R, v1I, σ)
noncomputable def L_Md_laysAll_3 (v0R : Nat) (v1I : Int32) (σ : AM) : Option (Unit × AM) := lp F_Md_laysAll (3, v0R, v1I, σ)
noncomputable def L_Md_laysAll_4 (v0R : Nat) (v1I : Int32) (σ : AM) : Option (Unit × AM) := lp F_Md_laysAll (4, v0R, v1I, σ)
noncomputable def L_Md_laysAll_5 (v0R : Nat) (v1I : Int32) (σ : AM) : Option (Unit × AM) := lp F_Md_laysAll (5, v0R, v1I, σ)
set_option maxRecDepth 20000 in
theorem E_Md_laysAll_0 (v0R : Nat) (σ : AM) : L_Md_laysAll_0 v0R σ = (gd (okO σ v0R 12) <| letT (sI σ v0R 26 (1 : Int32)) fun σ2 => L_Md_laysAll_1 v0R ((0 : Int32)) σ2) := by
  unfold L_Md_laysAll_0
  rw [lp_eq]
  show lpK (lp F_Md_laysAll) (T_Md_laysAll_0 v0R σ) = _
  unfold T_Md_laysAll_0
  simp only [lpK_ite, lq_inl, lq_inr, lpK_bnd, lpK_gd, lq_let]
  try rfl
set_option maxRecDepth 20000 in
theorem E_Md_laysAll_1 (v0R : Nat) (v1I : Int32) (σ : AM) : L_Md_laysAll_1 v0R v1I σ = (gd (okO σ v0R 12) <| if v1I < (aI σ v0R 10) then (letT (sI σ v0R 26 ((aI σ v0R 26) * ((aI σ v0R 11) + (1 : Int32)))) fun σ2 => L_Md_laysAll_1 v0R (v1I + (1 : Int32)) σ2) else (letT (sI σ v0R 29 (0 : Int32)) fun σ4 => L_Md_laysAll_2 v0R ((0 : Int32)) σ4)) := by
  unfold L_Md_laysAll_1
  rw [lp_eq]
  show lpK (lp F_Md_laysAll) (T_Md_laysAll_1 v0R v1I σ) = _
  unfold T_Md_laysAll_1
  simp only [lpK_ite, lq_inl, lq_inr, lpK_bnd, lpK_gd, lq_let]
  try rfl
set_option maxRecDepth 20000 in
theorem E_Md_laysAll_2 (v0R : Nat) (v1I : Int32) (σ : AM) : L_Md_laysAll_2 v0R v1I σ = (if v1I < (32768 : Int32) then (gd (okO σ v0R 12) <| gd (okO σ (aR σ v0R 33) 101) <| gd (inB v1I (aN σ (aR σ v0R 33))) <| letT (sI σ (aR σ v0R 33) v1I.toNatClampNeg ((-1) : Int32)) fun σ4 => L_Md_laysAll_2 v0R (v1I + (1 : Int32)) σ4) else (L_Md_laysAll_3 v0R ((0 : Int32)) σ)) := by
  unfold L_Md_laysAll_2
  rw [lp_eq]
  show lpK (lp F_Md_laysAll) (T_Md_laysAll_2 v0R v1I σ) = _
  unfold T_Md_laysAll_2
  simp only [lpK_ite, lq_inl, lq_inr, lpK_bnd, lpK_gd, lq_let]
  try rfl
set_option maxRecDepth 20000 in
theorem E_Md_laysAll_3 (v0R : Nat) (v1I : Int32) (σ : AM) : L_Md_laysAll_3 v0R v1I σ = (gd (okO σ v0R 12) <| if v1I < (aI σ v0R 26) then (bnd (M_Md_unpacks v0R v1I σ) fun _ σ3 => gd (okO σ3 v0R 12) <| gd (okO σ3 (aR σ3 v0R 27) 102) <| bnd (M_Md_listNow v0R σ3) fun r6 σ7 => gd (okO σ7 (aR σ3 v0R 27) 102) <| gd (inB v1I (aN σ7 (aR σ3 v0R 27))) <| letT (sL σ7 (aR σ3 v0R 27) v1I.toNatClampNeg r6) fun σ10 => gd (okO σ10 v0R 12) <| gd (okO σ10 (aR σ10 v0R 28) 103) <| bnd (M_Md_mayNow v0R σ10) fun r14 σ15 => gd (okO σ15 (aR σ10 v0R 28) 103) <| gd (inB v1I (aN σ15 (aR σ10 v0R 28))) <| letT (sI σ15 (aR σ10 v0R 28) v1I.toNatClampNeg (vp_nar .boolean r14)) fun σ18 => gd (okO σ18 v0R 12) <| gd (okO σ18 (aR σ18 v0R 28) 103) <| gd (inB v1I (aN σ18 (aR σ18 v0R 28))) <| if (aI σ18 (aR σ18 v0R 28) v1I.toNatClampNeg) = 0 then (L_Md_laysAll_4 v0R v1I σ18) else (gd (okO σ18 (aR σ18 v0R 32) 101) <| gd (okO σ18 (aR σ18 v0R 27) 102) <| gd (inB v1I (aN σ18 (aR σ18 v0R 27))) <| bnd (M_Md_numberFor v0R (aL σ18 (aR σ18 v0R 27) v1I.toNatClampNeg) σ18) fun r26 σ27 => gd (okO σ27 (aR σ18 v0R 32) 101) <| gd (inB v1I (aN σ27 (aR σ18 v0R 32))) <| letT (sI σ27 (aR σ18 v0R 32) v1I.toNatClampNeg r26) fun σ30 => gd (okO σ30 v0R 12) <| gd (okO σ30 (aR σ30 v0R 31) 101) <| gd (okO σ30 (aR σ30 v0R 32) 101) <| gd (inB v1I (aN σ30 (aR σ30 v0R 32))) <| gd (inB (aI σ30 (aR σ30 v0R 32) v1I.toNatClampNeg) (aN σ30 (aR σ30 v0R 31))) <| letT (sI σ30 (aR σ30 v0R 31) (aI σ30 (aR σ30 v0R 32) v1I.toNatClampNeg).toNatClampNeg ((aI σ30 (aR σ30 v0R 31) (aI σ30 (aR σ30 v0R 32) v1I.toNatClampNeg).toNatClampNeg) + (1 : Int32))) fun σ37 => L_Md_laysAll_4 v0R v1I σ37)) else (L_Md_laysAll_5 v0R ((0 : Int32)) σ)) := by
  unfold L_Md_laysAll_3
  rw [lp_eq]
  show lpK (lp F_Md_laysAll) (T_Md_laysAll_3 v0R v1I σ) = _
  unfold T_Md_laysAll_3
  simp only [lpK_ite, lq_inl, lq_inr, lpK_bnd, lpK_gd, lq_let]
  try rfl
set_option maxRecDepth 20000 in
theorem E_Md_laysAll_4 (v0R : Nat) (v1I : Int32) (σ : AM) : L_Md_laysAll_4 v0R v1I σ = (L_Md_laysAll_3 v0R (v1I + (1 : Int32)) σ) := by
  unfold L_Md_laysAll_4
  rw [lp_eq]
  show lpK (lp F_Md_laysAll) (T_Md_laysAll_4 v0R v1I σ) = _
  unfold T_Md_laysAll_4
  simp only [lpK_ite, lq_inl, lq_inr, lpK_bnd, lpK_gd, lq_let]
  try rfl
set_option maxRecDepth 20000 in
theorem E_Md_laysAll_5 (v0R : Nat) (v1I : Int32) (σ : AM) : L_Md_laysAll_5 v0R v1I σ = (gd (okO σ v0R 12) <| bnd (M_Md_sets v0R σ) fun r1 σ2 => if v1I < r1 then (gd (okO σ2 v0R 12) <| gd (okO σ2 (aR σ2 v0R 36) 101) <| bnd (M_Md_costOf v0R v1I σ2) fun r6 σ7 => gd (okO σ7 (aR σ2 v0R 36) 101) <| gd (inB v1I (aN σ7 (aR σ2 v0R 36))) <| letT (sI σ7 (aR σ2 v0R 36) v1I.toNatClampNeg r6) fun σ10 => L_Md_laysAll_5 v0R (v1I + (1 : Int32)) σ10) else ((some ((), σ2)))) := by
  unfold L_Md_laysAll_5
  rw [lp_eq]
  show lpK (lp F_Md_laysAll) (T_Md_laysAll_5 v0R v1I σ) = _
  unfold T_Md_laysAll_5
  simp only [lpK_ite, lq_inl, lq_inr, lpK_bnd, lpK_gd, lq_let]
  try rfl
noncomputable def M_Md_laysAll (v0R : Nat) (σ : AM) : Option (Unit × AM) := mw σ (L_Md_laysAll_0 v0R σ)
def I_Md_laysAll (G : GX) (p : Program) (l : Launch) (e : Env) (s : State) (m : MethodId) (args : Array Value) (below : List Frame) (meth : Method) (c : Code) (z0 u0 n : Nat) : Prop :=
  (∀ (v0R : Nat) (σ : AM), VX (QM eV G args s below z0 u0) G p l e s m args below meth c 3 z0 u0 2 (lpn F_Md_laysAll n (0, v0R, 0, σ)) 0 [(0, .ref v0R)] [] σ) ∧
  (∀ (v0R : Nat) (v1I : Int32) (σ : AM), VX (QM eV G args s below z0 u0) G p l e s m args below meth c 3 z0 u0 2 (lpn F_Md_laysAll n (1, v0R, v1I, σ)) 7 [(0, .ref v0R), (1, .int v1I)] [] σ) ∧
  (∀ (v0R : Nat) (v1I : Int32) (σ : AM), VX (QM eV G args s below z0 u0) G p l e s m args below meth c 3 z0 u0 2 (lpn F_Md_laysAll n (2, v0R, v1I, σ)) 43 [(0, .ref v0R), (1, .int v1I)] [] σ) ∧
  (∀ (v0R : Nat) (v1I : Int32) (σ : AM), VX (QM eV G args s below z0 u0) G p l e s m args below meth c 3 z0 u0 2 (lpn F_Md_laysAll n (3, v0R, v1I, σ)) 64 [(0, .ref v0R), (1, .int v1I)] [] σ) ∧
  (∀ (v0R : Nat) (v1I : Int32) (σ : AM), VX (QM eV G args s below z0 u0) G p l e s m args below meth c 3 z0 u0 2 (lpn F_Md_laysAll n (4, v0R, v1I, σ)) 137 [(0, .ref v0R), (1, .int v1I)] [] σ) ∧
  (∀ (v0R : Nat) (v1I : Int32) (σ : AM), VX (QM eV G args s below z0 u0) G p l e s m args below meth c 3 z0 u0 2 (lpn F_Md_laysAll n (5, v0R, v1I, σ)) 145 [(0, .ref v0R), (1, .int v1I)] [] σ)
set_option maxRecDepth 20000 in
theorem s_Md_laysAll_0 {G : GX} {p : Program} {l : Launch} {e : Env} {s : State} {m : MethodId} {args : Array Value} {below : List Frame} {meth : Method} {c : Code} {z0 u0 n : Nat} (C : Cx G p s m args meth c prog_14_method_38_code 2 "BellPlateModel" ((none))) (IH : I_Md_laysAll G p l e s m args below meth c z0 u0 n) (v0R : Nat) (σ : AM) : VX (QM eV G args s below z0 u0) G p l e s m args below meth c 3 z0 u0 2 (lpK (lpn F_Md_laysAll n) (T_Md_laysAll_0 v0R σ)) 0 [(0, .ref v0R)] [] σ := by
  unfold T_Md_laysAll_0
  refine x_aload_n C d_Md_laysAll_0 0 rfl ?_
  refine x_iconst (v := (1 : Int32)) C d_Md_laysAll_1 (by decide) ?_
  refine x_gd (fun h1 => ?_)
  refine x_putI (k := 26) C (okO_iff.mp h1) rfl j11_ok y11_ok n11_ok (by decide) rfl rfl rfl rfl w1878 d_Md_laysAll_2 ?_
  refine x_letS (fun σ2 e3 => ?_)
  refine x_iconst (v := (0 : Int32)) C d_Md_laysAll_5 (by decide) ?_
  refine x_istore_n (lv' := [(1, .int (0 : Int32)), (0, .ref v0R)]) C d_Md_laysAll_6 (by decide) rfl rfl ?_
  refine x_lv [1, 0] rfl ?_
  exact IH.2.1 v0R ((0 : Int32)) (σ2)
set_option maxRecDepth 20000 in
theorem s_Md_laysAll_1 {G : GX} {p : Program} {l : Launch} {e : Env} {s : State} {m : MethodId} {args : Array Value} {below : List Frame} {meth : Method} {c : Code} {z0 u0 n : Nat} (C : Cx G p s m args meth c prog_14_method_38_code 2 "BellPlateModel" ((none))) (IH : I_Md_laysAll G p l e s m args below meth c z0 u0 n) (v0R : Nat) (v1I : Int32) (σ : AM) : VX (QM eV G args s below z0 u0) G p l e s m args below meth c 3 z0 u0 2 (lpK (lpn F_Md_laysAll n) (T_Md_laysAll_1 v0R v1I σ)) 7 [(0, .ref v0R), (1, .int v1I)] [] σ := by
  unfold T_Md_laysAll_1
  refine x_iload_n C d_Md_laysAll_7 1 rfl ?_
  refine x_aload_n C d_Md_laysAll_8 0 rfl ?_
  refine x_gd (fun h1 => ?_)
  refine x_getI (k := 10) C (okO_iff.mp h1) rfl j11_ok (by decide) rfl w1862 d_Md_laysAll_9 ?_
  refine x_icmp_ge (tgt := 36) C d_Md_laysAll_12 (by decide) (fun _ => ?_) (fun _ => ?_)
  · refine x_aload_n C d_Md_laysAll_15 0 rfl ?_
    refine x_aload_n C d_Md_laysAll_16 0 rfl ?_
    refine x_getI (k := 26) C (okO_iff.mp h1) rfl j11_ok (by decide) rfl w1878 d_Md_laysAll_17 ?_
    refine x_aload_n C d_Md_laysAll_20 0 rfl ?_
    refine x_getI (k := 11) C (okO_iff.mp h1) rfl j11_ok (by decide) rfl w1863 d_Md_laysAll_21 ?_
    refine x_iconst (v := (1 : Int32)) C d_Md_laysAll_24 (by decide) ?_
    refine x_iadd C d_Md_laysAll_25 ?_
    refine x_imul C d_Md_laysAll_26 ?_
    refine x_putI (k := 26) C (okO_iff.mp h1) rfl j11_ok y11_ok n11_ok (by decide) rfl rfl rfl rfl w1878 d_Md_laysAll_27 ?_
    refine x_letS (fun σ2 e3 => ?_)
    refine x_iinc (v := v1I + (1 : Int32)) (lv' := [(1, .int (v1I + (1 : Int32))), (0, .ref v0R)]) C d_Md_laysAll_30 1 rfl rfl (by decide) rfl ?_
    refine x_goto (tgt := 7) C d_Md_laysAll_33 (by decide) ?_
    refine x_lv [1, 0] rfl ?_
    exact IH.2.1 v0R (v1I + (1 : Int32)) (σ2)
  · refine x_aload_n C d_Md_laysAll_36 0 rfl ?_
    refine x_iconst (v := (0 : Int32)) C d_Md_laysAll_37 (by decide) ?_
    refine x_putI (k := 29) C (okO_iff.mp h1) rfl j11_ok y11_ok n11_ok (by decide) rfl rfl rfl rfl w1881 d_Md_laysAll_38 ?_
    refine x_letS (fun σ4 e5 => ?_)
    refine x_iconst (v := (0 : Int32)) C d_Md_laysAll_41 (by decide) ?_
    refine x_istore_n (lv' := [(1, .int (0 : Int32)), (0, .ref v0R)]) C d_Md_laysAll_42 (by decide) rfl rfl ?_
    refine x_lv [1, 0] rfl ?_
    exact IH.2.2.1 v0R ((0 : Int32)) (σ4)
set_option maxRecDepth 20000 in
theorem s_Md_laysAll_2 {G : GX} {p : Program} {l : Launch} {e : Env} {s : State} {m : MethodId} {args : Array Value} {below : List Frame} {meth : Method} {c : Code} {z0 u0 n : Nat} (C : Cx G p s m args meth c prog_14_method_38_code 2 "BellPlateModel" ((none))) (IH : I_Md_laysAll G p l e s m args below meth c z0 u0 n) (v0R : Nat) (v1I : Int32) (σ : AM) : VX (QM eV G args s below z0 u0) G p l e s m args below meth c 3 z0 u0 2 (lpK (lpn F_Md_laysAll n) (T_Md_laysAll_2 v0R v1I σ)) 43 [(0, .ref v0R), (1, .int v1I)] [] σ := by
  unfold T_Md_laysAll_2
  refine x_iload_n C d_Md_laysAll_43 1 rfl ?_
  refine x_ldc C d_Md_laysAll_44 w1811 ?_
  refine x_icmp_ge (tgt := 62) C d_Md_laysAll_46 (by decide) (fun _ => ?_) (fun _ => ?_)
  · refine x_aload_n C d_Md_laysAll_49 0 rfl ?_
    refine x_gd (fun h1 => ?_)
    refine x_gd (fun h2 => ?_)
    refine x_getR (k := 33) (kv := 101) C (okO_iff.mp h1) rfl j11_ok (by decide) rfl (okO_iff.mp h2) (by decide) w1885 d_Md_laysAll_50 ?_
    refine x_iload_n C d_Md_laysAll_53 1 rfl ?_
    refine x_iconst (v := ((-1) : Int32)) C d_Md_laysAll_54 (by decide) ?_
    refine x_gd (fun h3 => ?_)
    refine x_astI C (okO_iff.mp h2) (inB_iff.mp h3) d_Md_laysAll_55 ?_
    refine x_letS (fun σ4 e5 => ?_)
    refine x_iinc (v := v1I + (1 : Int32)) (lv' := [(1, .int (v1I + (1 : Int32))), (0, .ref v0R)]) C d_Md_laysAll_56 1 rfl rfl (by decide) rfl ?_
    refine x_goto (tgt := 43) C d_Md_laysAll_59 (by decide) ?_
    refine x_lv [1, 0] rfl ?_
    exact IH.2.2.1 v0R (v1I + (1 : Int32)) (σ4)
  · refine x_iconst (v := (0 : Int32)) C d_Md_laysAll_62 (by decide) ?_
    refine x_istore_n (lv' := [(1, .int (0 : Int32)), (0, .ref v0R)]) C d_Md_laysAll_63 (by decide) rfl rfl ?_
    refine x_lv [1, 0] rfl ?_
    exact IH.2.2.2.1 v0R ((0 : Int32)) (σ)
set_option maxRecDepth 20000 in
theorem s_Md_laysAll_3 {G : GX} {p : Program} {l : Launch} {e : Env} {s : State} {m : MethodId} {args : Array Value} {below : List Frame} {meth : Method} {c : Code} {z0 u0 n : Nat} (C : Cx G p s m args meth c prog_14_method_38_code 2 "BellPlateModel" ((none))) (IH : I_Md_laysAll G p l e s m args below meth c z0 u0 n) (v0R : Nat) (v1I : Int32) (σ : AM) : VX (QM eV G args s below z0 u0) G p l e s m args below meth c 3 z0 u0 2 (lpK (lpn F_Md_laysAll n) (T_Md_laysAll_3 v0R v1I σ)) 64 [(0, .ref v0R), (1, .int v1I)] [] σ := by
  unfold T_Md_laysAll_3
  refine x_iload_n C d_Md_laysAll_64 1 rfl ?_
  refine x_aload_n C d_Md_laysAll_65 0 rfl ?_
  refine x_gd (fun h1 => ?_)
  refine x_getI (k := 26) C (okO_iff.mp h1) rfl j11_ok (by decide) rfl w1878 d_Md_laysAll_66 ?_
  refine x_icmp_ge (tgt := 143) C d_Md_laysAll_69 (by decide) (fun _ => ?_) (fun _ => ?_)
  · refine x_aload_n C d_Md_laysAll_72 0 rfl ?_
    refine x_iload_n C d_Md_laysAll_73 1 rfl ?_
    refine x_callVV (As := [.int v1I]) C (c_Md_unpacks G l v0R v1I σ) (okO_iff.mp h1) rfl w1818 w56 w1816 w1819 w134 k_Md_unpacks rfl (by decide) (by decide) rfl (Nat.le_of_ble_eq_true rfl) d_Md_laysAll_74 (fun r2 σ3 => ?_)
    refine x_aload_n C d_Md_laysAll_77 0 rfl ?_
    refine x_gd (fun h4 => ?_)
    refine x_gd (fun h5 => ?_)
    refine x_getR (k := 27) (kv := 102) C (okO_iff.mp h4) rfl j11_ok (by decide) rfl (okO_iff.mp h5) (by decide) w1879 d_Md_laysAll_78 ?_
    refine x_iload_n C d_Md_laysAll_81 1 rfl ?_
    refine x_aload_n C d_Md_laysAll_82 0 rfl ?_
    refine x_callVJ (As := []) C (c_Md_listNow G l v0R  σ3) (okO_iff.mp h4) rfl w1830 w59 w1828 w1831 w134 k_Md_listNow rfl (by decide) (by decide) rfl (Nat.le_of_ble_eq_true rfl) d_Md_laysAll_83 (fun r6 σ7 => ?_)
    refine x_gd (fun h8 => ?_)
    refine x_gd (fun h9 => ?_)
    refine x_astJ C (okO_iff.mp h8) (inB_iff.mp h9) d_Md_laysAll_86 ?_
    refine x_letS (fun σ10 e11 => ?_)
    refine x_aload_n C d_Md_laysAll_87 0 rfl ?_
    refine x_gd (fun h12 => ?_)
    refine x_gd (fun h13 => ?_)
    refine x_getR (k := 28) (kv := 103) C (okO_iff.mp h12) rfl j11_ok (by decide) rfl (okO_iff.mp h13) (by decide) w1880 d_Md_laysAll_88 ?_
    refine x_iload_n C d_Md_laysAll_91 1 rfl ?_
    refine x_aload_n C d_Md_laysAll_92 0 rfl ?_
    refine x_callVI (As := []) C (c_Md_mayNow G l v0R  σ10) (okO_iff.mp h12) rfl w1834 w60 w1832 w1835 w134 k_Md_mayNow rfl (by decide) (by decide) rfl (Nat.le_of_ble_eq_true rfl) d_Md_laysAll_93 (fun r14 σ15 => ?_)
    refine x_gd (fun h16 => ?_)
    refine x_gd (fun h17 => ?_)
    refine x_astZ C (okO_iff.mp h16) (inB_iff.mp h17) d_Md_laysAll_96 ?_
    refine x_letS (fun σ18 e19 => ?_)
    refine x_aload_n C d_Md_laysAll_97 0 rfl ?_
    refine x_gd (fun h20 => ?_)
    refine x_gd (fun h21 => ?_)
    refine x_getR (k := 28) (kv := 103) C (okO_iff.mp h20) rfl j11_ok (by decide) rfl (okO_iff.mp h21) (by decide) w1880 d_Md_laysAll_98 ?_
    refine x_iload_n C d_Md_laysAll_101 1 rfl ?_
    refine x_gd (fun h22 => ?_)
    refine x_aldZ C (okO_iff.mp h21) (inB_iff.mp h22) d_Md_laysAll_102 ?_
    refine x_if_eq (tgt := 137) C d_Md_laysAll_103 (by decide) (fun _ => ?_) (fun _ => ?_)
    · exact IH.2.2.2.2.1 v0R v1I (σ18)
    · refine x_aload_n C d_Md_laysAll_106 0 rfl ?_
      refine x_gd (fun h23 => ?_)
      refine x_getR (k := 32) (kv := 101) C (okO_iff.mp h20) rfl j11_ok (by decide) rfl (okO_iff.mp h23) (by decide) w1884 d_Md_laysAll_107 ?_
      refine x_iload_n C d_Md_laysAll_110 1 rfl ?_
      refine x_aload_n C d_Md_laysAll_111 0 rfl ?_
      refine x_aload_n C d_Md_laysAll_112 0 rfl ?_
      refine x_gd (fun h24 => ?_)
      refine x_getR (k := 27) (kv := 102) C (okO_iff.mp h20) rfl j11_ok (by decide) rfl (okO_iff.mp h24) (by decide) w1879 d_Md_laysAll_113 ?_
      refine x_iload_n C d_Md_laysAll_116 1 rfl ?_
      refine x_gd (fun h25 => ?_)
      refine x_aldJ C (okO_iff.mp h24) (inB_iff.mp h25) d_Md_laysAll_117 ?_
      refine x_callVI (As := [.long (aL σ18 (aR σ18 v0R 27) v1I.toNatClampNeg)]) C (c_Md_numberFor G l v0R (aL σ18 (aR σ18 v0R 27) v1I.toNatClampNeg) σ18) (okO_iff.mp h20) rfl w1845 w62 w1843 w1846 w134 k_Md_numberFor rfl (by decide) (by decide) rfl (Nat.le_of_ble_eq_true rfl) d_Md_laysAll_118 (fun r26 σ27 => ?_)
      refine x_gd (fun h28 => ?_)
      refine x_gd (fun h29 => ?_)
      refine x_astI C (okO_iff.mp h28) (inB_iff.mp h29) d_Md_laysAll_121 ?_
      refine x_letS (fun σ30 e31 => ?_)
      refine x_aload_n C d_Md_laysAll_122 0 rfl ?_
      refine x_gd (fun h32 => ?_)
      refine x_gd (fun h33 => ?_)
      refine x_getR (k := 31) (kv := 101) C (okO_iff.mp h32) rfl j11_ok (by decide) rfl (okO_iff.mp h33) (by decide) w1883 d_Md_laysAll_123 ?_
      refine x_aload_n C d_Md_laysAll_126 0 rfl ?_
      refine x_gd (fun h34 => ?_)
      refine x_getR (k := 32) (kv := 101) C (okO_iff.mp h32) rfl j11_ok (by decide) rfl (okO_iff.mp h34) (by decide) w1884 d_Md_laysAll_127 ?_
      refine x_iload_n C d_Md_laysAll_130 1 rfl ?_
      refine x_gd (fun h35 => ?_)
      refine x_aldI C (okO_iff.mp h34) (inB_iff.mp h35) d_Md_laysAll_131 ?_
      refine x_dup2 C d_Md_laysAll_132 rfl rfl ?_
      refine x_gd (fun h36 => ?_)
      refine x_aldI C (okO_iff.mp h33) (inB_iff.mp h36) d_Md_laysAll_133 ?_
      refine x_iconst (v := (1 : Int32)) C d_Md_laysAll_134 (by decide) ?_
      refine x_iadd C d_Md_laysAll_135 ?_
      refine x_astI C (okO_iff.mp h33) (inB_iff.mp h36) d_Md_laysAll_136 ?_
      refine x_letS (fun σ37 e38 => ?_)
      exact IH.2.2.2.2.1 v0R v1I (σ37)
  · refine x_iconst (v := (0 : Int32)) C d_Md_laysAll_143 (by decide) ?_
    refine x_istore_n (lv' := [(1, .int (0 : Int32)), (0, .ref v0R)]) C d_Md_laysAll_144 (by decide) rfl rfl ?_
    refine x_lv [1, 0] rfl ?_
    exact IH.2.2.2.2.2 v0R ((0 : Int32)) (σ)
set_option maxRecDepth 20000 in
theorem s_Md_laysAll_4 {G : GX} {p : Program} {l : Launch} {e : Env} {s : State} {m : MethodId} {args : Array Value} {below : List Frame} {meth : Method} {c : Code} {z0 u0 n : Nat} (C : Cx G p s m args meth c prog_14_method_38_code 2 "BellPlateModel" ((none))) (IH : I_Md_laysAll G p l e s m args below meth c z0 u0 n) (v0R : Nat) (v1I : Int32) (σ : AM) : VX (QM eV G args s below z0 u0) G p l e s m args below meth c 3 z0 u0 2 (lpK (lpn F_Md_laysAll n) (T_Md_laysAll_4 v0R v1I σ)) 137 [(0, .ref v0R), (1, .int v1I)] [] σ := by
  unfold T_Md_laysAll_4
  refine x_iinc (v := v1I + (1 : Int32)) (lv' := [(1, .int (v1I + (1 : Int32))), (0, .ref v0R)]) C d_Md_laysAll_137 1 rfl rfl (by decide) rfl ?_
  refine x_goto (tgt := 64) C d_Md_laysAll_140 (by decide) ?_
  refine x_lv [1, 0] rfl ?_
  exact IH.2.2.2.1 v0R (v1I + (1 : Int32)) (σ)
set_option maxRecDepth 20000 in
theorem s_Md_laysAll_5 {G : GX} {p : Program} {l : Launch} {e : Env} {s : State} {m : MethodId} {args : Array Value} {below : List Frame} {meth : Method} {c : Code} {z0 u0 n : Nat} (C : Cx G p s m args meth c prog_14_method_38_code 2 "BellPlateModel" ((none))) (IH : I_Md_laysAll G p l e s m args below meth c z0 u0 n) (v0R : Nat) (v1I : Int32) (σ : AM) : VX (QM eV G args s below z0 u0) G p l e s m args below meth c 3 z0 u0 2 (lpK (lpn F_Md_laysAll n) (T_Md_laysAll_5 v0R v1I σ)) 145 [(0, .ref v0R), (1, .int v1I)] [] σ := by
  unfold T_Md_laysAll_5
  refine x_iload_n C d_Md_laysAll_145 1 rfl ?_
  refine x_aload_n C d_Md_laysAll_146 0 rfl ?_
  refine x_gd (fun h3 => ?_)
  refine x_callVI (As := []) C (c_Md_sets G l v0R  σ) (okO_iff.mp h3) rfl w1826 w58 w1824 w1827 w134 k_Md_sets rfl (by decide) (by decide) rfl (Nat.le_of_ble_eq_true rfl) d_Md_laysAll_147 (fun r1 σ2 => ?_)
  refine x_icmp_ge (tgt := 170) C d_Md_laysAll_150 (by decide) (fun _ => ?_) (fun _ => ?_)
  · refine x_aload_n C d_Md_laysAll_153 0 rfl ?_
    refine x_gd (fun h4 => ?_)
    refine x_gd (fun h5 => ?_)
    refine x_getR (k := 36) (kv := 101) C (okO_iff.mp h4) rfl j11_ok (by decide) rfl (okO_iff.mp h5) (by decide) w1888 d_Md_laysAll_154 ?_
    refine x_iload_n C d_Md_laysAll_157 1 rfl ?_
    refine x_aload_n C d_Md_laysAll_158 0 rfl ?_
    refine x_iload_n C d_Md_laysAll_159 1 rfl ?_
    refine x_callVI (As := [.int v1I]) C (c_Md_costOf G l v0R v1I σ2) (okO_iff.mp h4) rfl w1850 w63 w1848 w1851 w134 k_Md_costOf rfl (by decide) (by decide) rfl (Nat.le_of_ble_eq_true rfl) d_Md_laysAll_160 (fun r6 σ7 => ?_)
    refine x_gd (fun h8 => ?_)
    refine x_gd (fun h9 => ?_)
    refine x_astI C (okO_iff.mp h8) (inB_iff.mp h9) d_Md_laysAll_163 ?_
    refine x_letS (fun σ10 e11 => ?_)
    refine x_iinc (v := v1I + (1 : Int32)) (lv' := [(1, .int (v1I + (1 : Int32))), (0, .ref v0R)]) C d_Md_laysAll_164 1 rfl rfl (by decide) rfl ?_
    refine x_goto (tgt := 145) C d_Md_laysAll_167 (by decide) ?_
    refine x_lv [1, 0] rfl ?_
    exact IH.2.2.2.2.2 v0R (v1I + (1 : Int32)) (σ10)
  · exact x_vret C d_Md_laysAll_170
theorem i_Md_laysAll {G : GX} {p : Program} {l : Launch} {e : Env} {s : State} {m : MethodId} {args : Array Value} {below : List Frame} {meth : Method} {c : Code} {z0 u0 : Nat} (C : Cx G p s m args meth c prog_14_method_38_code 2 "BellPlateModel" ((none))) (n : Nat) : I_Md_laysAll G p l e s m args below meth c z0 u0 n := by
  induction n with
  | zero => exact ⟨fun _ _ => x_none, fun _ _ _ => x_none, fun _ _ _ => x_none, fun _ _ _ => x_none, fun _ _ _ => x_none, fun _ _ _ => x_none⟩
  | succ n IH => exact ⟨fun v0R σ => s_Md_laysAll_0 C IH v0R σ, fun v0R v1I σ => s_Md_laysAll_1 C IH v0R v1I σ, fun v0R v1I σ => s_Md_laysAll_2 C IH v0R v1I σ, fun v0R v1I σ => s_Md_laysAll_3 C IH v0R v1I σ, fun v0R v1I σ => s_Md_laysAll_4 C IH v0R v1I σ, fun v0R v1I σ => s_Md_laysAll_5 C IH v0R v1I σ⟩
theorem c_Md_laysAll (G : GX) (l : Launch) (v0R : Nat) (σ : AM) : CT eV G l 3 y_Md_laysAll prog_14_method_38_code 2 (none) [.ref v0R] σ (M_Md_laysAll v0R σ) := by
  refine ct_of (by decide +kernel) (Nat.le_of_ble_eq_true rfl) (fun p e s m args below meth c C hin => ?_)
  refine x_lve (lv' := [(0, .ref v0R)]) rfl ?_
  intro r σ' h
  obtain ⟨n, hn⟩ := (lp_iff _ _ _).mp h
  exact (i_Md_laysAll C n).1 v0R σ r σ' hn
/-! BellPlateModel.<init>()V -/
abbrev y_Md_init : MethodName := ⟨"BellPlateModel", "<init>", "()V"⟩
theorem k_Md_init : y_Md_init.cls ≠ "java/lang/invoke/MethodHandle" ∧ y_Md_init.cls ≠ "java/lang/invoke/VarHandle" ∧ (parseMethodDescriptor y_Md_init.desc).map (fun d => d.parameters.length) = some 0 := by decide +kernel
theorem d_Md_init_0 : decode prog_14_method_4_code 0 = .ok (.aload_n 0, 1) := by decide +kernel
theorem d_Md_init_1 : decode prog_14_method_4_code 1 = .ok (.invokespecial 18, 3) := by decide +kernel
theorem d_Md_init_4 : decode prog_14_method_4_code 4 = .ok (.aload_n 0, 1) := by decide +kernel
theorem d_Md_init_5 : decode prog_14_method_4_code 5 = .ok (.sipush 1000, 3) := by decide +kernel
theorem d_Md_init_8 : decode prog_14_method_4_code 8 = .ok (.newarray .int, 2) := by decide +kernel
theorem d_Md_init_10 : decode prog_14_method_4_code 10 = .ok (.putfield 14, 3) := by decide +kernel
theorem d_Md_init_13 : decode prog_14_method_4_code 13 = .ok (.aload_n 0, 1) := by decide +kernel
theorem d_Md_init_14 : decode prog_14_method_4_code 14 = .ok (.sipush 1002, 3) := by decide +kernel
theorem d_Md_init_17 : decode prog_14_method_4_code 17 = .ok (.newarray .int, 2) := by decide +kernel
theorem d_Md_init_19 : decode prog_14_method_4_code 19 = .ok (.putfield 24, 3) := by decide +kernel
theorem d_Md_init_22 : decode prog_14_method_4_code 22 = .ok (.aload_n 0, 1) := by decide +kernel
theorem d_Md_init_23 : decode prog_14_method_4_code 23 = .ok (.sipush 1002, 3) := by decide +kernel
theorem d_Md_init_26 : decode prog_14_method_4_code 26 = .ok (.newarray .int, 2) := by decide +kernel
theorem d_Md_init_28 : decode prog_14_method_4_code 28 = .ok (.putfield 27, 3) := by decide +kernel
theorem d_Md_init_31 : decode prog_14_method_4_code 31 = .ok (.aload_n 0, 1) := by decide +kernel
theorem d_Md_init_32 : decode prog_14_method_4_code 32 = .ok (.sipush 1002, 3) := by decide +kernel
theorem d_Md_init_35 : decode prog_14_method_4_code 35 = .ok (.newarray .long, 2) := by decide +kernel
theorem d_Md_init_37 : decode prog_14_method_4_code 37 = .ok (.putfield 30, 3) := by decide +kernel
theorem d_Md_init_40 : decode prog_14_method_4_code 40 = .ok (.aload_n 0, 1) := by decide +kernel
theorem d_Md_init_41 : decode prog_14_method_4_code 41 = .ok (.bipush 10, 2) := by decide +kernel
theorem d_Md_init_43 : decode prog_14_method_4_code 43 = .ok (.newarray .long, 2) := by decide +kernel
theorem d_Md_init_45 : decode prog_14_method_4_code 45 = .ok (.dup, 1) := by decide +kernel
theorem d_Md_init_46 : decode prog_14_method_4_code 46 = .ok (.iconst 0, 1) := by decide +kernel
theorem d_Md_init_47 : decode prog_14_method_4_code 47 = .ok (.ldc2_w 34, 3) := by decide +kernel
theorem d_Md_init_50 : decode prog_14_method_4_code 50 = .ok (.lastore, 1) := by decide +kernel
theorem d_Md_init_51 : decode prog_14_method_4_code 51 = .ok (.dup, 1) := by decide +kernel
theorem d_Md_init_52 : decode prog_14_method_4_code 52 = .ok (.iconst 1, 1) := by decide +kernel
theorem d_Md_init_53 : decode prog_14_method_4_code 53 = .ok (.ldc2_w 36, 3) := by decide +kernel
theorem d_Md_init_56 : decode prog_14_method_4_code 56 = .ok (.lastore, 1) := by decide +kernel
theorem d_Md_init_57 : decode prog_14_method_4_code 57 = .ok (.dup, 1) := by decide +kernel
theorem d_Md_init_58 : decode prog_14_method_4_code 58 = .ok (.iconst 2, 1) := by decide +kernel
theorem d_Md_init_59 : decode prog_14_method_4_code 59 = .ok (.ldc2_w 38, 3) := by decide +kernel
theorem d_Md_init_62 : decode prog_14_method_4_code 62 = .ok (.lastore, 1) := by decide +kernel
theorem d_Md_init_63 : decode prog_14_method_4_code 63 = .ok (.dup, 1) := by decide +kernel
theorem d_Md_init_64 : decode prog_14_method_4_code 64 = .ok (.iconst 3, 1) := by decide +kernel
theorem d_Md_init_65 : decode prog_14_method_4_code 65 = .ok (.ldc2_w 40, 3) := by decide +kernel
theorem d_Md_init_68 : decode prog_14_method_4_code 68 = .ok (.lastore, 1) := by decide +kernel
theorem d_Md_init_69 : decode prog_14_method_4_code 69 = .ok (.dup, 1) := by decide +kernel
theorem d_Md_init_70 : decode prog_14_method_4_code 70 = .ok (.iconst 4, 1) := by decide +kernel
theorem d_Md_init_71 : decode prog_14_method_4_code 71 = .ok (.ldc2_w 42, 3) := by decide +kernel
theorem d_Md_init_74 : decode prog_14_method_4_code 74 = .ok (.lastore, 1) := by decide +kernel
theorem d_Md_init_75 : decode prog_14_method_4_code 75 = .ok (.dup, 1) := by decide +kernel
theorem d_Md_init_76 : decode prog_14_method_4_code 76 = .ok (.iconst 5, 1) := by decide +kernel
theorem d_Md_init_77 : decode prog_14_method_4_code 77 = .ok (.ldc2_w 44, 3) := by decide +kernel
theorem d_Md_init_80 : decode prog_14_method_4_code 80 = .ok (.lastore, 1) := by decide +kernel
theorem d_Md_init_81 : decode prog_14_method_4_code 81 = .ok (.dup, 1) := by decide +kernel
theorem d_Md_init_82 : decode prog_14_method_4_code 82 = .ok (.bipush 6, 2) := by decide +kernel
theorem d_Md_init_84 : decode prog_14_method_4_code 84 = .ok (.ldc2_w 46, 3) := by decide +kernel
theorem d_Md_init_87 : decode prog_14_method_4_code 87 = .ok (.lastore, 1) := by decide +kernel
theorem d_Md_init_88 : decode prog_14_method_4_code 88 = .ok (.dup, 1) := by decide +kernel
theorem d_Md_init_89 : decode prog_14_method_4_code 89 = .ok (.bipush 7, 2) := by decide +kernel
theorem d_Md_init_91 : decode prog_14_method_4_code 91 = .ok (.ldc2_w 48, 3) := by decide +kernel
theorem d_Md_init_94 : decode prog_14_method_4_code 94 = .ok (.lastore, 1) := by decide +kernel
theorem d_Md_init_95 : decode prog_14_method_4_code 95 = .ok (.dup, 1) := by decide +kernel
theorem d_Md_init_96 : decode prog_14_method_4_code 96 = .ok (.bipush 8, 2) := by decide +kernel
theorem d_Md_init_98 : decode prog_14_method_4_code 98 = .ok (.ldc2_w 50, 3) := by decide +kernel
theorem d_Md_init_101 : decode prog_14_method_4_code 101 = .ok (.lastore, 1) := by decide +kernel
theorem d_Md_init_102 : decode prog_14_method_4_code 102 = .ok (.dup, 1) := by decide +kernel
theorem d_Md_init_103 : decode prog_14_method_4_code 103 = .ok (.bipush 9, 2) := by decide +kernel
theorem d_Md_init_105 : decode prog_14_method_4_code 105 = .ok (.ldc2_w 52, 3) := by decide +kernel
theorem d_Md_init_108 : decode prog_14_method_4_code 108 = .ok (.lastore, 1) := by decide +kernel
theorem d_Md_init_109 : decode prog_14_method_4_code 109 = .ok (.putfield 54, 3) := by decide +kernel
theorem d_Md_init_112 : decode prog_14_method_4_code 112 = .ok (.aload_n 0, 1) := by decide +kernel
theorem d_Md_init_113 : decode prog_14_method_4_code 113 = .ok (.bipush 10, 2) := by decide +kernel
theorem d_Md_init_115 : decode prog_14_method_4_code 115 = .ok (.newarray .int, 2) := by decide +kernel
theorem d_Md_init_117 : decode prog_14_method_4_code 117 = .ok (.putfield 57, 3) := by decide +kernel
theorem d_Md_init_120 : decode prog_14_method_4_code 120 = .ok (.aload_n 0, 1) := by decide +kernel
theorem d_Md_init_121 : decode prog_14_method_4_code 121 = .ok (.bipush 6, 2) := by decide +kernel
theorem d_Md_init_123 : decode prog_14_method_4_code 123 = .ok (.newarray .long, 2) := by decide +kernel
theorem d_Md_init_125 : decode prog_14_method_4_code 125 = .ok (.putfield 60, 3) := by decide +kernel
theorem d_Md_init_128 : decode prog_14_method_4_code 128 = .ok (.aload_n 0, 1) := by decide +kernel
theorem d_Md_init_129 : decode prog_14_method_4_code 129 = .ok (.sipush 2200, 3) := by decide +kernel
theorem d_Md_init_132 : decode prog_14_method_4_code 132 = .ok (.newarray .int, 2) := by decide +kernel
theorem d_Md_init_134 : decode prog_14_method_4_code 134 = .ok (.putfield 63, 3) := by decide +kernel
theorem d_Md_init_137 : decode prog_14_method_4_code 137 = .ok (.aload_n 0, 1) := by decide +kernel
theorem d_Md_init_138 : decode prog_14_method_4_code 138 = .ok (.sipush 2200, 3) := by decide +kernel
theorem d_Md_init_141 : decode prog_14_method_4_code 141 = .ok (.newarray .int, 2) := by decide +kernel
theorem d_Md_init_143 : decode prog_14_method_4_code 143 = .ok (.putfield 66, 3) := by decide +kernel
theorem d_Md_init_146 : decode prog_14_method_4_code 146 = .ok (.aload_n 0, 1) := by decide +kernel
theorem d_Md_init_147 : decode prog_14_method_4_code 147 = .ok (.bipush 7, 2) := by decide +kernel
theorem d_Md_init_149 : decode prog_14_method_4_code 149 = .ok (.newarray .int, 2) := by decide +kernel
theorem d_Md_init_151 : decode prog_14_method_4_code 151 = .ok (.putfield 69, 3) := by decide +kernel
theorem d_Md_init_154 : decode prog_14_method_4_code 154 = .ok (.aload_n 0, 1) := by decide +kernel
theorem d_Md_init_155 : decode prog_14_method_4_code 155 = .ok (.sipush 1100, 3) := by decide +kernel
theorem d_Md_init_158 : decode prog_14_method_4_code 158 = .ok (.newarray .int, 2) := by decide +kernel
theorem d_Md_init_160 : decode prog_14_method_4_code 160 = .ok (.putfield 72, 3) := by decide +kernel
theorem d_Md_init_163 : decode prog_14_method_4_code 163 = .ok (.aload_n 0, 1) := by decide +kernel
theorem d_Md_init_164 : decode prog_14_method_4_code 164 = .ok (.sipush 16384, 3) := by decide +kernel
theorem d_Md_init_167 : decode prog_14_method_4_code 167 = .ok (.newarray .long, 2) := by decide +kernel
theorem d_Md_init_169 : decode prog_14_method_4_code 169 = .ok (.putfield 75, 3) := by decide +kernel
theorem d_Md_init_172 : decode prog_14_method_4_code 172 = .ok (.aload_n 0, 1) := by decide +kernel
theorem d_Md_init_173 : decode prog_14_method_4_code 173 = .ok (.sipush 16384, 3) := by decide +kernel
theorem d_Md_init_176 : decode prog_14_method_4_code 176 = .ok (.newarray .boolean, 2) := by decide +kernel
theorem d_Md_init_178 : decode prog_14_method_4_code 178 = .ok (.putfield 78, 3) := by decide +kernel
theorem d_Md_init_181 : decode prog_14_method_4_code 181 = .ok (.aload_n 0, 1) := by decide +kernel
theorem d_Md_init_182 : decode prog_14_method_4_code 182 = .ok (.sipush 16384, 3) := by decide +kernel
theorem d_Md_init_185 : decode prog_14_method_4_code 185 = .ok (.newarray .long, 2) := by decide +kernel
theorem d_Md_init_187 : decode prog_14_method_4_code 187 = .ok (.putfield 82, 3) := by decide +kernel
theorem d_Md_init_190 : decode prog_14_method_4_code 190 = .ok (.aload_n 0, 1) := by decide +kernel
theorem d_Md_init_191 : decode prog_14_method_4_code 191 = .ok (.sipush 16384, 3) := by decide +kernel
theorem d_Md_init_194 : decode prog_14_method_4_code 194 = .ok (.newarray .int, 2) := by decide +kernel
theorem d_Md_init_196 : decode prog_14_method_4_code 196 = .ok (.putfield 85, 3) := by decide +kernel
theorem d_Md_init_199 : decode prog_14_method_4_code 199 = .ok (.aload_n 0, 1) := by decide +kernel
theorem d_Md_init_200 : decode prog_14_method_4_code 200 = .ok (.sipush 16384, 3) := by decide +kernel
theorem d_Md_init_203 : decode prog_14_method_4_code 203 = .ok (.newarray .int, 2) := by decide +kernel
theorem d_Md_init_205 : decode prog_14_method_4_code 205 = .ok (.putfield 88, 3) := by decide +kernel
theorem d_Md_init_208 : decode prog_14_method_4_code 208 = .ok (.aload_n 0, 1) := by decide +kernel
theorem d_Md_init_209 : decode prog_14_method_4_code 209 = .ok (.ldc 91, 2) := by decide +kernel
theorem d_Md_init_211 : decode prog_14_method_4_code 211 = .ok (.newarray .int, 2) := by decide +kernel
theorem d_Md_init_213 : decode prog_14_method_4_code 213 = .ok (.putfield 92, 3) := by decide +kernel
theorem d_Md_init_216 : decode prog_14_method_4_code 216 = .ok (.aload_n 0, 1) := by decide +kernel
theorem d_Md_init_217 : decode prog_14_method_4_code 217 = .ok (.bipush 6, 2) := by decide +kernel
theorem d_Md_init_219 : decode prog_14_method_4_code 219 = .ok (.newarray .int, 2) := by decide +kernel
theorem d_Md_init_221 : decode prog_14_method_4_code 221 = .ok (.putfield 95, 3) := by decide +kernel
theorem d_Md_init_224 : decode prog_14_method_4_code 224 = .ok (.aload_n 0, 1) := by decide +kernel
theorem d_Md_init_225 : decode prog_14_method_4_code 225 = .ok (.bipush 64, 2) := by decide +kernel
theorem d_Md_init_227 : decode prog_14_method_4_code 227 = .ok (.newarray .int, 2) := by decide +kernel
theorem d_Md_init_229 : decode prog_14_method_4_code 229 = .ok (.putfield 98, 3) := by decide +kernel
theorem d_Md_init_232 : decode prog_14_method_4_code 232 = .ok (.aload_n 0, 1) := by decide +kernel
theorem d_Md_init_233 : decode prog_14_method_4_code 233 = .ok (.bipush 64, 2) := by decide +kernel
theorem d_Md_init_235 : decode prog_14_method_4_code 235 = .ok (.newarray .int, 2) := by decide +kernel
theorem d_Md_init_237 : decode prog_14_method_4_code 237 = .ok (.putfield 101, 3) := by decide +kernel
theorem d_Md_init_240 : decode prog_14_method_4_code 240 = .ok (.aload_n 0, 1) := by decide +kernel
theorem d_Md_init_241 : decode prog_14_method_4_code 241 = .ok (.bipush 60, 2) := by decide +kernel
theorem d_Md_init_243 : decode prog_14_method_4_code 243 = .ok (.newarray .int, 2) := by decide +kernel
theorem d_Md_init_245 : decode prog_14_method_4_code 245 = .ok (.putfield 104, 3) := by decide +kernel
theorem d_Md_init_248 : decode prog_14_method_4_code 248 = .ok (.aload_n 0, 1) := by decide +kernel
theorem d_Md_init_249 : decode prog_14_method_4_code 249 = .ok (.bipush 60, 2) := by decide +kernel
theorem d_Md_init_251 : decode prog_14_method_4_code 251 = .ok (.newarray .boolean, 2) := by decide +kernel
theorem d_Md_init_253 : decode prog_14_method_4_code 253 = .ok (.putfield 107, 3) := by decide +kernel
theorem d_Md_init_256 : decode prog_14_method_4_code 256 = .ok (.aload_n 0, 1) := by decide +kernel
theorem d_Md_init_257 : decode prog_14_method_4_code 257 = .ok (.bipush 8, 2) := by decide +kernel
theorem d_Md_init_259 : decode prog_14_method_4_code 259 = .ok (.newarray .int, 2) := by decide +kernel
theorem d_Md_init_261 : decode prog_14_method_4_code 261 = .ok (.putfield 110, 3) := by decide +kernel
theorem d_Md_init_264 : decode prog_14_method_4_code 264 = .ok (.aload_n 0, 1) := by decide +kernel
theorem d_Md_init_265 : decode prog_14_method_4_code 265 = .ok (.bipush 8, 2) := by decide +kernel
theorem d_Md_init_267 : decode prog_14_method_4_code 267 = .ok (.newarray .int, 2) := by decide +kernel
theorem d_Md_init_269 : decode prog_14_method_4_code 269 = .ok (.putfield 113, 3) := by decide +kernel
theorem d_Md_init_272 : decode prog_14_method_4_code 272 = .ok (.aload_n 0, 1) := by decide +kernel
theorem d_Md_init_273 : decode prog_14_method_4_code 273 = .ok (.sipush 16384, 3) := by decide +kernel
theorem d_Md_init_276 : decode prog_14_method_4_code 276 = .ok (.newarray .int, 2) := by decide +kernel
theorem d_Md_init_278 : decode prog_14_method_4_code 278 = .ok (.putfield 116, 3) := by decide +kernel
theorem d_Md_init_281 : decode prog_14_method_4_code 281 = .ok (.aload_n 0, 1) := by decide +kernel
theorem d_Md_init_282 : decode prog_14_method_4_code 282 = .ok (.sipush 16384, 3) := by decide +kernel
theorem d_Md_init_285 : decode prog_14_method_4_code 285 = .ok (.newarray .int, 2) := by decide +kernel
theorem d_Md_init_287 : decode prog_14_method_4_code 287 = .ok (.putfield 119, 3) := by decide +kernel
theorem d_Md_init_290 : decode prog_14_method_4_code 290 = .ok (.aload_n 0, 1) := by decide +kernel
theorem d_Md_init_291 : decode prog_14_method_4_code 291 = .ok (.bipush 64, 2) := by decide +kernel
theorem d_Md_init_293 : decode prog_14_method_4_code 293 = .ok (.newarray .int, 2) := by decide +kernel
theorem d_Md_init_295 : decode prog_14_method_4_code 295 = .ok (.putfield 122, 3) := by decide +kernel
theorem d_Md_init_298 : decode prog_14_method_4_code 298 = .ok (.aload_n 0, 1) := by decide +kernel
theorem d_Md_init_299 : decode prog_14_method_4_code 299 = .ok (.bipush 64, 2) := by decide +kernel
theorem d_Md_init_301 : decode prog_14_method_4_code 301 = .ok (.newarray .int, 2) := by decide +kernel
theorem d_Md_init_303 : decode prog_14_method_4_code 303 = .ok (.putfield 125, 3) := by decide +kernel
theorem d_Md_init_306 : decode prog_14_method_4_code 306 = .ok (.aload_n 0, 1) := by decide +kernel
theorem d_Md_init_307 : decode prog_14_method_4_code 307 = .ok (.bipush 60, 2) := by decide +kernel
theorem d_Md_init_309 : decode prog_14_method_4_code 309 = .ok (.newarray .int, 2) := by decide +kernel
theorem d_Md_init_311 : decode prog_14_method_4_code 311 = .ok (.putfield 128, 3) := by decide +kernel
theorem d_Md_init_314 : decode prog_14_method_4_code 314 = .ok (.aload_n 0, 1) := by decide +kernel
theorem d_Md_init_315 : decode prog_14_method_4_code 315 = .ok (.bipush 12, 2) := by decide +kernel
theorem d_Md_init_317 : decode prog_14_method_4_code 317 = .ok (.newarray .int, 2) := by decide +kernel
theorem d_Md_init_319 : decode prog_14_method_4_code 319 = .ok (.putfield 131, 3) := by decide +kernel
theorem d_Md_init_322 : decode prog_14_method_4_code 322 = .ok (.aload_n 0, 1) := by decide +kernel
theorem d_Md_init_323 : decode prog_14_method_4_code 323 = .ok (.bipush 64, 2) := by decide +kernel
theorem d_Md_init_325 : decode prog_14_method_4_code 325 = .ok (.newarray .int, 2) := by decide +kernel
theorem d_Md_init_327 : decode prog_14_method_4_code 327 = .ok (.putfield 134, 3) := by decide +kernel
theorem d_Md_init_330 : decode prog_14_method_4_code 330 = .ok (.aload_n 0, 1) := by decide +kernel
theorem d_Md_init_331 : decode prog_14_method_4_code 331 = .ok (.sipush 4096, 3) := by decide +kernel
theorem d_Md_init_334 : decode prog_14_method_4_code 334 = .ok (.newarray .int, 2) := by decide +kernel
theorem d_Md_init_336 : decode prog_14_method_4_code 336 = .ok (.putfield 137, 3) := by decide +kernel
theorem d_Md_init_339 : decode prog_14_method_4_code 339 = .ok (.aload_n 0, 1) := by decide +kernel
theorem d_Md_init_340 : decode prog_14_method_4_code 340 = .ok (.bipush 6, 2) := by decide +kernel
theorem d_Md_init_342 : decode prog_14_method_4_code 342 = .ok (.newarray .int, 2) := by decide +kernel
theorem d_Md_init_344 : decode prog_14_method_4_code 344 = .ok (.putfield 140, 3) := by decide +kernel
theorem d_Md_init_347 : decode prog_14_method_4_code 347 = .ok (.aload_n 0, 1) := by decide +kernel
theorem d_Md_init_348 : decode prog_14_method_4_code 348 = .ok (.sipush 16384, 3) := by decide +kernel
theorem d_Md_init_351 : decode prog_14_method_4_code 351 = .ok (.newarray .long, 2) := by decide +kernel
theorem d_Md_init_353 : decode prog_14_method_4_code 353 = .ok (.putfield 143, 3) := by decide +kernel
theorem d_Md_init_356 : decode prog_14_method_4_code 356 = .ok (.aload_n 0, 1) := by decide +kernel
theorem d_Md_init_357 : decode prog_14_method_4_code 357 = .ok (.bipush 10, 2) := by decide +kernel
theorem d_Md_init_359 : decode prog_14_method_4_code 359 = .ok (.newarray .int, 2) := by decide +kernel
theorem d_Md_init_361 : decode prog_14_method_4_code 361 = .ok (.putfield 146, 3) := by decide +kernel
theorem d_Md_init_364 : decode prog_14_method_4_code 364 = .ok (.aload_n 0, 1) := by decide +kernel
theorem d_Md_init_365 : decode prog_14_method_4_code 365 = .ok (.bipush 6, 2) := by decide +kernel
theorem d_Md_init_367 : decode prog_14_method_4_code 367 = .ok (.newarray .int, 2) := by decide +kernel
theorem d_Md_init_369 : decode prog_14_method_4_code 369 = .ok (.putfield 149, 3) := by decide +kernel
theorem d_Md_init_372 : decode prog_14_method_4_code 372 = .ok (.aload_n 0, 1) := by decide +kernel
theorem d_Md_init_373 : decode prog_14_method_4_code 373 = .ok (.iconst 4, 1) := by decide +kernel
theorem d_Md_init_374 : decode prog_14_method_4_code 374 = .ok (.newarray .int, 2) := by decide +kernel
theorem d_Md_init_376 : decode prog_14_method_4_code 376 = .ok (.putfield 152, 3) := by decide +kernel
theorem d_Md_init_379 : decode prog_14_method_4_code 379 = .ok (.aload_n 0, 1) := by decide +kernel
theorem d_Md_init_380 : decode prog_14_method_4_code 380 = .ok (.iconst 4, 1) := by decide +kernel
theorem d_Md_init_381 : decode prog_14_method_4_code 381 = .ok (.newarray .int, 2) := by decide +kernel
theorem d_Md_init_383 : decode prog_14_method_4_code 383 = .ok (.putfield 155, 3) := by decide +kernel
theorem d_Md_init_386 : decode prog_14_method_4_code 386 = .ok (.aload_n 0, 1) := by decide +kernel
theorem d_Md_init_387 : decode prog_14_method_4_code 387 = .ok (.iconst 4, 1) := by decide +kernel
theorem d_Md_init_388 : decode prog_14_method_4_code 388 = .ok (.newarray .int, 2) := by decide +kernel
theorem d_Md_init_390 : decode prog_14_method_4_code 390 = .ok (.putfield 158, 3) := by decide +kernel
theorem d_Md_init_393 : decode prog_14_method_4_code 393 = .ok (.aload_n 0, 1) := by decide +kernel
theorem d_Md_init_394 : decode prog_14_method_4_code 394 = .ok (.iconst 3, 1) := by decide +kernel
theorem d_Md_init_395 : decode prog_14_method_4_code 395 = .ok (.putfield 161, 3) := by decide +kernel
theorem d_Md_init_398 : decode prog_14_method_4_code 398 = .ok (.aload_n 0, 1) := by decide +kernel
theorem d_Md_init_399 : decode prog_14_method_4_code 399 = .ok (.bipush 10, 2) := by decide +kernel
theorem d_Md_init_401 : decode prog_14_method_4_code 401 = .ok (.putfield 164, 3) := by decide +kernel
theorem d_Md_init_404 : decode prog_14_method_4_code 404 = .ok (.iconst 0, 1) := by decide +kernel
theorem d_Md_init_405 : decode prog_14_method_4_code 405 = .ok (.istore_n 1, 1) := by decide +kernel
theorem d_Md_init_406 : decode prog_14_method_4_code 406 = .ok (.iload_n 1, 1) := by decide +kernel
theorem d_Md_init_407 : decode prog_14_method_4_code 407 = .ok (.iconst 5, 1) := by decide +kernel
theorem d_Md_init_408 : decode prog_14_method_4_code 408 = .ok (.if_icmp .ge 16, 3) := by decide +kernel
theorem d_Md_init_411 : decode prog_14_method_4_code 411 = .ok (.aload_n 0, 1) := by decide +kernel
theorem d_Md_init_412 : decode prog_14_method_4_code 412 = .ok (.getfield 57, 3) := by decide +kernel
theorem d_Md_init_415 : decode prog_14_method_4_code 415 = .ok (.iload_n 1, 1) := by decide +kernel
theorem d_Md_init_416 : decode prog_14_method_4_code 416 = .ok (.iconst (-1), 1) := by decide +kernel
theorem d_Md_init_417 : decode prog_14_method_4_code 417 = .ok (.iastore, 1) := by decide +kernel
theorem d_Md_init_418 : decode prog_14_method_4_code 418 = .ok (.iinc 1 1, 3) := by decide +kernel
theorem d_Md_init_421 : decode prog_14_method_4_code 421 = .ok (.goto (-15), 3) := by decide +kernel
theorem d_Md_init_424 : decode prog_14_method_4_code 424 = .ok (.aload_n 0, 1) := by decide +kernel
theorem d_Md_init_425 : decode prog_14_method_4_code 425 = .ok (.invokevirtual 167, 3) := by decide +kernel
theorem d_Md_init_428 : decode prog_14_method_4_code 428 = .ok (.return_, 1) := by decide +kernel
abbrev S_Md_init : Type := Nat × Nat × Int32 × AM
noncomputable def T_Md_init_0 (v0R : Nat) (σ : AM) : S_Md_init ⊕ Option (Unit × AM) :=
  gdT (okO σ v0R 12) <| letT (nw σ 101 (1000 : Int32).toNatClampNeg) fun σ2 => gdT (okO σ2 v0R 12) <| letT (sR σ2 v0R 1 (aZ σ)) fun σ5 => letT (nw σ5 101 (1002 : Int32).toNatClampNeg) fun σ7 => gdT (okO σ7 v0R 12) <| letT (sR σ7 v0R 4 (aZ σ5)) fun σ10 => letT (nw σ10 101 (1002 : Int32).toNatClampNeg) fun σ12 => gdT (okO σ12 v0R 12) <| letT (sR σ12 v0R 5 (aZ σ10)) fun σ15 => letT (nw σ15 102 (1002 : Int32).toNatClampNeg) fun σ17 => gdT (okO σ17 v0R 12) <| letT (sR σ17 v0R 6 (aZ σ15)) fun σ20 => letT (nw σ20 102 (10 : Int32).toNatClampNeg) fun σ22 => letT (aZ σ20) fun x24 => gdT (okO σ22 x24 102) <| gdT (inB (0 : Int32) (aN σ22 x24)) <| letT (sL σ22 x24 (0 : Int32).toNatClampNeg (37901290 : Int64)) fun σ27 => gdT (inB (1 : Int32) (aN σ27 x24)) <| letT (sL σ27 x24 (1 : Int32).toNatClampNeg (679747 : Int64)) fun σ30 => gdT (inB (2 : Int32) (aN σ30 x24)) <| letT (sL σ30 x24 (2 : Int32).toNatClampNeg (2793 : Int64)) fun σ33 => gdT (inB (3 : Int32) (aN σ33 x24)) <| letT (sL σ33 x24 (3 : Int32).toNatClampNeg (2499003 : Int64)) fun σ36 => gdT (inB (4 : Int32) (aN σ36 x24)) <| letT (sL σ36 x24 (4 : Int32).toNatClampNeg (173217 : Int64)) fun σ39 => gdT (inB (5 : Int32) (aN σ39 x24)) <| letT (sL σ39 x24 (5 : Int32).toNatClampNeg (19741 : Int64)) fun σ42 => gdT (inB (6 : Int32) (aN σ42 x24)) <| letT (sL σ42 x24 (6 : Int32).toNatClampNeg (1891 : Int64)) fun σ45 => gdT (inB (7 : Int32) (aN σ45 x24)) <| letT (sL σ45 x24 (7 : Int32).toNatClampNeg (573 : Int64)) fun σ48 => gdT (inB (8 : Int32) (aN σ48 x24)) <| letT (sL σ48 x24 (8 : Int32).toNatClampNeg (26801 : Int64)) fun σ51 => gdT (inB (9 : Int32) (aN σ51 x24)) <| letT (sL σ51 x24 (9 : Int32).toNatClampNeg (975695 : Int64)) fun σ54 => gdT (okO σ54 v0R 12) <| letT (sR σ54 v0R 9 x24) fun σ57 => letT (nw σ57 101 (10 : Int32).toNatClampNeg) fun σ59 => gdT (okO σ59 v0R 12) <| letT (sR σ59 v0R 14 (aZ σ57)) fun σ62 => letT (nw σ62 102 (6 : Int32).toNatClampNeg) fun σ64 => gdT (okO σ64 v0R 12) <| letT (sR σ64 v0R 19 (aZ σ62)) fun σ67 => letT (nw σ67 101 (2200 : Int32).toNatClampNeg) fun σ69 => gdT (okO σ69 v0R 12) <| letT (sR σ69 v0R 20 (aZ σ67)) fun σ72 => letT (nw σ72 101 (2200 : Int32).toNatClampNeg) fun σ74 => gdT (okO σ74 v0R 12) <| letT (sR σ74 v0R 21 (aZ σ72)) fun σ77 => letT (nw σ77 101 (7 : Int32).toNatClampNeg) fun σ79 => gdT (okO σ79 v0R 12) <| letT (sR σ79 v0R 24 (aZ σ77)) fun σ82 => letT (nw σ82 101 (1100 : Int32).toNatClampNeg) fun σ84 => gdT (okO σ84 v0R 12) <| letT (sR σ84 v0R 25 (aZ σ82)) fun σ87 => letT (nw σ87 102 (16384 : Int32).toNatClampNeg) fun σ89 => gdT (okO σ89 v0R 12) <| letT (sR σ89 v0R 27 (aZ σ87)) fun σ92 => letT (nw σ92 103 (16384 : Int32).toNatClampNeg) fun σ94 => gdT (okO σ94 v0R 12) <| letT (sR σ94 v0R 28 (aZ σ92)) fun σ97 => letT (nw σ97 102 (16384 : Int32).toNatClampNeg) fun σ99 => gdT (okO σ99 v0R 12) <| letT (sR σ99 v0R 30 (aZ σ97)) fun σ102 => letT (nw σ102 101 (16384 : Int32).toNatClampNeg) fun σ104 => gdT (okO σ104 v0R 12) <| letT (sR σ104 v0R 31 (aZ σ102)) fun σ107 => letT (nw σ107 101 (16384 : Int32).toNatClampNeg) fun σ109 => gdT (okO σ109 v0R 12) <| letT (sR σ109 v0R 32 (aZ σ107)) fun σ112 => letT (nw σ112 101 (32768 : Int32).toNatClampNeg) fun σ114 => gdT (okO σ114 v0R 12) <| letT (sR σ114 v0R 33 (aZ σ112)) fun σ117 => letT (nw σ117 101 (6 : Int32).toNatClampNeg) fun σ119 => gdT (okO σ119 v0R 12) <| letT (sR σ119 v0R 34 (aZ σ117)) fun σ122 => letT (nw σ122 101 (64 : Int32).toNatClampNeg) fun σ124 => gdT (okO σ124 v0R 12) <| letT (sR σ124 v0R 35 (aZ σ122)) fun σ127 => letT (nw σ127 101 (64 : Int32).toNatClampNeg) fun σ129 => gdT (okO σ129 v0R 12) <| letT (sR σ129 v0R 36 (aZ σ127)) fun σ132 => letT (nw σ132 101 (60 : Int32).toNatClampNeg) fun σ134 => gdT (okO σ134 v0R 12) <| letT (sR σ134 v0R 38 (aZ σ132)) fun σ137 => letT (nw σ137 103 (60 : Int32).toNatClampNeg) fun σ139 => gdT (okO σ139 v0R 12) <| letT (sR σ139 v0R 39 (aZ σ137)) fun σ142 => letT (nw σ142 101 (8 : Int32).toNatClampNeg) fun σ144 => gdT (okO σ144 v0R 12) <| letT (sR σ144 v0R 43 (aZ σ142)) fun σ147 => letT (nw σ147 101 (8 : Int32).toNatClampNeg) fun σ149 => gdT (okO σ149 v0R 12) <| letT (sR σ149 v0R 44 (aZ σ147)) fun σ152 => letT (nw σ152 101 (16384 : Int32).toNatClampNeg) fun σ154 => gdT (okO σ154 v0R 12) <| letT (sR σ154 v0R 45 (aZ σ152)) fun σ157 => letT (nw σ157 101 (16384 : Int32).toNatClampNeg) fun σ159 => gdT (okO σ159 v0R 12) <| letT (sR σ159 v0R 48 (aZ σ157)) fun σ162 => letT (nw σ162 101 (64 : Int32).toNatClampNeg) fun σ164 => gdT (okO σ164 v0R 12) <| letT (sR σ164 v0R 52 (aZ σ162)) fun σ167 => letT (nw σ167 101 (64 : Int32).toNatClampNeg) fun σ169 => gdT (okO σ169 v0R 12) <| letT (sR σ169 v0R 53 (aZ σ167)) fun σ172 => letT (nw σ172 101 (60 : Int32).toNatClampNeg) fun σ174 => gdT (okO σ174 v0R 12) <| letT (sR σ174 v0R 54 (aZ σ172)) fun σ177 => letT (nw σ177 101 (12 : Int32).toNatClampNeg) fun σ179 => gdT (okO σ179 v0R 12) <| letT (sR σ179 v0R 57 (aZ σ177)) fun σ182 => letT (nw σ182 101 (64 : Int32).toNatClampNeg) fun σ184 => gdT (okO σ184 v0R 12) <| letT (sR σ184 v0R 58 (aZ σ182)) fun σ187 => letT (nw σ187 101 (4096 : Int32).toNatClampNeg) fun σ189 => gdT (okO σ189 v0R 12) <| letT (sR σ189 v0R 59 (aZ σ187)) fun σ192 => letT (nw σ192 101 (6 : Int32).toNatClampNeg) fun σ194 => gdT (okO σ194 v0R 12) <| letT (sR σ194 v0R 63 (aZ σ192)) fun σ197 => letT (nw σ197 102 (16384 : Int32).toNatClampNeg) fun σ199 => gdT (okO σ199 v0R 12) <| letT (sR σ199 v0R 67 (aZ σ197)) fun σ202 => letT (nw σ202 101 (10 : Int32).toNatClampNeg) fun σ204 => gdT (okO σ204 v0R 12) <| letT (sR σ204 v0R 69 (aZ σ202)) fun σ207 => letT (nw σ207 101 (6 : Int32).toNatClampNeg) fun σ209 => gdT (okO σ209 v0R 12) <| letT (sR σ209 v0R 71 (aZ σ207)) fun σ212 => letT (nw σ212 101 (4 : Int32).toNatClampNeg) fun σ214 => gdT (okO σ214 v0R 12) <| letT (sR σ214 v0R 73 (aZ σ212)) fun σ217 => letT (nw σ217 101 (4 : Int32).toNatClampNeg) fun σ219 => gdT (okO σ219 v0R 12) <| letT (sR σ219 v0R 74 (aZ σ217)) fun σ222 => letT (nw σ222 101 (4 : Int32).toNatClampNeg) fun σ224 => gdT (okO σ224 v0R 12) <| letT (sR σ224 v0R 75 (aZ σ222)) fun σ227 => letT (sI σ227 v0R 11 (3 : Int32)) fun σ229 => letT (sI σ229 v0R 12 (10 : Int32)) fun σ231 => .inl (1, v0R, (0 : Int32), σ231)
noncomputable def T_Md_init_1 (v0R : Nat) (v1I : Int32) (σ : AM) : S_Md_init ⊕ Option (Unit × AM) :=
  if v1I < (5 : Int32) then (gdT (okO σ v0R 12) <| gdT (okO σ (aR σ v0R 14) 101) <| gdT (inB v1I (aN σ (aR σ v0R 14))) <| letT (sI σ (aR σ v0R 14) v1I.toNatClampNeg ((-1) : Int32)) fun σ4 => .inl (1, v0R, v1I + (1 : Int32), σ4)) else (gdT (okO σ v0R 12) <| bndT (M_Md_laysAll v0R σ) fun _ σ7 => .inr (some ((), σ7)))
noncomputable def F_Md_init : S_Md_init → S_Md_init ⊕ Option (Unit × AM) := fun s => match s.1 with
  | 0 => T_Md_init_0 (s.2.1) (s.2.2.2)
  | _ => T_Md_init_1 (s.2.1) (s.2.2.1) (s.2.2.2)
noncomputable def L_Md_init_0 (v0R : Nat) (σ : AM) : Option (Unit × AM) := lp F_Md_init (0, v0R, 0, σ)
noncomputable def L_Md_init_1 (v0R : Nat) (v1I : Int32) (σ : AM) : Option (Unit × AM) := lp F_Md_init (1, v0R, v1I, σ)
set_option maxRecDepth 20000 in
theorem E_Md_init_0 (v0R : Nat) (σ : AM) : L_Md_init_0 v0R σ = (gd (okO σ v0R 12) <| letT (nw σ 101 (1000 : Int32).toNatClampNeg) fun σ2 => gd (okO σ2 v0R 12) <| letT (sR σ2 v0R 1 (aZ σ)) fun σ5 => letT (nw σ5 101 (1002 : Int32).toNatClampNeg) fun σ7 => gd (okO σ7 v0R 12) <| letT (sR σ7 v0R 4 (aZ σ5)) fun σ10 => letT (nw σ10 101 (1002 : Int32).toNatClampNeg) fun σ12 => gd (okO σ12 v0R 12) <| letT (sR σ12 v0R 5 (aZ σ10)) fun σ15 => letT (nw σ15 102 (1002 : Int32).toNatClampNeg) fun σ17 => gd (okO σ17 v0R 12) <| letT (sR σ17 v0R 6 (aZ σ15)) fun σ20 => letT (nw σ20 102 (10 : Int32).toNatClampNeg) fun σ22 => letT (aZ σ20) fun x24 => gd (okO σ22 x24 102) <| gd (inB (0 : Int32) (aN σ22 x24)) <| letT (sL σ22 x24 (0 : Int32).toNatClampNeg (37901290 : Int64)) fun σ27 => gd (inB (1 : Int32) (aN σ27 x24)) <| letT (sL σ27 x24 (1 : Int32).toNatClampNeg (679747 : Int64)) fun σ30 => gd (inB (2 : Int32) (aN σ30 x24)) <| letT (sL σ30 x24 (2 : Int32).toNatClampNeg (2793 : Int64)) fun σ33 => gd (inB (3 : Int32) (aN σ33 x24)) <| letT (sL σ33 x24 (3 : Int32).toNatClampNeg (2499003 : Int64)) fun σ36 => gd (inB (4 : Int32) (aN σ36 x24)) <| letT (sL σ36 x24 (4 : Int32).toNatClampNeg (173217 : Int64)) fun σ39 => gd (inB (5 : Int32) (aN σ39 x24)) <| letT (sL σ39 x24 (5 : Int32).toNatClampNeg (19741 : Int64)) fun σ42 => gd (inB (6 : Int32) (aN σ42 x24)) <| letT (sL σ42 x24 (6 : Int32).toNatClampNeg (1891 : Int64)) fun σ45 => gd (inB (7 : Int32) (aN σ45 x24)) <| letT (sL σ45 x24 (7 : Int32).toNatClampNeg (573 : Int64)) fun σ48 => gd (inB (8 : Int32) (aN σ48 x24)) <| letT (sL σ48 x24 (8 : Int32).toNatClampNeg (26801 : Int64)) fun σ51 => gd (inB (9 : Int32) (aN σ51 x24)) <| letT (sL σ51 x24 (9 : Int32).toNatClampNeg (975695 : Int64)) fun σ54 => gd (okO σ54 v0R 12) <| letT (sR σ54 v0R 9 x24) fun σ57 => letT (nw σ57 101 (10 : Int32).toNatClampNeg) fun σ59 => gd (okO σ59 v0R 12) <| letT (sR σ59 v0R 14 (aZ σ57)) fun σ62 => letT (nw σ62 102 (6 : Int32).toNatClampNeg) fun σ64 => gd (okO σ64 v0R 12) <| letT (sR σ64 v0R 19 (aZ σ62)) fun σ67 => letT (nw σ67 101 (2200 : Int32).toNatClampNeg) fun σ69 => gd (okO σ69 v0R 12) <| letT (sR σ69 v0R 20 (aZ σ67)) fun σ72 => letT (nw σ72 101 (2200 : Int32).toNatClampNeg) fun σ74 => gd (okO σ74 v0R 12) <| letT (sR σ74 v0R 21 (aZ σ72)) fun σ77 => letT (nw σ77 101 (7 : Int32).toNatClampNeg) fun σ79 => gd (okO σ79 v0R 12) <| letT (sR σ79 v0R 24 (aZ σ77)) fun σ82 => letT (nw σ82 101 (1100 : Int32).toNatClampNeg) fun σ84 => gd (okO σ84 v0R 12) <| letT (sR σ84 v0R 25 (aZ σ82)) fun σ87 => letT (nw σ87 102 (16384 : Int32).toNatClampNeg) fun σ89 => gd (okO σ89 v0R 12) <| letT (sR σ89 v0R 27 (aZ σ87)) fun σ92 => letT (nw σ92 103 (16384 : Int32).toNatClampNeg) fun σ94 => gd (okO σ94 v0R 12) <| letT (sR σ94 v0R 28 (aZ σ92)) fun σ97 => letT (nw σ97 102 (16384 : Int32).toNatClampNeg) fun σ99 => gd (okO σ99 v0R 12) <| letT (sR σ99 v0R 30 (aZ σ97)) fun σ102 => letT (nw σ102 101 (16384 : Int32).toNatClampNeg) fun σ104 => gd (okO σ104 v0R 12) <| letT (sR σ104 v0R 31 (aZ σ102)) fun σ107 => letT (nw σ107 101 (16384 : Int32).toNatClampNeg) fun σ109 => gd (okO σ109 v0R 12) <| letT (sR σ109 v0R 32 (aZ σ107)) fun σ112 => letT (nw σ112 101 (32768 : Int32).toNatClampNeg) fun σ114 => gd (okO σ114 v0R 12) <| letT (sR σ114 v0R 33 (aZ σ112)) fun σ117 => letT (nw σ117 101 (6 : Int32).toNatClampNeg) fun σ119 => gd (okO σ119 v0R 12) <| letT (sR σ119 v0R 34 (aZ σ117)) fun σ122 => letT (nw σ122 101 (64 : Int32).toNatClampNeg) fun σ124 => gd (okO σ124 v0R 12) <| letT (sR σ124 v0R 35 (aZ σ122)) fun σ127 => letT (nw σ127 101 (64 : Int32).toNatClampNeg) fun σ129 => gd (okO σ129 v0R 12) <| letT (sR σ129 v0R 36 (aZ σ127)) fun σ132 => letT (nw σ132 101 (60 : Int32).toNatClampNeg) fun σ134 => gd (okO σ134 v0R 12) <| letT (sR σ134 v0R 38 (aZ σ132)) fun σ137 => letT (nw σ137 103 (60 : Int32).toNatClampNeg) fun σ139 => gd (okO σ139 v0R 12) <| letT (sR σ139 v0R 39 (aZ σ137)) fun σ142 => letT (nw σ142 101 (8 : Int32).toNatClampNeg) fun σ144 => gd (okO σ144 v0R 12) <| letT (sR σ144 v0R 43 (aZ σ142)) fun σ147 => letT (nw σ147 101 (8 : Int32).toNatClampNeg) fun σ149 => gd (okO σ149 v0R 12) <| letT (sR σ149 v0R 44 (aZ σ147)) fun σ152 => letT (nw σ152 101 (16384 : Int32).toNatClampNeg) fun σ154 => gd (okO σ154 v0R 12) <| letT (sR σ154 v0R 45 (aZ σ152)) fun σ157 => letT (nw σ157 101 (16384 : Int32).toNatClampNeg) fun σ159 => gd (okO σ159 v0R 12) <| letT (sR σ159 v0R 48 (aZ σ157)) fun σ162 => letT (nw σ162 101 (64 : Int32).toNatClampNeg) fun σ164 => gd (okO σ164 v0R 12) <| letT (sR σ164 v0R 52 (aZ σ162)) fun σ167 => letT (nw σ167 101 (64 : Int32).toNatClampNeg) fun σ169 => gd (okO σ169 v0R 12) <| letT (sR σ169 v0R 53 (aZ σ167)) fun σ172 => letT (nw σ172 101 (60 : Int32).toNatClampNeg) fun σ174 => gd (okO σ174 v0R 12) <| letT (sR σ174 v0R 54 (aZ σ172)) fun σ177 => letT (nw σ177 101 (12 : Int32).toNatClampNeg) fun σ179 => gd (okO σ179 v0R 12) <| letT (sR σ179 v0R 57 (aZ σ177)) fun σ182 => letT (nw σ182 101 (64 : Int32).toNatClampNeg) fun σ184 => gd (okO σ184 v0R 12) <| letT (sR σ184 v0R 58 (aZ σ182)) fun σ187 => letT (nw σ187 101 (4096 : Int32).toNatClampNeg) fun σ189 => gd (okO σ189 v0R 12) <| letT (sR σ189 v0R 59 (aZ σ187)) fun σ192 => letT (nw σ192 101 (6 : Int32).toNatClampNeg) fun σ194 => gd (okO σ194 v0R 12) <| letT (sR σ194 v0R 63 (aZ σ192)) fun σ197 => letT (nw σ197 102 (16384 : Int32).toNatClampNeg) fun σ199 => gd (okO σ199 v0R 12) <| letT (sR σ199 v0R 67 (aZ σ197)) fun σ202 => letT (nw σ202 101 (10 : Int32).toNatClampNeg) fun σ204 => gd (okO σ204 v0R 12) <| letT (sR σ204 v0R 69 (aZ σ202)) fun σ207 => letT (nw σ207 101 (6 : Int32).toNatClampNeg) fun σ209 => gd (okO σ209 v0R 12) <| letT (sR σ209 v0R 71 (aZ σ207)) fun σ212 => letT (nw σ212 101 (4 : Int32).toNatClampNeg) fun σ214 => gd (okO σ214 v0R 12) <| letT (sR σ214 v0R 73 (aZ σ212)) fun σ217 => letT (nw σ217 101 (4 : Int32).toNatClampNeg) fun σ219 => gd (okO σ219 v0R 12) <| letT (sR σ219 v0R 74 (aZ σ217)) fun σ222 => letT (nw σ222 101 (4 : Int32).toNatClampNeg) fun σ224 => gd (okO σ224 v0R 12) <| letT (sR σ224 v0R 75 (aZ σ222)) fun σ227 => letT (sI σ227 v0R 11 (3 : Int32)) fun σ229 => letT (sI σ229 v0R 12 (10 : Int32)) fun σ231 => L_Md_init_1 v0R ((0 : Int32)) σ231) := by
  unfold L_Md_init_0
  rw [lp_eq]
  show lpK (lp F_Md_init) (T_Md_init_0 v0R σ) = _
  unfold T_Md_init_0
  simp only [lpK_ite, lq_inl, lq_inr, lpK_bnd, lpK_gd, lq_let]
  try rfl
set_option maxRecDepth 20000 in
theorem E_Md_init_1 (v0R : Nat) (v1I : Int32) (σ : AM) : L_Md_init_1 v0R v1I σ = (if v1I < (5 : Int32) then (gd (okO σ v0R 12) <| gd (okO σ (aR σ v0R 14) 101) <| gd (inB v1I (aN σ (aR σ v0R 14))) <| letT (sI σ (aR σ v0R 14) v1I.toNatClampNeg ((-1) : Int32)) fun σ4 => L_Md_init_1 v0R (v1I + (1 : Int32)) σ4) else (gd (okO σ v0R 12) <| bnd (M_Md_laysAll v0R σ) fun _ σ7 => (some ((), σ7)))) := by
  unfold L_Md_init_1
  rw [lp_eq]
  show lpK (lp F_Md_init) (T_Md_init_1 v0R v1I σ) = _
  unfold T_Md_init_1
  simp only [lpK_ite, lq_inl, lq_inr, lpK_bnd, lpK_gd, lq_let]
  try rfl
noncomputable def M_Md_init (v0R : Nat) (σ : AM) : Option (Unit × AM) := mw σ (L_Md_init_0 v0R σ)
def I_Md_init (G : GX) (p : Program) (l : Launch) (e : Env) (s : State) (m : MethodId) (args : Array Value) (below : List Frame) (meth : Method) (c : Code) (z0 u0 n : Nat) : Prop :=
  (∀ (v0R : Nat) (σ : AM), VX (QM eV G args s below z0 u0) G p l e s m args below meth c 4 z0 u0 2 (lpn F_Md_init n (0, v0R, 0, σ)) 0 [(0, .ref v0R)] [] σ) ∧
  (∀ (v0R : Nat) (v1I : Int32) (σ : AM), VX (QM eV G args s below z0 u0) G p l e s m args below meth c 4 z0 u0 2 (lpn F_Md_init n (1, v0R, v1I, σ)) 406 [(0, .ref v0R), (1, .int v1I)] [] σ)
set_option maxRecDepth 20000 in
theorem s_Md_init_0 {G : GX} {p : Program} {l : Launch} {e : Env} {s : State} {m : MethodId} {args : Array Value} {below : List Frame} {meth : Method} {c : Code} {z0 u0 n : Nat} (C : Cx G p s m args meth c prog_14_method_4_code 2 "BellPlateModel" ((none))) (hin : meth.name = "<init>") (IH : I_Md_init G p l e s m args below meth c z0 u0 n) (v0R : Nat) (σ : AM) : VX (QM eV G args s below z0 u0) G p l e s m args below meth c 4 z0 u0 2 (lpK (lpn F_Md_init n) (T_Md_init_0 v0R σ)) 0 [(0, .ref v0R)] [] σ := by
  unfold T_Md_init_0
  refine x_aload_n C d_Md_init_0 0 rfl ?_
  refine x_gd (fun h1 => ?_)
  refine x_obj C (okO_iff.mp h1) w1800 w153 w154 (by decide) (Nat.le_of_ble_eq_true rfl) d_Md_init_1 ?_
  refine x_aload_n C d_Md_init_4 0 rfl ?_
  refine x_sipush (v := (1000 : Int32)) C d_Md_init_5 (by decide) ?_
  refine x_newaI C w203 (by decide) (by decide) d_Md_init_8 ?_
  refine x_letS (fun σ2 e3 => ?_)
  refine x_gd (fun h4 => ?_)
  refine x_putRF (k := 1) (kv := 101) C (okO_iff.mp h4) rfl j11_ok y11_ok n11_ok (by decide) rfl (fr_K e3) (by decide) rfl hin rfl rfl rfl w1853 d_Md_init_10 ?_
  refine x_letS (fun σ5 e6 => ?_)
  refine x_aload_n C d_Md_init_13 0 rfl ?_
  refine x_sipush (v := (1002 : Int32)) C d_Md_init_14 (by decide) ?_
  refine x_newaI C w203 (by decide) (by decide) d_Md_init_17 ?_
  refine x_letS (fun σ7 e8 => ?_)
  refine x_gd (fun h9 => ?_)
  refine x_putRF (k := 4) (kv := 101) C (okO_iff.mp h9) rfl j11_ok y11_ok n11_ok (by decide) rfl (fr_K e8) (by decide) rfl hin rfl rfl rfl w1856 d_Md_init_19 ?_
  refine x_letS (fun σ10 e11 => ?_)
  refine x_aload_n C d_Md_init_22 0 rfl ?_
  refine x_sipush (v := (1002 : Int32)) C d_Md_init_23 (by decide) ?_
  refine x_newaI C w203 (by decide) (by decide) d_Md_init_26 ?_
  refine x_letS (fun σ12 e13 => ?_)
  refine x_gd (fun h14 => ?_)
  refine x_putRF (k := 5) (kv := 101) C (okO_iff.mp h14) rfl j11_ok y11_ok n11_ok (by decide) rfl (fr_K e13) (by decide) rfl hin rfl rfl rfl w1857 d_Md_init_28 ?_
  refine x_letS (fun σ15 e16 => ?_)
  refine x_aload_n C d_Md_init_31 0 rfl ?_
  refine x_sipush (v := (1002 : Int32)) C d_Md_init_32 (by decide) ?_
  refine x_newaJ C w202 (by decide) (by decide) d_Md_init_35 ?_
  refine x_letS (fun σ17 e18 => ?_)
  refine x_gd (fun h19 => ?_)
  refine x_putRF (k := 6) (kv := 102) C (okO_iff.mp h19) rfl j11_ok y11_ok n11_ok (by decide) rfl (fr_K e18) (by decide) rfl hin rfl rfl rfl w1858 d_Md_init_37 ?_
  refine x_letS (fun σ20 e21 => ?_)
  refine x_aload_n C d_Md_init_40 0 rfl ?_
  refine x_bipush (v := (10 : Int32)) C d_Md_init_41 (by decide) ?_
  refine x_newaJ C w202 (by decide) (by decide) d_Md_init_43 ?_
  refine x_letS (fun σ22 e23 => ?_)
  refine x_letR (fun x24 _ => ?_)
  refine x_dup C d_Md_init_45 rfl ?_
  refine x_iconst (v := (0 : Int32)) C d_Md_init_46 (by decide) ?_
  refine x_ldc2 C d_Md_init_47 w1801 ?_
  refine x_gd (fun h25 => ?_)
  refine x_gd (fun h26 => ?_)
  refine x_astJ C (okO_iff.mp h25) (inB_iff.mp h26) d_Md_init_50 ?_
  refine x_letS (fun σ27 e28 => ?_)
  refine x_dup C d_Md_init_51 rfl ?_
  refine x_iconst (v := (1 : Int32)) C d_Md_init_52 (by decide) ?_
  refine x_ldc2 C d_Md_init_53 w1802 ?_
  refine x_gd (fun h29 => ?_)
  refine x_astJ C (by first | exact (okO_iff.mp h25) | (rw [e28]; exact (okO_iff.mp h25))) (inB_iff.mp h29) d_Md_init_56 ?_
  refine x_letS (fun σ30 e31 => ?_)
  refine x_dup C d_Md_init_57 rfl ?_
  refine x_iconst (v := (2 : Int32)) C d_Md_init_58 (by decide) ?_
  refine x_ldc2 C d_Md_init_59 w1803 ?_
  refine x_gd (fun h32 => ?_)
  refine x_astJ C (by first | exact (okO_iff.mp h25) | (rw [e31, e28]; exact (okO_iff.mp h25))) (inB_iff.mp h32) d_Md_init_62 ?_
  refine x_letS (fun σ33 e34 => ?_)
  refine x_dup C d_Md_init_63 rfl ?_
  refine x_iconst (v := (3 : Int32)) C d_Md_init_64 (by decide) ?_
  refine x_ldc2 C d_Md_init_65 w1804 ?_
  refine x_gd (fun h35 => ?_)
  refine x_astJ C (by first | exact (okO_iff.mp h25) | (rw [e34, e31, e28]; exact (okO_iff.mp h25))) (inB_iff.mp h35) d_Md_init_68 ?_
  refine x_letS (fun σ36 e37 => ?_)
  refine x_dup C d_Md_init_69 rfl ?_
  refine x_iconst (v := (4 : Int32)) C d_Md_init_70 (by decide) ?_
  refine x_ldc2 C d_Md_init_71 w1805 ?_
  refine x_gd (fun h38 => ?_)
  refine x_astJ C (by first | exact (okO_iff.mp h25) | (rw [e37, e34, e31, e28]; exact (okO_iff.mp h25))) (inB_iff.mp h38) d_Md_init_74 ?_
  refine x_letS (fun σ39 e40 => ?_)
  refine x_dup C d_Md_init_75 rfl ?_
  refine x_iconst (v := (5 : Int32)) C d_Md_init_76 (by decide) ?_
  refine x_ldc2 C d_Md_init_77 w1806 ?_
  refine x_gd (fun h41 => ?_)
  refine x_astJ C (by first | exact (okO_iff.mp h25) | (rw [e40, e37, e34, e31, e28]; exact (okO_iff.mp h25))) (inB_iff.mp h41) d_Md_init_80 ?_
  refine x_letS (fun σ42 e43 => ?_)
  refine x_dup C d_Md_init_81 rfl ?_
  refine x_bipush (v := (6 : Int32)) C d_Md_init_82 (by decide) ?_
  refine x_ldc2 C d_Md_init_84 w1807 ?_
  refine x_gd (fun h44 => ?_)
  refine x_astJ C (by first | exact (okO_iff.mp h25) | (rw [e43, e40, e37, e34, e31, e28]; exact (okO_iff.mp h25))) (inB_iff.mp h44) d_Md_init_87 ?_
  refine x_letS (fun σ45 e46 => ?_)
  refine x_dup C d_Md_init_88 rfl ?_
  refine x_bipush (v := (7 : Int32)) C d_Md_init_89 (by decide) ?_
  refine x_ldc2 C d_Md_init_91 w1808 ?_
  refine x_gd (fun h47 => ?_)
  refine x_astJ C (by first | exact (okO_iff.mp h25) | (rw [e46, e43, e40, e37, e34, e31, e28]; exact (okO_iff.mp h25))) (inB_iff.mp h47) d_Md_init_94 ?_
  refine x_letS (fun σ48 e49 => ?_)
  refine x_dup C d_Md_init_95 rfl ?_
  refine x_bipush (v := (8 : Int32)) C d_Md_init_96 (by decide) ?_
  refine x_ldc2 C d_Md_init_98 w1809 ?_
  refine x_gd (fun h50 => ?_)
  refine x_astJ C (by first | exact (okO_iff.mp h25) | (rw [e49, e46, e43, e40, e37, e34, e31, e28]; exact (okO_iff.mp h25))) (inB_iff.mp h50) d_Md_init_101 ?_
  refine x_letS (fun σ51 e52 => ?_)
  refine x_dup C d_Md_init_102 rfl ?_
  refine x_bipush (v := (9 : Int32)) C d_Md_init_103 (by decide) ?_
  refine x_ldc2 C d_Md_init_105 w1810 ?_
  refine x_gd (fun h53 => ?_)
  refine x_astJ C (by first | exact (okO_iff.mp h25) | (rw [e52, e49, e46, e43, e40, e37, e34, e31, e28]; exact (okO_iff.mp h25))) (inB_iff.mp h53) d_Md_init_108 ?_
  refine x_letS (fun σ54 e55 => ?_)
  refine x_gd (fun h56 => ?_)
  refine x_putRF (k := 9) (kv := 102) C (okO_iff.mp h56) rfl j11_ok y11_ok n11_ok (by decide) rfl (by first | exact (okO_iff.mp h25) | (rw [e55, e52, e49, e46, e43, e40, e37, e34, e31, e28]; exact (okO_iff.mp h25))) (by decide) rfl hin rfl rfl rfl w1861 d_Md_init_109 ?_
  refine x_letS (fun σ57 e58 => ?_)
  refine x_aload_n C d_Md_init_112 0 rfl ?_
  refine x_bipush (v := (10 : Int32)) C d_Md_init_113 (by decide) ?_
  refine x_newaI C w203 (by decide) (by decide) d_Md_init_115 ?_
  refine x_letS (fun σ59 e60 => ?_)
  refine x_gd (fun h61 => ?_)
  refine x_putRF (k := 14) (kv := 101) C (okO_iff.mp h61) rfl j11_ok y11_ok n11_ok (by decide) rfl (fr_K e60) (by decide) rfl hin rfl rfl rfl w1866 d_Md_init_117 ?_
  refine x_letS (fun σ62 e63 => ?_)
  refine x_aload_n C d_Md_init_120 0 rfl ?_
  refine x_bipush (v := (6 : Int32)) C d_Md_init_121 (by decide) ?_
  refine x_newaJ C w202 (by decide) (by decide) d_Md_init_123 ?_
  refine x_letS (fun σ64 e65 => ?_)
  refine x_gd (fun h66 => ?_)
  refine x_putRF (k := 19) (kv := 102) C (okO_iff.mp h66) rfl j11_ok y11_ok n11_ok (by decide) rfl (fr_K e65) (by decide) rfl hin rfl rfl rfl w1871 d_Md_init_125 ?_
  refine x_letS (fun σ67 e68 => ?_)
  refine x_aload_n C d_Md_init_128 0 rfl ?_
  refine x_sipush (v := (2200 : Int32)) C d_Md_init_129 (by decide) ?_
  refine x_newaI C w203 (by decide) (by decide) d_Md_init_132 ?_
  refine x_letS (fun σ69 e70 => ?_)
  refine x_gd (fun h71 => ?_)
  refine x_putRF (k := 20) (kv := 101) C (okO_iff.mp h71) rfl j11_ok y11_ok n11_ok (by decide) rfl (fr_K e70) (by decide) rfl hin rfl rfl rfl w1872 d_Md_init_134 ?_
  refine x_letS (fun σ72 e73 => ?_)
  refine x_aload_n C d_Md_init_137 0 rfl ?_
  refine x_sipush (v := (2200 : Int32)) C d_Md_init_138 (by decide) ?_
  refine x_newaI C w203 (by decide) (by decide) d_Md_init_141 ?_
  refine x_letS (fun σ74 e75 => ?_)
  refine x_gd (fun h76 => ?_)
  refine x_putRF (k := 21) (kv := 101) C (okO_iff.mp h76) rfl j11_ok y11_ok n11_ok (by decide) rfl (fr_K e75) (by decide) rfl hin rfl rfl rfl w1873 d_Md_init_143 ?_
  refine x_letS (fun σ77 e78 => ?_)
  refine x_aload_n C d_Md_init_146 0 rfl ?_
  refine x_bipush (v := (7 : Int32)) C d_Md_init_147 (by decide) ?_
  refine x_newaI C w203 (by decide) (by decide) d_Md_init_149 ?_
  refine x_letS (fun σ79 e80 => ?_)
  refine x_gd (fun h81 => ?_)
  refine x_putRF (k := 24) (kv := 101) C (okO_iff.mp h81) rfl j11_ok y11_ok n11_ok (by decide) rfl (fr_K e80) (by decide) rfl hin rfl rfl rfl w1876 d_Md_init_151 ?_
  refine x_letS (fun σ82 e83 => ?_)
  refine x_aload_n C d_Md_init_154 0 rfl ?_
  refine x_sipush (v := (1100 : Int32)) C d_Md_init_155 (by decide) ?_
  refine x_newaI C w203 (by decide) (by decide) d_Md_init_158 ?_
  refine x_letS (fun σ84 e85 => ?_)
  refine x_gd (fun h86 => ?_)
  refine x_putRF (k := 25) (kv := 101) C (okO_iff.mp h86) rfl j11_ok y11_ok n11_ok (by decide) rfl (fr_K e85) (by decide) rfl hin rfl rfl rfl w1877 d_Md_init_160 ?_
  refine x_letS (fun σ87 e88 => ?_)
  refine x_aload_n C d_Md_init_163 0 rfl ?_
  refine x_sipush (v := (16384 : Int32)) C d_Md_init_164 (by decide) ?_
  refine x_newaJ C w202 (by decide) (by decide) d_Md_init_167 ?_
  refine x_letS (fun σ89 e90 => ?_)
  refine x_gd (fun h91 => ?_)
  refine x_putRF (k := 27) (kv := 102) C (okO_iff.mp h91) rfl j11_ok y11_ok n11_ok (by decide) rfl (fr_K e90) (by decide) rfl hin rfl rfl rfl w1879 d_Md_init_169 ?_
  refine x_letS (fun σ92 e93 => ?_)
  refine x_aload_n C d_Md_init_172 0 rfl ?_
  refine x_sipush (v := (16384 : Int32)) C d_Md_init_173 (by decide) ?_
  refine x_newaZ C w332 (by decide) (by decide) d_Md_init_176 ?_
  refine x_letS (fun σ94 e95 => ?_)
  refine x_gd (fun h96 => ?_)
  refine x_putRF (k := 28) (kv := 103) C (okO_iff.mp h96) rfl j11_ok y11_ok n11_ok (by decide) rfl (fr_K e95) (by decide) rfl hin rfl rfl rfl w1880 d_Md_init_178 ?_
  refine x_letS (fun σ97 e98 => ?_)
  refine x_aload_n C d_Md_init_181 0 rfl ?_
  refine x_sipush (v := (16384 : Int32)) C d_Md_init_182 (by decide) ?_
  refine x_newaJ C w202 (by decide) (by decide) d_Md_init_185 ?_
  refine x_letS (fun σ99 e100 => ?_)
  refine x_gd (fun h101 => ?_)
  refine x_putRF (k := 30) (kv := 102) C (okO_iff.mp h101) rfl j11_ok y11_ok n11_ok (by decide) rfl (fr_K e100) (by decide) rfl hin rfl rfl rfl w1882 d_Md_init_187 ?_
  refine x_letS (fun σ102 e103 => ?_)
  refine x_aload_n C d_Md_init_190 0 rfl ?_
  refine x_sipush (v := (16384 : Int32)) C d_Md_init_191 (by decide) ?_
  refine x_newaI C w203 (by decide) (by decide) d_Md_init_194 ?_
  refine x_letS (fun σ104 e105 => ?_)
  refine x_gd (fun h106 => ?_)
  refine x_putRF (k := 31) (kv := 101) C (okO_iff.mp h106) rfl j11_ok y11_ok n11_ok (by decide) rfl (fr_K e105) (by decide) rfl hin rfl rfl rfl w1883 d_Md_init_196 ?_
  refine x_letS (fun σ107 e108 => ?_)
  refine x_aload_n C d_Md_init_199 0 rfl ?_
  refine x_sipush (v := (16384 : Int32)) C d_Md_init_200 (by decide) ?_
  refine x_newaI C w203 (by decide) (by decide) d_Md_init_203 ?_
  refine x_letS (fun σ109 e110 => ?_)
  refine x_gd (fun h111 => ?_)
  refine x_putRF (k := 32) (kv := 101) C (okO_iff.mp h111) rfl j11_ok y11_ok n11_ok (by decide) rfl (fr_K e110) (by decide) rfl hin rfl rfl rfl w1884 d_Md_init_205 ?_
  refine x_letS (fun σ112 e113 => ?_)
  refine x_aload_n C d_Md_init_208 0 rfl ?_
  refine x_ldc C d_Md_init_209 w1811 ?_
  refine x_newaI C w203 (by decide) (by decide) d_Md_init_211 ?_
  refine x_letS (fun σ114 e115 => ?_)
  refine x_gd (fun h116 => ?_)
  refine x_putRF (k := 33) (kv := 101) C (okO_iff.mp h116) rfl j11_ok y11_ok n11_ok (by decide) rfl (fr_K e115) (by decide) rfl hin rfl rfl rfl w1885 d_Md_init_213 ?_
  refine x_letS (fun σ117 e118 => ?_)
  refine x_aload_n C d_Md_init_216 0 rfl ?_
  refine x_bipush (v := (6 : Int32)) C d_Md_init_217 (by decide) ?_
  refine x_newaI C w203 (by decide) (by decide) d_Md_init_219 ?_
  refine x_letS (fun σ119 e120 => ?_)
  refine x_gd (fun h121 => ?_)
  refine x_putRF (k := 34) (kv := 101) C (okO_iff.mp h121) rfl j11_ok y11_ok n11_ok (by decide) rfl (fr_K e120) (by decide) rfl hin rfl rfl rfl w1886 d_Md_init_221 ?_
  refine x_letS (fun σ122 e123 => ?_)
  refine x_aload_n C d_Md_init_224 0 rfl ?_
  refine x_bipush (v := (64 : Int32)) C d_Md_init_225 (by decide) ?_
  refine x_newaI C w203 (by decide) (by decide) d_Md_init_227 ?_
  refine x_letS (fun σ124 e125 => ?_)
  refine x_gd (fun h126 => ?_)
  refine x_putRF (k := 35) (kv := 101) C (okO_iff.mp h126) rfl j11_ok y11_ok n11_ok (by decide) rfl (fr_K e125) (by decide) rfl hin rfl rfl rfl w1887 d_Md_init_229 ?_
  refine x_letS (fun σ127 e128 => ?_)
  refine x_aload_n C d_Md_init_232 0 rfl ?_
  refine x_bipush (v := (64 : Int32)) C d_Md_init_233 (by decide) ?_
  refine x_newaI C w203 (by decide) (by decide) d_Md_init_235 ?_
  refine x_letS (fun σ129 e130 => ?_)
  refine x_gd (fun h131 => ?_)
  refine x_putRF (k := 36) (kv := 101) C (okO_iff.mp h131) rfl j11_ok y11_ok n11_ok (by decide) rfl (fr_K e130) (by decide) rfl hin rfl rfl rfl w1888 d_Md_init_237 ?_
  refine x_letS (fun σ132 e133 => ?_)
  refine x_aload_n C d_Md_init_240 0 rfl ?_
  refine x_bipush (v := (60 : Int32)) C d_Md_init_241 (by decide) ?_
  refine x_newaI C w203 (by decide) (by decide) d_Md_init_243 ?_
  refine x_letS (fun σ134 e135 => ?_)
  refine x_gd (fun h136 => ?_)
  refine x_putRF (k := 38) (kv := 101) C (okO_iff.mp h136) rfl j11_ok y11_ok n11_ok (by decide) rfl (fr_K e135) (by decide) rfl hin rfl rfl rfl w1890 d_Md_init_245 ?_
  refine x_letS (fun σ137 e138 => ?_)
  refine x_aload_n C d_Md_init_248 0 rfl ?_
  refine x_bipush (v := (60 : Int32)) C d_Md_init_249 (by decide) ?_
  refine x_newaZ C w332 (by decide) (by decide) d_Md_init_251 ?_
  refine x_letS (fun σ139 e140 => ?_)
  refine x_gd (fun h141 => ?_)
  refine x_putRF (k := 39) (kv := 103) C (okO_iff.mp h141) rfl j11_ok y11_ok n11_ok (by decide) rfl (fr_K e140) (by decide) rfl hin rfl rfl rfl w1891 d_Md_init_253 ?_
  refine x_letS (fun σ142 e143 => ?_)
  refine x_aload_n C d_Md_init_256 0 rfl ?_
  refine x_bipush (v := (8 : Int32)) C d_Md_init_257 (by decide) ?_
  refine x_newaI C w203 (by decide) (by decide) d_Md_init_259 ?_
  refine x_letS (fun σ144 e145 => ?_)
  refine x_gd (fun h146 => ?_)
  refine x_putRF (k := 43) (kv := 101) C (okO_iff.mp h146) rfl j11_ok y11_ok n11_ok (by decide) rfl (fr_K e145) (by decide) rfl hin rfl rfl rfl w1895 d_Md_init_261 ?_
  refine x_letS (fun σ147 e148 => ?_)
  refine x_aload_n C d_Md_init_264 0 rfl ?_
  refine x_bipush (v := (8 : Int32)) C d_Md_init_265 (by decide) ?_
  refine x_newaI C w203 (by decide) (by decide) d_Md_init_267 ?_
  refine x_letS (fun σ149 e150 => ?_)
  refine x_gd (fun h151 => ?_)
  refine x_putRF (k := 44) (kv := 101) C (okO_iff.mp h151) rfl j11_ok y11_ok n11_ok (by decide) rfl (fr_K e150) (by decide) rfl hin rfl rfl rfl w1896 d_Md_init_269 ?_
  refine x_letS (fun σ152 e153 => ?_)
  refine x_aload_n C d_Md_init_272 0 rfl ?_
  refine x_sipush (v := (16384 : Int32)) C d_Md_init_273 (by decide) ?_
  refine x_newaI C w203 (by decide) (by decide) d_Md_init_276 ?_
  refine x_letS (fun σ154 e155 => ?_)
  refine x_gd (fun h156 => ?_)
  refine x_putRF (k := 45) (kv := 101) C (okO_iff.mp h156) rfl j11_ok y11_ok n11_ok (by decide) rfl (fr_K e155) (by decide) rfl hin rfl rfl rfl w1897 d_Md_init_278 ?_
  refine x_letS (fun σ157 e158 => ?_)
  refine x_aload_n C d_Md_init_281 0 rfl ?_
  refine x_sipush (v := (16384 : Int32)) C d_Md_init_282 (by decide) ?_
  refine x_newaI C w203 (by decide) (by decide) d_Md_init_285 ?_
  refine x_letS (fun σ159 e160 => ?_)
  refine x_gd (fun h161 => ?_)
  refine x_putRF (k := 48) (kv := 101) C (okO_iff.mp h161) rfl j11_ok y11_ok n11_ok (by decide) rfl (fr_K e160) (by decide) rfl hin rfl rfl rfl w1900 d_Md_init_287 ?_
  refine x_letS (fun σ162 e163 => ?_)
  refine x_aload_n C d_Md_init_290 0 rfl ?_
  refine x_bipush (v := (64 : Int32)) C d_Md_init_291 (by decide) ?_
  refine x_newaI C w203 (by decide) (by decide) d_Md_init_293 ?_
  refine x_letS (fun σ164 e165 => ?_)
  refine x_gd (fun h166 => ?_)
  refine x_putRF (k := 52) (kv := 101) C (okO_iff.mp h166) rfl j11_ok y11_ok n11_ok (by decide) rfl (fr_K e165) (by decide) rfl hin rfl rfl rfl w1904 d_Md_init_295 ?_
  refine x_letS (fun σ167 e168 => ?_)
  refine x_aload_n C d_Md_init_298 0 rfl ?_
  refine x_bipush (v := (64 : Int32)) C d_Md_init_299 (by decide) ?_
  refine x_newaI C w203 (by decide) (by decide) d_Md_init_301 ?_
  refine x_letS (fun σ169 e170 => ?_)
  refine x_gd (fun h171 => ?_)
  refine x_putRF (k := 53) (kv := 101) C (okO_iff.mp h171) rfl j11_ok y11_ok n11_ok (by decide) rfl (fr_K e170) (by decide) rfl hin rfl rfl rfl w1905 d_Md_init_303 ?_
  refine x_letS (fun σ172 e173 => ?_)
  refine x_aload_n C d_Md_init_306 0 rfl ?_
  refine x_bipush (v := (60 : Int32)) C d_Md_init_307 (by decide) ?_
  refine x_newaI C w203 (by decide) (by decide) d_Md_init_309 ?_
  refine x_letS (fun σ174 e175 => ?_)
  refine x_gd (fun h176 => ?_)
  refine x_putRF (k := 54) (kv := 101) C (okO_iff.mp h176) rfl j11_ok y11_ok n11_ok (by decide) rfl (fr_K e175) (by decide) rfl hin rfl rfl rfl w1906 d_Md_init_311 ?_
  refine x_letS (fun σ177 e178 => ?_)
  refine x_aload_n C d_Md_init_314 0 rfl ?_
  refine x_bipush (v := (12 : Int32)) C d_Md_init_315 (by decide) ?_
  refine x_newaI C w203 (by decide) (by decide) d_Md_init_317 ?_
  refine x_letS (fun σ179 e180 => ?_)
  refine x_gd (fun h181 => ?_)
  refine x_putRF (k := 57) (kv := 101) C (okO_iff.mp h181) rfl j11_ok y11_ok n11_ok (by decide) rfl (fr_K e180) (by decide) rfl hin rfl rfl rfl w1909 d_Md_init_319 ?_
  refine x_letS (fun σ182 e183 => ?_)
  refine x_aload_n C d_Md_init_322 0 rfl ?_
  refine x_bipush (v := (64 : Int32)) C d_Md_init_323 (by decide) ?_
  refine x_newaI C w203 (by decide) (by decide) d_Md_init_325 ?_
  refine x_letS (fun σ184 e185 => ?_)
  refine x_gd (fun h186 => ?_)
  refine x_putRF (k := 58) (kv := 101) C (okO_iff.mp h186) rfl j11_ok y11_ok n11_ok (by decide) rfl (fr_K e185) (by decide) rfl hin rfl rfl rfl w1910 d_Md_init_327 ?_
  refine x_letS (fun σ187 e188 => ?_)
  refine x_aload_n C d_Md_init_330 0 rfl ?_
  refine x_sipush (v := (4096 : Int32)) C d_Md_init_331 (by decide) ?_
  refine x_newaI C w203 (by decide) (by decide) d_Md_init_334 ?_
  refine x_letS (fun σ189 e190 => ?_)
  refine x_gd (fun h191 => ?_)
  refine x_putRF (k := 59) (kv := 101) C (okO_iff.mp h191) rfl j11_ok y11_ok n11_ok (by decide) rfl (fr_K e190) (by decide) rfl hin rfl rfl rfl w1911 d_Md_init_336 ?_
  refine x_letS (fun σ192 e193 => ?_)
  refine x_aload_n C d_Md_init_339 0 rfl ?_
  refine x_bipush (v := (6 : Int32)) C d_Md_init_340 (by decide) ?_
  refine x_newaI C w203 (by decide) (by decide) d_Md_init_342 ?_
  refine x_letS (fun σ194 e195 => ?_)
  refine x_gd (fun h196 => ?_)
  refine x_putRF (k := 63) (kv := 101) C (okO_iff.mp h196) rfl j11_ok y11_ok n11_ok (by decide) rfl (fr_K e195) (by decide) rfl hin rfl rfl rfl w1915 d_Md_init_344 ?_
  refine x_letS (fun σ197 e198 => ?_)
  refine x_aload_n C d_Md_init_347 0 rfl ?_
  refine x_sipush (v := (16384 : Int32)) C d_Md_init_348 (by decide) ?_
  refine x_newaJ C w202 (by decide) (by decide) d_Md_init_351 ?_
  refine x_letS (fun σ199 e200 => ?_)
  refine x_gd (fun h201 => ?_)
  refine x_putRF (k := 67) (kv := 102) C (okO_iff.mp h201) rfl j11_ok y11_ok n11_ok (by decide) rfl (fr_K e200) (by decide) rfl hin rfl rfl rfl w1919 d_Md_init_353 ?_
  refine x_letS (fun σ202 e203 => ?_)
  refine x_aload_n C d_Md_init_356 0 rfl ?_
  refine x_bipush (v := (10 : Int32)) C d_Md_init_357 (by decide) ?_
  refine x_newaI C w203 (by decide) (by decide) d_Md_init_359 ?_
  refine x_letS (fun σ204 e205 => ?_)
  refine x_gd (fun h206 => ?_)
  refine x_putRF (k := 69) (kv := 101) C (okO_iff.mp h206) rfl j11_ok y11_ok n11_ok (by decide) rfl (fr_K e205) (by decide) rfl hin rfl rfl rfl w1921 d_Md_init_361 ?_
  refine x_letS (fun σ207 e208 => ?_)
  refine x_aload_n C d_Md_init_364 0 rfl ?_
  refine x_bipush (v := (6 : Int32)) C d_Md_init_365 (by decide) ?_
  refine x_newaI C w203 (by decide) (by decide) d_Md_init_367 ?_
  refine x_letS (fun σ209 e210 => ?_)
  refine x_gd (fun h211 => ?_)
  refine x_putRF (k := 71) (kv := 101) C (okO_iff.mp h211) rfl j11_ok y11_ok n11_ok (by decide) rfl (fr_K e210) (by decide) rfl hin rfl rfl rfl w1923 d_Md_init_369 ?_
  refine x_letS (fun σ212 e213 => ?_)
  refine x_aload_n C d_Md_init_372 0 rfl ?_
  refine x_iconst (v := (4 : Int32)) C d_Md_init_373 (by decide) ?_
  refine x_newaI C w203 (by decide) (by decide) d_Md_init_374 ?_
  refine x_letS (fun σ214 e215 => ?_)
  refine x_gd (fun h216 => ?_)
  refine x_putRF (k := 73) (kv := 101) C (okO_iff.mp h216) rfl j11_ok y11_ok n11_ok (by decide) rfl (fr_K e215) (by decide) rfl hin rfl rfl rfl w1925 d_Md_init_376 ?_
  refine x_letS (fun σ217 e218 => ?_)
  refine x_aload_n C d_Md_init_379 0 rfl ?_
  refine x_iconst (v := (4 : Int32)) C d_Md_init_380 (by decide) ?_
  refine x_newaI C w203 (by decide) (by decide) d_Md_init_381 ?_
  refine x_letS (fun σ219 e220 => ?_)
  refine x_gd (fun h221 => ?_)
  refine x_putRF (k := 74) (kv := 101) C (okO_iff.mp h221) rfl j11_ok y11_ok n11_ok (by decide) rfl (fr_K e220) (by decide) rfl hin rfl rfl rfl w1926 d_Md_init_383 ?_
  refine x_letS (fun σ222 e223 => ?_)
  refine x_aload_n C d_Md_init_386 0 rfl ?_
  refine x_iconst (v := (4 : Int32)) C d_Md_init_387 (by decide) ?_
  refine x_newaI C w203 (by decide) (by decide) d_Md_init_388 ?_
  refine x_letS (fun σ224 e225 => ?_)
  refine x_gd (fun h226 => ?_)
  refine x_putRF (k := 75) (kv := 101) C (okO_iff.mp h226) rfl j11_ok y11_ok n11_ok (by decide) rfl (fr_K e225) (by decide) rfl hin rfl rfl rfl w1927 d_Md_init_390 ?_
  refine x_letS (fun σ227 e228 => ?_)
  refine x_aload_n C d_Md_init_393 0 rfl ?_
  refine x_iconst (v := (3 : Int32)) C d_Md_init_394 (by decide) ?_
  refine x_putI (k := 11) C (by first | exact (okO_iff.mp h226) | (rw [e228]; exact (okO_iff.mp h226))) rfl j11_ok y11_ok n11_ok (by decide) rfl rfl rfl rfl w1863 d_Md_init_395 ?_
  refine x_letS (fun σ229 e230 => ?_)
  refine x_aload_n C d_Md_init_398 0 rfl ?_
  refine x_bipush (v := (10 : Int32)) C d_Md_init_399 (by decide) ?_
  refine x_putI (k := 12) C (by first | exact (okO_iff.mp h226) | (rw [e230, e228]; exact (okO_iff.mp h226))) rfl j11_ok y11_ok n11_ok (by decide) rfl rfl rfl rfl w1864 d_Md_init_401 ?_
  refine x_letS (fun σ231 e232 => ?_)
  refine x_iconst (v := (0 : Int32)) C d_Md_init_404 (by decide) ?_
  refine x_istore_n (lv' := [(1, .int (0 : Int32)), (0, .ref v0R)]) C d_Md_init_405 (by decide) rfl rfl ?_
  refine x_lv [1, 0] rfl ?_
  exact IH.2 v0R ((0 : Int32)) (σ231)
set_option maxRecDepth 20000 in
theorem s_Md_init_1 {G : GX} {p : Program} {l : Launch} {e : Env} {s : State} {m : MethodId} {args : Array Value} {below : List Frame} {meth : Method} {c : Code} {z0 u0 n : Nat} (C : Cx G p s m args meth c prog_14_method_4_code 2 "BellPlateModel" ((none))) (hin : meth.name = "<init>") (IH : I_Md_init G p l e s m args below meth c z0 u0 n) (v0R : Nat) (v1I : Int32) (σ : AM) : VX (QM eV G args s below z0 u0) G p l e s m args below meth c 4 z0 u0 2 (lpK (lpn F_Md_init n) (T_Md_init_1 v0R v1I σ)) 406 [(0, .ref v0R), (1, .int v1I)] [] σ := by
  unfold T_Md_init_1
  refine x_iload_n C d_Md_init_406 1 rfl ?_
  refine x_iconst (v := (5 : Int32)) C d_Md_init_407 (by decide) ?_
  refine x_icmp_ge (tgt := 424) C d_Md_init_408 (by decide) (fun _ => ?_) (fun _ => ?_)
  · refine x_aload_n C d_Md_init_411 0 rfl ?_
    refine x_gd (fun h1 => ?_)
    refine x_gd (fun h2 => ?_)
    refine x_getR (k := 14) (kv := 101) C (okO_iff.mp h1) rfl j11_ok (by decide) rfl (okO_iff.mp h2) (by decide) w1866 d_Md_init_412 ?_
    refine x_iload_n C d_Md_init_415 1 rfl ?_
    refine x_iconst (v := ((-1) : Int32)) C d_Md_init_416 (by decide) ?_
    refine x_gd (fun h3 => ?_)
    refine x_astI C (okO_iff.mp h2) (inB_iff.mp h3) d_Md_init_417 ?_
    refine x_letS (fun σ4 e5 => ?_)
    refine x_iinc (v := v1I + (1 : Int32)) (lv' := [(1, .int (v1I + (1 : Int32))), (0, .ref v0R)]) C d_Md_init_418 1 rfl rfl (by decide) rfl ?_
    refine x_goto (tgt := 406) C d_Md_init_421 (by decide) ?_
    refine x_lv [1, 0] rfl ?_
    exact IH.2 v0R (v1I + (1 : Int32)) (σ4)
  · refine x_aload_n C d_Md_init_424 0 rfl ?_
    refine x_gd (fun h8 => ?_)
    refine x_callVV (As := []) C (c_Md_laysAll G l v0R  σ) (okO_iff.mp h8) rfl w1814 w55 w1812 w1815 w134 k_Md_laysAll rfl (by decide) (by decide) rfl (Nat.le_of_ble_eq_true rfl) d_Md_init_425 (fun r6 σ7 => ?_)
    exact x_vret C d_Md_init_428
theorem i_Md_init {G : GX} {p : Program} {l : Launch} {e : Env} {s : State} {m : MethodId} {args : Array Value} {below : List Frame} {meth : Method} {c : Code} {z0 u0 : Nat} (C : Cx G p s m args meth c prog_14_method_4_code 2 "BellPlateModel" ((none))) (hin : meth.name = "<init>") (n : Nat) : I_Md_init G p l e s m args below meth c z0 u0 n := by
  induction n with
  | zero => exact ⟨fun _ _ => x_none, fun _ _ _ => x_none⟩
  | succ n IH => exact ⟨fun v0R σ => s_Md_init_0 C hin IH v0R σ, fun v0R v1I σ => s_Md_init_1 C hin IH v0R v1I σ⟩
theorem c_Md_init (G : GX) (l : Launch) (v0R : Nat) (σ : AM) : CT eV G l 4 y_Md_init prog_14_method_4_code 2 (none) [.ref v0R] σ (M_Md_init v0R σ) := by
  refine ct_of (by decide +kernel) (Nat.le_of_ble_eq_true rfl) (fun p e s m args below meth c C hin => ?_)
  refine x_lve (lv' := [(0, .ref v0R)]) rfl ?_
  intro r σ' h
  obtain ⟨n, hn⟩ := (lp_iff _ _ _).mp h
  exact (i_Md_init C hin n).1 v0R σ r σ' hn
/-! BellPlateModel.isLetter(I)Z -/
abbrev y_Md_isLetter : MethodName := ⟨"BellPlateModel", "isLetter", "(I)Z"⟩
theorem k_Md_isLetter : y_Md_isLetter.cls ≠ "java/lang/invoke/MethodHandle" ∧ y_Md_isLetter.cls ≠ "java/lang/invoke/VarHandle" ∧ (parseMethodDescriptor y_Md_isLetter.desc).map (fun d => d.parameters.length) = some 1 := by decide +kernel
theorem d_Md_isLetter_0 : decode prog_14_method_5_code 0 = .ok (.iload_n 0, 1) := by decide +kernel
theorem d_Md_isLetter_1 : decode prog_14_method_5_code 1 = .ok (.bipush 97, 2) := by decide +kernel
theorem d_Md_isLetter_3 : decode prog_14_method_5_code 3 = .ok (.if_icmp .lt 13, 3) := by decide +kernel
theorem d_Md_isLetter_6 : decode prog_14_method_5_code 6 = .ok (.iload_n 0, 1) := by decide +kernel
theorem d_Md_isLetter_7 : decode prog_14_method_5_code 7 = .ok (.bipush 122, 2) := by decide +kernel
theorem d_Md_isLetter_9 : decode prog_14_method_5_code 9 = .ok (.if_icmp .gt 7, 3) := by decide +kernel
theorem d_Md_isLetter_12 : decode prog_14_method_5_code 12 = .ok (.iconst 1, 1) := by decide +kernel
theorem d_Md_isLetter_13 : decode prog_14_method_5_code 13 = .ok (.goto 4, 3) := by decide +kernel
theorem d_Md_isLetter_16 : decode prog_14_method_5_code 16 = .ok (.iconst 0, 1) := by decide +kernel
theorem d_Md_isLetter_17 : decode prog_14_method_5_code 17 = .ok (.ireturn, 1) := by decide +kernel
abbrev S_Md_isLetter : Type := Nat × Int32 × Int32 × AM
noncomputable def T_Md_isLetter_0 (v0I : Int32) (σ : AM) : S_Md_isLetter ⊕ Option (Int32 × AM) :=
  if v0I < (97 : Int32) then (.inl (1, 0, 0, σ)) else (if (122 : Int32) < v0I then (.inl (1, 0, 0, σ)) else (.inl (2, 0, (1 : Int32), σ)))
noncomputable def T_Md_isLetter_1  (σ : AM) : S_Md_isLetter ⊕ Option (Int32 × AM) :=
  .inl (2, 0, (0 : Int32), σ)
noncomputable def T_Md_isLetter_2 (s0I : Int32) (σ : AM) : S_Md_isLetter ⊕ Option (Int32 × AM) :=
  gdT (isB s0I) <| .inr (some (s0I, σ))
noncomputable def F_Md_isLetter : S_Md_isLetter → S_Md_isLetter ⊕ Option (Int32 × AM) := fun s => match s.1 with
  | 0 => T_Md_isLetter_0 (s.2.1) (s.2.2.2)
  | 1 => T_Md_isLetter_1  (s.2.2.2)
  | _ => T_Md_isLetter_2 (s.2.2.1) (s.2.2.2)
noncomputable def L_Md_isLetter_0 (v0I : Int32) (σ : AM) : Option (Int32 × AM) := lp F_Md_isLetter (0, v0I, 0, σ)
noncomputable def L_Md_isLetter_1  (σ : AM) : Option (Int32 × AM) := lp F_Md_isLetter (1, 0, 0, σ)
noncomputable def L_Md_isLetter_2 (s0I : Int32) (σ : AM) : Option (Int32 × AM) := lp F_Md_isLetter (2, 0, s0I, σ)
set_option maxRecDepth 20000 in
theorem E_Md_isLetter_0 (v0I : Int32) (σ : AM) : L_Md_isLetter_0 v0I σ = (if v0I < (97 : Int32) then (L_Md_isLetter_1 σ) else (if (122 : Int32) < v0I then (L_Md_isLetter_1 σ) else (L_Md_isLetter_2 ((1 : Int32)) σ))) := by
  unfold L_Md_isLetter_0
  rw [lp_eq]
  show lpK (lp F_Md_isLetter) (T_Md_isLetter_0 v0I σ) = _
  unfold T_Md_isLetter_0
  simp only [lpK_ite, lq_inl, lq_inr, lpK_bnd, lpK_gd, lq_let]
  try rfl
set_option maxRecDepth 20000 in
theorem E_Md_isLetter_1  (σ : AM) : L_Md_isLetter_1  σ = (L_Md_isLetter_2 ((0 : Int32)) σ) := by
  unfold L_Md_isLetter_1
  rw [lp_eq]
  show lpK (lp F_Md_isLetter) (T_Md_isLetter_1  σ) = _
  unfold T_Md_isLetter_1
  simp only [lpK_ite, lq_inl, lq_inr, lpK_bnd, lpK_gd, lq_let]
  try rfl
set_option maxRecDepth 20000 in
theorem E_Md_isLetter_2 (s0I : Int32) (σ : AM) : L_Md_isLetter_2 s0I σ = (gd (isB s0I) <| (some (s0I, σ))) := by
  unfold L_Md_isLetter_2
  rw [lp_eq]
  show lpK (lp F_Md_isLetter) (T_Md_isLetter_2 s0I σ) = _
  unfold T_Md_isLetter_2
  simp only [lpK_ite, lq_inl, lq_inr, lpK_bnd, lpK_gd, lq_let]
  try rfl
noncomputable def M_Md_isLetter (v0I : Int32) (σ : AM) : Option (Int32 × AM) := mw σ (L_Md_isLetter_0 v0I σ)
def I_Md_isLetter (G : GX) (p : Program) (l : Launch) (e : Env) (s : State) (m : MethodId) (args : Array Value) (below : List Frame) (meth : Method) (c : Code) (z0 u0 n : Nat) : Prop :=
  (∀ (v0I : Int32) (σ : AM), VX (QM eI G args s below z0 u0) G p l e s m args below meth c 0 z0 u0 1 (lpn F_Md_isLetter n (0, v0I, 0, σ)) 0 [(0, .int v0I)] [] σ) ∧
  (∀ (σ : AM), VX (QM eI G args s below z0 u0) G p l e s m args below meth c 0 z0 u0 1 (lpn F_Md_isLetter n (1, 0, 0, σ)) 16 [] [] σ) ∧
  (∀ (s0I : Int32) (σ : AM), VX (QM eI G args s below z0 u0) G p l e s m args below meth c 0 z0 u0 1 (lpn F_Md_isLetter n (2, 0, s0I, σ)) 17 [] [.int s0I] σ)
set_option maxRecDepth 20000 in
theorem s_Md_isLetter_0 {G : GX} {p : Program} {l : Launch} {e : Env} {s : State} {m : MethodId} {args : Array Value} {below : List Frame} {meth : Method} {c : Code} {z0 u0 n : Nat} (C : Cx G p s m args meth c prog_14_method_5_code 1 "BellPlateModel" ((some FieldType.boolean))) (IH : I_Md_isLetter G p l e s m args below meth c z0 u0 n) (v0I : Int32) (σ : AM) : VX (QM eI G args s below z0 u0) G p l e s m args below meth c 0 z0 u0 1 (lpK (lpn F_Md_isLetter n) (T_Md_isLetter_0 v0I σ)) 0 [(0, .int v0I)] [] σ := by
  unfold T_Md_isLetter_0
  refine x_iload_n C d_Md_isLetter_0 0 rfl ?_
  refine x_bipush (v := (97 : Int32)) C d_Md_isLetter_1 (by decide) ?_
  refine x_icmp_lt (tgt := 16) C d_Md_isLetter_3 (by decide) (fun _ => ?_) (fun _ => ?_)
  · refine x_lv [] rfl ?_
    exact IH.2.1  (σ)
  · refine x_iload_n C d_Md_isLetter_6 0 rfl ?_
    refine x_bipush (v := (122 : Int32)) C d_Md_isLetter_7 (by decide) ?_
    refine x_icmp_gt (tgt := 16) C d_Md_isLetter_9 (by decide) (fun _ => ?_) (fun _ => ?_)
    · refine x_lv [] rfl ?_
      exact IH.2.1  (σ)
    · refine x_iconst (v := (1 : Int32)) C d_Md_isLetter_12 (by decide) ?_
      refine x_goto (tgt := 17) C d_Md_isLetter_13 (by decide) ?_
      refine x_lv [] rfl ?_
      exact IH.2.2 ((1 : Int32)) (σ)
set_option maxRecDepth 20000 in
theorem s_Md_isLetter_1 {G : GX} {p : Program} {l : Launch} {e : Env} {s : State} {m : MethodId} {args : Array Value} {below : List Frame} {meth : Method} {c : Code} {z0 u0 n : Nat} (C : Cx G p s m args meth c prog_14_method_5_code 1 "BellPlateModel" ((some FieldType.boolean))) (IH : I_Md_isLetter G p l e s m args below meth c z0 u0 n)  (σ : AM) : VX (QM eI G args s below z0 u0) G p l e s m args below meth c 0 z0 u0 1 (lpK (lpn F_Md_isLetter n) (T_Md_isLetter_1  σ)) 16 [] [] σ := by
  unfold T_Md_isLetter_1
  refine x_iconst (v := (0 : Int32)) C d_Md_isLetter_16 (by decide) ?_
  exact IH.2.2 ((0 : Int32)) (σ)
set_option maxRecDepth 20000 in
theorem s_Md_isLetter_2 {G : GX} {p : Program} {l : Launch} {e : Env} {s : State} {m : MethodId} {args : Array Value} {below : List Frame} {meth : Method} {c : Code} {z0 u0 n : Nat} (C : Cx G p s m args meth c prog_14_method_5_code 1 "BellPlateModel" ((some FieldType.boolean))) (IH : I_Md_isLetter G p l e s m args below meth c z0 u0 n) (s0I : Int32) (σ : AM) : VX (QM eI G args s below z0 u0) G p l e s m args below meth c 0 z0 u0 1 (lpK (lpn F_Md_isLetter n) (T_Md_isLetter_2 s0I σ)) 17 [] [.int s0I] σ := by
  unfold T_Md_isLetter_2
  refine x_gd (fun h1 => ?_)
  exact x_zret C (isB_narrow h1) d_Md_isLetter_17
theorem i_Md_isLetter {G : GX} {p : Program} {l : Launch} {e : Env} {s : State} {m : MethodId} {args : Array Value} {below : List Frame} {meth : Method} {c : Code} {z0 u0 : Nat} (C : Cx G p s m args meth c prog_14_method_5_code 1 "BellPlateModel" ((some FieldType.boolean))) (n : Nat) : I_Md_isLetter G p l e s m args below meth c z0 u0 n := by
  induction n with
  | zero => exact ⟨fun _ _ => x_none, fun _ => x_none, fun _ _ => x_none⟩
  | succ n IH => exact ⟨fun v0I σ => s_Md_isLetter_0 C IH v0I σ, fun σ => s_Md_isLetter_1 C IH σ, fun s0I σ => s_Md_isLetter_2 C IH s0I σ⟩
theorem c_Md_isLetter (G : GX) (l : Launch) (v0I : Int32) (σ : AM) : CT eI G l 0 y_Md_isLetter prog_14_method_5_code 1 ((some FieldType.boolean)) [.int v0I] σ (M_Md_isLetter v0I σ) := by
  refine ct_of (by decide +kernel) (Nat.le_of_ble_eq_true rfl) (fun p e s m args below meth c C hin => ?_)
  refine x_lve (lv' := [(0, .int v0I)]) rfl ?_
  intro r σ' h
  obtain ⟨n, hn⟩ := (lp_iff _ _ _).mp h
  exact (i_Md_isLetter C n).1 v0I σ r σ' hn
/-! BellPlateModel.isDigit(I)Z -/
abbrev y_Md_isDigit : MethodName := ⟨"BellPlateModel", "isDigit", "(I)Z"⟩
theorem k_Md_isDigit : y_Md_isDigit.cls ≠ "java/lang/invoke/MethodHandle" ∧ y_Md_isDigit.cls ≠ "java/lang/invoke/VarHandle" ∧ (parseMethodDescriptor y_Md_isDigit.desc).map (fun d => d.parameters.length) = some 1 := by decide +kernel
theorem d_Md_isDigit_0 : decode prog_14_method_6_code 0 = .ok (.iload_n 0, 1) := by decide +kernel
theorem d_Md_isDigit_1 : decode prog_14_method_6_code 1 = .ok (.bipush 48, 2) := by decide +kernel
theorem d_Md_isDigit_3 : decode prog_14_method_6_code 3 = .ok (.if_icmp .lt 13, 3) := by decide +kernel
theorem d_Md_isDigit_6 : decode prog_14_method_6_code 6 = .ok (.iload_n 0, 1) := by decide +kernel
theorem d_Md_isDigit_7 : decode prog_14_method_6_code 7 = .ok (.bipush 57, 2) := by decide +kernel
theorem d_Md_isDigit_9 : decode prog_14_method_6_code 9 = .ok (.if_icmp .gt 7, 3) := by decide +kernel
theorem d_Md_isDigit_12 : decode prog_14_method_6_code 12 = .ok (.iconst 1, 1) := by decide +kernel
theorem d_Md_isDigit_13 : decode prog_14_method_6_code 13 = .ok (.goto 4, 3) := by decide +kernel
theorem d_Md_isDigit_16 : decode prog_14_method_6_code 16 = .ok (.iconst 0, 1) := by decide +kernel
theorem d_Md_isDigit_17 : decode prog_14_method_6_code 17 = .ok (.ireturn, 1) := by decide +kernel
abbrev S_Md_isDigit : Type := Nat × Int32 × Int32 × AM
noncomputable def T_Md_isDigit_0 (v0I : Int32) (σ : AM) : S_Md_isDigit ⊕ Option (Int32 × AM) :=
  if v0I < (48 : Int32) then (.inl (1, 0, 0, σ)) else (if (57 : Int32) < v0I then (.inl (1, 0, 0, σ)) else (.inl (2, 0, (1 : Int32), σ)))
noncomputable def T_Md_isDigit_1  (σ : AM) : S_Md_isDigit ⊕ Option (Int32 × AM) :=
  .inl (2, 0, (0 : Int32), σ)
noncomputable def T_Md_isDigit_2 (s0I : Int32) (σ : AM) : S_Md_isDigit ⊕ Option (Int32 × AM) :=
  gdT (isB s0I) <| .inr (some (s0I, σ))
noncomputable def F_Md_isDigit : S_Md_isDigit → S_Md_isDigit ⊕ Option (Int32 × AM) := fun s => match s.1 with
  | 0 => T_Md_isDigit_0 (s.2.1) (s.2.2.2)
  | 1 => T_Md_isDigit_1  (s.2.2.2)
  | _ => T_Md_isDigit_2 (s.2.2.1) (s.2.2.2)
noncomputable def L_Md_isDigit_0 (v0I : Int32) (σ : AM) : Option (Int32 × AM) := lp F_Md_isDigit (0, v0I, 0, σ)
noncomputable def L_Md_isDigit_1  (σ : AM) : Option (Int32 × AM) := lp F_Md_isDigit (1, 0, 0, σ)
noncomputable def L_Md_isDigit_2 (s0I : Int32) (σ : AM) : Option (Int32 × AM) := lp F_Md_isDigit (2, 0, s0I, σ)
set_option maxRecDepth 20000 in
theorem E_Md_isDigit_0 (v0I : Int32) (σ : AM) : L_Md_isDigit_0 v0I σ = (if v0I < (48 : Int32) then (L_Md_isDigit_1 σ) else (if (57 : Int32) < v0I then (L_Md_isDigit_1 σ) else (L_Md_isDigit_2 ((1 : Int32)) σ))) := by
  unfold L_Md_isDigit_0
  rw [lp_eq]
  show lpK (lp F_Md_isDigit) (T_Md_isDigit_0 v0I σ) = _
  unfold T_Md_isDigit_0
  simp only [lpK_ite, lq_inl, lq_inr, lpK_bnd, lpK_gd, lq_let]
  try rfl
set_option maxRecDepth 20000 in
theorem E_Md_isDigit_1  (σ : AM) : L_Md_isDigit_1  σ = (L_Md_isDigit_2 ((0 : Int32)) σ) := by
  unfold L_Md_isDigit_1
  rw [lp_eq]
  show lpK (lp F_Md_isDigit) (T_Md_isDigit_1  σ) = _
  unfold T_Md_isDigit_1
  simp only [lpK_ite, lq_inl, lq_inr, lpK_bnd, lpK_gd, lq_let]
  try rfl
set_option maxRecDepth 20000 in
theorem E_Md_isDigit_2 (s0I : Int32) (σ : AM) : L_Md_isDigit_2 s0I σ = (gd (isB s0I) <| (some (s0I, σ))) := by
  unfold L_Md_isDigit_2
  rw [lp_eq]
  show lpK (lp F_Md_isDigit) (T_Md_isDigit_2 s0I σ) = _
  unfold T_Md_isDigit_2
  simp only [lpK_ite, lq_inl, lq_inr, lpK_bnd, lpK_gd, lq_let]
  try rfl
noncomputable def M_Md_isDigit (v0I : Int32) (σ : AM) : Option (Int32 × AM) := mw σ (L_Md_isDigit_0 v0I σ)
def I_Md_isDigit (G : GX) (p : Program) (l : Launch) (e : Env) (s : State) (m : MethodId) (args : Array Value) (below : List Frame) (meth : Method) (c : Code) (z0 u0 n : Nat) : Prop :=
  (∀ (v0I : Int32) (σ : AM), VX (QM eI G args s below z0 u0) G p l e s m args below meth c 0 z0 u0 1 (lpn F_Md_isDigit n (0, v0I, 0, σ)) 0 [(0, .int v0I)] [] σ) ∧
  (∀ (σ : AM), VX (QM eI G args s below z0 u0) G p l e s m args below meth c 0 z0 u0 1 (lpn F_Md_isDigit n (1, 0, 0, σ)) 16 [] [] σ) ∧
  (∀ (s0I : Int32) (σ : AM), VX (QM eI G args s below z0 u0) G p l e s m args below meth c 0 z0 u0 1 (lpn F_Md_isDigit n (2, 0, s0I, σ)) 17 [] [.int s0I] σ)
set_option maxRecDepth 20000 in
theorem s_Md_isDigit_0 {G : GX} {p : Program} {l : Launch} {e : Env} {s : State} {m : MethodId} {args : Array Value} {below : List Frame} {meth : Method} {c : Code} {z0 u0 n : Nat} (C : Cx G p s m args meth c prog_14_method_6_code 1 "BellPlateModel" ((some FieldType.boolean))) (IH : I_Md_isDigit G p l e s m args below meth c z0 u0 n) (v0I : Int32) (σ : AM) : VX (QM eI G args s below z0 u0) G p l e s m args below meth c 0 z0 u0 1 (lpK (lpn F_Md_isDigit n) (T_Md_isDigit_0 v0I σ)) 0 [(0, .int v0I)] [] σ := by
  unfold T_Md_isDigit_0
  refine x_iload_n C d_Md_isDigit_0 0 rfl ?_
  refine x_bipush (v := (48 : Int32)) C d_Md_isDigit_1 (by decide) ?_
  refine x_icmp_lt (tgt := 16) C d_Md_isDigit_3 (by decide) (fun _ => ?_) (fun _ => ?_)
  · refine x_lv [] rfl ?_
    exact IH.2.1  (σ)
  · refine x_iload_n C d_Md_isDigit_6 0 rfl ?_
    refine x_bipush (v := (57 : Int32)) C d_Md_isDigit_7 (by decide) ?_
    refine x_icmp_gt (tgt := 16) C d_Md_isDigit_9 (by decide) (fun _ => ?_) (fun _ => ?_)
    · refine x_lv [] rfl ?_
      exact IH.2.1  (σ)
    · refine x_iconst (v := (1 : Int32)) C d_Md_isDigit_12 (by decide) ?_
      refine x_goto (tgt := 17) C d_Md_isDigit_13 (by decide) ?_
      refine x_lv [] rfl ?_
      exact IH.2.2 ((1 : Int32)) (σ)
set_option maxRecDepth 20000 in
theorem s_Md_isDigit_1 {G : GX} {p : Program} {l : Launch} {e : Env} {s : State} {m : MethodId} {args : Array Value} {below : List Frame} {meth : Method} {c : Code} {z0 u0 n : Nat} (C : Cx G p s m args meth c prog_14_method_6_code 1 "BellPlateModel" ((some FieldType.boolean))) (IH : I_Md_isDigit G p l e s m args below meth c z0 u0 n)  (σ : AM) : VX (QM eI G args s below z0 u0) G p l e s m args below meth c 0 z0 u0 1 (lpK (lpn F_Md_isDigit n) (T_Md_isDigit_1  σ)) 16 [] [] σ := by
  unfold T_Md_isDigit_1
  refine x_iconst (v := (0 : Int32)) C d_Md_isDigit_16 (by decide) ?_
  exact IH.2.2 ((0 : Int32)) (σ)
set_option maxRecDepth 20000 in
theorem s_Md_isDigit_2 {G : GX} {p : Program} {l : Launch} {e : Env} {s : State} {m : MethodId} {args : Array Value} {below : List Frame} {meth : Method} {c : Code} {z0 u0 n : Nat} (C : Cx G p s m args meth c prog_14_method_6_code 1 "BellPlateModel" ((some FieldType.boolean))) (IH : I_Md_isDigit G p l e s m args below meth c z0 u0 n) (s0I : Int32) (σ : AM) : VX (QM eI G args s below z0 u0) G p l e s m args below meth c 0 z0 u0 1 (lpK (lpn F_Md_isDigit n) (T_Md_isDigit_2 s0I σ)) 17 [] [.int s0I] σ := by
  unfold T_Md_isDigit_2
  refine x_gd (fun h1 => ?_)
  exact x_zret C (isB_narrow h1) d_Md_isDigit_17
theorem i_Md_isDigit {G : GX} {p : Program} {l : Launch} {e : Env} {s : State} {m : MethodId} {args : Array Value} {below : List Frame} {meth : Method} {c : Code} {z0 u0 : Nat} (C : Cx G p s m args meth c prog_14_method_6_code 1 "BellPlateModel" ((some FieldType.boolean))) (n : Nat) : I_Md_isDigit G p l e s m args below meth c z0 u0 n := by
  induction n with
  | zero => exact ⟨fun _ _ => x_none, fun _ => x_none, fun _ _ => x_none⟩
  | succ n IH => exact ⟨fun v0I σ => s_Md_isDigit_0 C IH v0I σ, fun σ => s_Md_isDigit_1 C IH σ, fun s0I σ => s_Md_isDigit_2 C IH s0I σ⟩
theorem c_Md_isDigit (G : GX) (l : Launch) (v0I : Int32) (σ : AM) : CT eI G l 0 y_Md_isDigit prog_14_method_6_code 1 ((some FieldType.boolean)) [.int v0I] σ (M_Md_isDigit v0I σ) := by
  refine ct_of (by decide +kernel) (Nat.le_of_ble_eq_true rfl) (fun p e s m args below meth c C hin => ?_)
  refine x_lve (lv' := [(0, .int v0I)]) rfl ?_
  intro r σ' h
  obtain ⟨n, hn⟩ := (lp_iff _ _ _).mp h
  exact (i_Md_isDigit C n).1 v0I σ r σ' hn
/-! BellPlateModel.rank(I)I -/
abbrev y_Md_rank : MethodName := ⟨"BellPlateModel", "rank", "(I)I"⟩
theorem k_Md_rank : y_Md_rank.cls ≠ "java/lang/invoke/MethodHandle" ∧ y_Md_rank.cls ≠ "java/lang/invoke/VarHandle" ∧ (parseMethodDescriptor y_Md_rank.desc).map (fun d => d.parameters.length) = some 1 := by decide +kernel
theorem d_Md_rank_0 : decode prog_14_method_7_code 0 = .ok (.iload_n 0, 1) := by decide +kernel
theorem d_Md_rank_1 : decode prog_14_method_7_code 1 = .ok (.invokestatic 170, 3) := by decide +kernel
theorem d_Md_rank_4 : decode prog_14_method_7_code 4 = .ok (.ifCond .eq 10, 3) := by decide +kernel
theorem d_Md_rank_7 : decode prog_14_method_7_code 7 = .ok (.iload_n 0, 1) := by decide +kernel
theorem d_Md_rank_8 : decode prog_14_method_7_code 8 = .ok (.bipush 96, 2) := by decide +kernel
theorem d_Md_rank_10 : decode prog_14_method_7_code 10 = .ok (.isub, 1) := by decide +kernel
theorem d_Md_rank_11 : decode prog_14_method_7_code 11 = .ok (.goto 7, 3) := by decide +kernel
theorem d_Md_rank_14 : decode prog_14_method_7_code 14 = .ok (.iload_n 0, 1) := by decide +kernel
theorem d_Md_rank_15 : decode prog_14_method_7_code 15 = .ok (.bipush 21, 2) := by decide +kernel
theorem d_Md_rank_17 : decode prog_14_method_7_code 17 = .ok (.isub, 1) := by decide +kernel
theorem d_Md_rank_18 : decode prog_14_method_7_code 18 = .ok (.ireturn, 1) := by decide +kernel
abbrev S_Md_rank : Type := Nat × Int32 × Int32 × AM
noncomputable def T_Md_rank_0 (v0I : Int32) (σ : AM) : S_Md_rank ⊕ Option (Int32 × AM) :=
  bndT (M_Md_isLetter v0I σ) fun r1 σ2 => if r1 = 0 then (.inl (1, 0, v0I - (21 : Int32), σ2)) else (.inl (1, 0, v0I - (96 : Int32), σ2))
noncomputable def T_Md_rank_1 (s0I : Int32) (σ : AM) : S_Md_rank ⊕ Option (Int32 × AM) :=
  .inr (some (s0I, σ))
noncomputable def F_Md_rank : S_Md_rank → S_Md_rank ⊕ Option (Int32 × AM) := fun s => match s.1 with
  | 0 => T_Md_rank_0 (s.2.1) (s.2.2.2)
  | _ => T_Md_rank_1 (s.2.2.1) (s.2.2.2)
noncomputable def L_Md_rank_0 (v0I : Int32) (σ : AM) : Option (Int32 × AM) := lp F_Md_rank (0, v0I, 0, σ)
noncomputable def L_Md_rank_1 (s0I : Int32) (σ : AM) : Option (Int32 × AM) := lp F_Md_rank (1, 0, s0I, σ)
set_option maxRecDepth 20000 in
theorem E_Md_rank_0 (v0I : Int32) (σ : AM) : L_Md_rank_0 v0I σ = (bnd (M_Md_isLetter v0I σ) fun r1 σ2 => if r1 = 0 then (L_Md_rank_1 (v0I - (21 : Int32)) σ2) else (L_Md_rank_1 (v0I - (96 : Int32)) σ2)) := by
  unfold L_Md_rank_0
  rw [lp_eq]
  show lpK (lp F_Md_rank) (T_Md_rank_0 v0I σ) = _
  unfold T_Md_rank_0
  simp only [lpK_ite, lq_inl, lq_inr, lpK_bnd, lpK_gd, lq_let]
  try rfl
set_option maxRecDepth 20000 in
theorem E_Md_rank_1 (s0I : Int32) (σ : AM) : L_Md_rank_1 s0I σ = ((some (s0I, σ))) := by
  unfold L_Md_rank_1
  rw [lp_eq]
  show lpK (lp F_Md_rank) (T_Md_rank_1 s0I σ) = _
  unfold T_Md_rank_1
  simp only [lpK_ite, lq_inl, lq_inr, lpK_bnd, lpK_gd, lq_let]
  try rfl
noncomputable def M_Md_rank (v0I : Int32) (σ : AM) : Option (Int32 × AM) := mw σ (L_Md_rank_0 v0I σ)
def I_Md_rank (G : GX) (p : Program) (l : Launch) (e : Env) (s : State) (m : MethodId) (args : Array Value) (below : List Frame) (meth : Method) (c : Code) (z0 u0 n : Nat) : Prop :=
  (∀ (v0I : Int32) (σ : AM), VX (QM eI G args s below z0 u0) G p l e s m args below meth c 1 z0 u0 1 (lpn F_Md_rank n (0, v0I, 0, σ)) 0 [(0, .int v0I)] [] σ) ∧
  (∀ (s0I : Int32) (σ : AM), VX (QM eI G args s below z0 u0) G p l e s m args below meth c 1 z0 u0 1 (lpn F_Md_rank n (1, 0, s0I, σ)) 18 [] [.int s0I] σ)
set_option maxRecDepth 20000 in
theorem s_Md_rank_0 {G : GX} {p : Program} {l : Launch} {e : Env} {s : State} {m : MethodId} {args : Array Value} {below : List Frame} {meth : Method} {c : Code} {z0 u0 n : Nat} (C : Cx G p s m args meth c prog_14_method_7_code 1 "BellPlateModel" ((some FieldType.int))) (IH : I_Md_rank G p l e s m args below meth c z0 u0 n) (v0I : Int32) (σ : AM) : VX (QM eI G args s below z0 u0) G p l e s m args below meth c 1 z0 u0 1 (lpK (lpn F_Md_rank n) (T_Md_rank_0 v0I σ)) 0 [(0, .int v0I)] [] σ := by
  unfold T_Md_rank_0
  refine x_iload_n C d_Md_rank_0 0 rfl ?_
  refine x_callSI (As := [.int v0I]) C (c_Md_isLetter G l v0I σ) w2090 w2089 w2091 w134 k_Md_isLetter rfl (by decide) (by decide) rfl (Nat.le_of_ble_eq_true rfl) d_Md_rank_1 (fun r1 σ2 => ?_)
  refine x_if_eq (tgt := 14) C d_Md_rank_4 (by decide) (fun _ => ?_) (fun _ => ?_)
  · refine x_iload_n C d_Md_rank_14 0 rfl ?_
    refine x_bipush (v := (21 : Int32)) C d_Md_rank_15 (by decide) ?_
    refine x_isub C d_Md_rank_17 ?_
    refine x_lv [] rfl ?_
    exact IH.2 (v0I - (21 : Int32)) (σ2)
  · refine x_iload_n C d_Md_rank_7 0 rfl ?_
    refine x_bipush (v := (96 : Int32)) C d_Md_rank_8 (by decide) ?_
    refine x_isub C d_Md_rank_10 ?_
    refine x_goto (tgt := 18) C d_Md_rank_11 (by decide) ?_
    refine x_lv [] rfl ?_
    exact IH.2 (v0I - (96 : Int32)) (σ2)
set_option maxRecDepth 20000 in
theorem s_Md_rank_1 {G : GX} {p : Program} {l : Launch} {e : Env} {s : State} {m : MethodId} {args : Array Value} {below : List Frame} {meth : Method} {c : Code} {z0 u0 n : Nat} (C : Cx G p s m args meth c prog_14_method_7_code 1 "BellPlateModel" ((some FieldType.int))) (IH : I_Md_rank G p l e s m args below meth c z0 u0 n) (s0I : Int32) (σ : AM) : VX (QM eI G args s below z0 u0) G p l e s m args below meth c 1 z0 u0 1 (lpK (lpn F_Md_rank n) (T_Md_rank_1 s0I σ)) 18 [] [.int s0I] σ := by
  unfold T_Md_rank_1
  exact x_iret C d_Md_rank_18
theorem i_Md_rank {G : GX} {p : Program} {l : Launch} {e : Env} {s : State} {m : MethodId} {args : Array Value} {below : List Frame} {meth : Method} {c : Code} {z0 u0 : Nat} (C : Cx G p s m args meth c prog_14_method_7_code 1 "BellPlateModel" ((some FieldType.int))) (n : Nat) : I_Md_rank G p l e s m args below meth c z0 u0 n := by
  induction n with
  | zero => exact ⟨fun _ _ => x_none, fun _ _ => x_none⟩
  | succ n IH => exact ⟨fun v0I σ => s_Md_rank_0 C IH v0I σ, fun s0I σ => s_Md_rank_1 C IH s0I σ⟩
theorem c_Md_rank (G : GX) (l : Launch) (v0I : Int32) (σ : AM) : CT eI G l 1 y_Md_rank prog_14_method_7_code 1 ((some FieldType.int)) [.int v0I] σ (M_Md_rank v0I σ) := by
  refine ct_of (by decide +kernel) (Nat.le_of_ble_eq_true rfl) (fun p e s m args below meth c C hin => ?_)
  refine x_lve (lv' := [(0, .int v0I)]) rfl ?_
  intro r σ' h
  obtain ⟨n, hn⟩ := (lp_iff _ _ _).mp h
  exact (i_Md_rank C n).1 v0I σ r σ' hn
/-! BellPlateModel.isSignOf(I)Z -/
abbrev y_Md_isSignOf : MethodName := ⟨"BellPlateModel", "isSignOf", "(I)Z"⟩
theorem k_Md_isSignOf : y_Md_isSignOf.cls ≠ "java/lang/invoke/MethodHandle" ∧ y_Md_isSignOf.cls ≠ "java/lang/invoke/VarHandle" ∧ (parseMethodDescriptor y_Md_isSignOf.desc).map (fun d => d.parameters.length) = some 1 := by decide +kernel
theorem d_Md_isSignOf_0 : decode prog_14_method_8_code 0 = .ok (.iload_n 0, 1) := by decide +kernel
theorem d_Md_isSignOf_1 : decode prog_14_method_8_code 1 = .ok (.bipush 40, 2) := by decide +kernel
theorem d_Md_isSignOf_3 : decode prog_14_method_8_code 3 = .ok (.if_icmp .eq 45, 3) := by decide +kernel
theorem d_Md_isSignOf_6 : decode prog_14_method_8_code 6 = .ok (.iload_n 0, 1) := by decide +kernel
theorem d_Md_isSignOf_7 : decode prog_14_method_8_code 7 = .ok (.bipush 41, 2) := by decide +kernel
theorem d_Md_isSignOf_9 : decode prog_14_method_8_code 9 = .ok (.if_icmp .eq 39, 3) := by decide +kernel
theorem d_Md_isSignOf_12 : decode prog_14_method_8_code 12 = .ok (.iload_n 0, 1) := by decide +kernel
theorem d_Md_isSignOf_13 : decode prog_14_method_8_code 13 = .ok (.bipush 59, 2) := by decide +kernel
theorem d_Md_isSignOf_15 : decode prog_14_method_8_code 15 = .ok (.if_icmp .eq 33, 3) := by decide +kernel
theorem d_Md_isSignOf_18 : decode prog_14_method_8_code 18 = .ok (.iload_n 0, 1) := by decide +kernel
theorem d_Md_isSignOf_19 : decode prog_14_method_8_code 19 = .ok (.bipush 61, 2) := by decide +kernel
theorem d_Md_isSignOf_21 : decode prog_14_method_8_code 21 = .ok (.if_icmp .eq 27, 3) := by decide +kernel
theorem d_Md_isSignOf_24 : decode prog_14_method_8_code 24 = .ok (.iload_n 0, 1) := by decide +kernel
theorem d_Md_isSignOf_25 : decode prog_14_method_8_code 25 = .ok (.bipush 60, 2) := by decide +kernel
theorem d_Md_isSignOf_27 : decode prog_14_method_8_code 27 = .ok (.if_icmp .eq 21, 3) := by decide +kernel
theorem d_Md_isSignOf_30 : decode prog_14_method_8_code 30 = .ok (.iload_n 0, 1) := by decide +kernel
theorem d_Md_isSignOf_31 : decode prog_14_method_8_code 31 = .ok (.bipush 43, 2) := by decide +kernel
theorem d_Md_isSignOf_33 : decode prog_14_method_8_code 33 = .ok (.if_icmp .eq 15, 3) := by decide +kernel
theorem d_Md_isSignOf_36 : decode prog_14_method_8_code 36 = .ok (.iload_n 0, 1) := by decide +kernel
theorem d_Md_isSignOf_37 : decode prog_14_method_8_code 37 = .ok (.bipush 45, 2) := by decide +kernel
theorem d_Md_isSignOf_39 : decode prog_14_method_8_code 39 = .ok (.if_icmp .eq 9, 3) := by decide +kernel
theorem d_Md_isSignOf_42 : decode prog_14_method_8_code 42 = .ok (.iload_n 0, 1) := by decide +kernel
theorem d_Md_isSignOf_43 : decode prog_14_method_8_code 43 = .ok (.bipush 42, 2) := by decide +kernel
theorem d_Md_isSignOf_45 : decode prog_14_method_8_code 45 = .ok (.if_icmp .ne 7, 3) := by decide +kernel
theorem d_Md_isSignOf_48 : decode prog_14_method_8_code 48 = .ok (.iconst 1, 1) := by decide +kernel
theorem d_Md_isSignOf_49 : decode prog_14_method_8_code 49 = .ok (.goto 4, 3) := by decide +kernel
theorem d_Md_isSignOf_52 : decode prog_14_method_8_code 52 = .ok (.iconst 0, 1) := by decide +kernel
theorem d_Md_isSignOf_53 : decode prog_14_method_8_code 53 = .ok (.ireturn, 1) := by decide +kernel
abbrev S_Md_isSignOf : Type := Nat × Int32 × Int32 × AM
noncomputable def T_Md_isSignOf_0 (v0I : Int32) (σ : AM) : S_Md_isSignOf ⊕ Option (Int32 × AM) :=
  if v0I = (40 : Int32) then (.inl (1, 0, 0, σ)) else (if v0I = (41 : Int32) then (.inl (1, 0, 0, σ)) else (if v0I = (59 : Int32) then (.inl (1, 0, 0, σ)) else (if v0I = (61 : Int32) then (.inl (1, 0, 0, σ)) else (if v0I = (60 : Int32) then (.inl (1, 0, 0, σ)) else (if v0I = (43 : Int32) then (.inl (1, 0, 0, σ)) else (if v0I = (45 : Int32) then (.inl (1, 0, 0, σ)) else (if v0I = (42 : Int32) then (.inl (1, 0, 0, σ)) else (.inl (2, 0, (0 : Int32), σ)))))))))
noncomputable def T_Md_isSignOf_1  (σ : AM) : S_Md_isSignOf ⊕ Option (Int32 × AM) :=
  .inl (2, 0, (1 : Int32), σ)
noncomputable def T_Md_isSignOf_2 (s0I : Int32) (σ : AM) : S_Md_isSignOf ⊕ Option (Int32 × AM) :=
  gdT (isB s0I) <| .inr (some (s0I, σ))
noncomputable def F_Md_isSignOf : S_Md_isSignOf → S_Md_isSignOf ⊕ Option (Int32 × AM) := fun s => match s.1 with
  | 0 => T_Md_isSignOf_0 (s.2.1) (s.2.2.2)
  | 1 => T_Md_isSignOf_1  (s.2.2.2)
  | _ => T_Md_isSignOf_2 (s.2.2.1) (s.2.2.2)
noncomputable def L_Md_isSignOf_0 (v0I : Int32) (σ : AM) : Option (Int32 × AM) := lp F_Md_isSignOf (0, v0I, 0, σ)
noncomputable def L_Md_isSignOf_1  (σ : AM) : Option (Int32 × AM) := lp F_Md_isSignOf (1, 0, 0, σ)
noncomputable def L_Md_isSignOf_2 (s0I : Int32) (σ : AM) : Option (Int32 × AM) := lp F_Md_isSignOf (2, 0, s0I, σ)
set_option maxRecDepth 20000 in
theorem E_Md_isSignOf_0 (v0I : Int32) (σ : AM) : L_Md_isSignOf_0 v0I σ = (if v0I = (40 : Int32) then (L_Md_isSignOf_1 σ) else (if v0I = (41 : Int32) then (L_Md_isSignOf_1 σ) else (if v0I = (59 : Int32) then (L_Md_isSignOf_1 σ) else (if v0I = (61 : Int32) then (L_Md_isSignOf_1 σ) else (if v0I = (60 : Int32) then (L_Md_isSignOf_1 σ) else (if v0I = (43 : Int32) then (L_Md_isSignOf_1 σ) else (if v0I = (45 : Int32) then (L_Md_isSignOf_1 σ) else (if v0I = (42 : Int32) then (L_Md_isSignOf_1 σ) else (L_Md_isSignOf_2 ((0 : Int32)) σ))))))))) := by
  unfold L_Md_isSignOf_0
  rw [lp_eq]
  show lpK (lp F_Md_isSignOf) (T_Md_isSignOf_0 v0I σ) = _
  unfold T_Md_isSignOf_0
  simp only [lpK_ite, lq_inl, lq_inr, lpK_bnd, lpK_gd, lq_let]
  try rfl
set_option maxRecDepth 20000 in
theorem E_Md_isSignOf_1  (σ : AM) : L_Md_isSignOf_1  σ = (L_Md_isSignOf_2 ((1 : Int32)) σ) := by
  unfold L_Md_isSignOf_1
  rw [lp_eq]
  show lpK (lp F_Md_isSignOf) (T_Md_isSignOf_1  σ) = _
  unfold T_Md_isSignOf_1
  simp only [lpK_ite, lq_inl, lq_inr, lpK_bnd, lpK_gd, lq_let]
  try rfl
set_option maxRecDepth 20000 in
theorem E_Md_isSignOf_2 (s0I : Int32) (σ : AM) : L_Md_isSignOf_2 s0I σ = (gd (isB s0I) <| (some (s0I, σ))) := by
  unfold L_Md_isSignOf_2
  rw [lp_eq]
  show lpK (lp F_Md_isSignOf) (T_Md_isSignOf_2 s0I σ) = _
  unfold T_Md_isSignOf_2
  simp only [lpK_ite, lq_inl, lq_inr, lpK_bnd, lpK_gd, lq_let]
  try rfl
noncomputable def M_Md_isSignOf (v0I : Int32) (σ : AM) : Option (Int32 × AM) := mw σ (L_Md_isSignOf_0 v0I σ)
def I_Md_isSignOf (G : GX) (p : Program) (l : Launch) (e : Env) (s : State) (m : MethodId) (args : Array Value) (below : List Frame) (meth : Method) (c : Code) (z0 u0 n : Nat) : Prop :=
  (∀ (v0I : Int32) (σ : AM), VX (QM eI G args s below z0 u0) G p l e s m args below meth c 0 z0 u0 1 (lpn F_Md_isSignOf n (0, v0I, 0, σ)) 0 [(0, .int v0I)] [] σ) ∧
  (∀ (σ : AM), VX (QM eI G args s below z0 u0) G p l e s m args below meth c 0 z0 u0 1 (lpn F_Md_isSignOf n (1, 0, 0, σ)) 48 [] [] σ) ∧
  (∀ (s0I : Int32) (σ : AM), VX (QM eI G args s below z0 u0) G p l e s m args below meth c 0 z0 u0 1 (lpn F_Md_isSignOf n (2, 0, s0I, σ)) 53 [] [.int s0I] σ)
set_option maxRecDepth 20000 in
theorem s_Md_isSignOf_0 {G : GX} {p : Program} {l : Launch} {e : Env} {s : State} {m : MethodId} {args : Array Value} {below : List Frame} {meth : Method} {c : Code} {z0 u0 n : Nat} (C : Cx G p s m args meth c prog_14_method_8_code 1 "BellPlateModel" ((some FieldType.boolean))) (IH : I_Md_isSignOf G p l e s m args below meth c z0 u0 n) (v0I : Int32) (σ : AM) : VX (QM eI G args s below z0 u0) G p l e s m args below meth c 0 z0 u0 1 (lpK (lpn F_Md_isSignOf n) (T_Md_isSignOf_0 v0I σ)) 0 [(0, .int v0I)] [] σ := by
  unfold T_Md_isSignOf_0
  refine x_iload_n C d_Md_isSignOf_0 0 rfl ?_
  refine x_bipush (v := (40 : Int32)) C d_Md_isSignOf_1 (by decide) ?_
  refine x_icmp_eq (tgt := 48) C d_Md_isSignOf_3 (by decide) (fun _ => ?_) (fun _ => ?_)
  · refine x_lv [] rfl ?_
    exact IH.2.1  (σ)
  · refine x_iload_n C d_Md_isSignOf_6 0 rfl ?_
    refine x_bipush (v := (41 : Int32)) C d_Md_isSignOf_7 (by decide) ?_
    refine x_icmp_eq (tgt := 48) C d_Md_isSignOf_9 (by decide) (fun _ => ?_) (fun _ => ?_)
    · refine x_lv [] rfl ?_
      exact IH.2.1  (σ)
    · refine x_iload_n C d_Md_isSignOf_12 0 rfl ?_
      refine x_bipush (v := (59 : Int32)) C d_Md_isSignOf_13 (by decide) ?_
      refine x_icmp_eq (tgt := 48) C d_Md_isSignOf_15 (by decide) (fun _ => ?_) (fun _ => ?_)
      · refine x_lv [] rfl ?_
        exact IH.2.1  (σ)
      · refine x_iload_n C d_Md_isSignOf_18 0 rfl ?_
        refine x_bipush (v := (61 : Int32)) C d_Md_isSignOf_19 (by decide) ?_
        refine x_icmp_eq (tgt := 48) C d_Md_isSignOf_21 (by decide) (fun _ => ?_) (fun _ => ?_)
        · refine x_lv [] rfl ?_
          exact IH.2.1  (σ)
        · refine x_iload_n C d_Md_isSignOf_24 0 rfl ?_
          refine x_bipush (v := (60 : Int32)) C d_Md_isSignOf_25 (by decide) ?_
          refine x_icmp_eq (tgt := 48) C d_Md_isSignOf_27 (by decide) (fun _ => ?_) (fun _ => ?_)
          · refine x_lv [] rfl ?_
            exact IH.2.1  (σ)
          · refine x_iload_n C d_Md_isSignOf_30 0 rfl ?_
            refine x_bipush (v := (43 : Int32)) C d_Md_isSignOf_31 (by decide) ?_
            refine x_icmp_eq (tgt := 48) C d_Md_isSignOf_33 (by decide) (fun _ => ?_) (fun _ => ?_)
            · refine x_lv [] rfl ?_
              exact IH.2.1  (σ)
            · refine x_iload_n C d_Md_isSignOf_36 0 rfl ?_
              refine x_bipush (v := (45 : Int32)) C d_Md_isSignOf_37 (by decide) ?_
              refine x_icmp_eq (tgt := 48) C d_Md_isSignOf_39 (by decide) (fun _ => ?_) (fun _ => ?_)
              · refine x_lv [] rfl ?_
                exact IH.2.1  (σ)
              · refine x_iload_n C d_Md_isSignOf_42 0 rfl ?_
                refine x_bipush (v := (42 : Int32)) C d_Md_isSignOf_43 (by decide) ?_
                refine x_icmp_ne (tgt := 52) C d_Md_isSignOf_45 (by decide) (fun _ => ?_) (fun _ => ?_)
                · refine x_lv [] rfl ?_
                  exact IH.2.1  (σ)
                · refine x_iconst (v := (0 : Int32)) C d_Md_isSignOf_52 (by decide) ?_
                  refine x_lv [] rfl ?_
                  exact IH.2.2 ((0 : Int32)) (σ)
set_option maxRecDepth 20000 in
theorem s_Md_isSignOf_1 {G : GX} {p : Program} {l : Launch} {e : Env} {s : State} {m : MethodId} {args : Array Value} {below : List Frame} {meth : Method} {c : Code} {z0 u0 n : Nat} (C : Cx G p s m args meth c prog_14_method_8_code 1 "BellPlateModel" ((some FieldType.boolean))) (IH : I_Md_isSignOf G p l e s m args below meth c z0 u0 n)  (σ : AM) : VX (QM eI G args s below z0 u0) G p l e s m args below meth c 0 z0 u0 1 (lpK (lpn F_Md_isSignOf n) (T_Md_isSignOf_1  σ)) 48 [] [] σ := by
  unfold T_Md_isSignOf_1
  refine x_iconst (v := (1 : Int32)) C d_Md_isSignOf_48 (by decide) ?_
  refine x_goto (tgt := 53) C d_Md_isSignOf_49 (by decide) ?_
  exact IH.2.2 ((1 : Int32)) (σ)
set_option maxRecDepth 20000 in
theorem s_Md_isSignOf_2 {G : GX} {p : Program} {l : Launch} {e : Env} {s : State} {m : MethodId} {args : Array Value} {below : List Frame} {meth : Method} {c : Code} {z0 u0 n : Nat} (C : Cx G p s m args meth c prog_14_method_8_code 1 "BellPlateModel" ((some FieldType.boolean))) (IH : I_Md_isSignOf G p l e s m args below meth c z0 u0 n) (s0I : Int32) (σ : AM) : VX (QM eI G args s below z0 u0) G p l e s m args below meth c 0 z0 u0 1 (lpK (lpn F_Md_isSignOf n) (T_Md_isSignOf_2 s0I σ)) 53 [] [.int s0I] σ := by
  unfold T_Md_isSignOf_2
  refine x_gd (fun h1 => ?_)
  exact x_zret C (isB_narrow h1) d_Md_isSignOf_53
theorem i_Md_isSignOf {G : GX} {p : Program} {l : Launch} {e : Env} {s : State} {m : MethodId} {args : Array Value} {below : List Frame} {meth : Method} {c : Code} {z0 u0 : Nat} (C : Cx G p s m args meth c prog_14_method_8_code 1 "BellPlateModel" ((some FieldType.boolean))) (n : Nat) : I_Md_isSignOf G p l e s m args below meth c z0 u0 n := by
  induction n with
  | zero => exact ⟨fun _ _ => x_none, fun _ => x_none, fun _ _ => x_none⟩
  | succ n IH => exact ⟨fun v0I σ => s_Md_isSignOf_0 C IH v0I σ, fun σ => s_Md_isSignOf_1 C IH σ, fun s0I σ => s_Md_isSignOf_2 C IH s0I σ⟩
theorem c_Md_isSignOf (G : GX) (l : Launch) (v0I : Int32) (σ : AM) : CT eI G l 0 y_Md_isSignOf prog_14_method_8_code 1 ((some FieldType.boolean)) [.int v0I] σ (M_Md_isSignOf v0I σ) := by
  refine ct_of (by decide +kernel) (Nat.le_of_ble_eq_true rfl) (fun p e s m args below meth c C hin => ?_)
  refine x_lve (lv' := [(0, .int v0I)]) rfl ?_
  intro r σ' h
  obtain ⟨n, hn⟩ := (lp_iff _ _ _).mp h
  exact (i_Md_isSignOf C n).1 v0I σ r σ' hn
/-! BellPlateModel.cutAll()V -/
abbrev y_Md_cutAll : MethodName := ⟨"BellPlateModel", "cutAll", "()V"⟩
theorem k_Md_cutAll : y_Md_cutAll.cls ≠ "java/lang/invoke/MethodHandle" ∧ y_Md_cutAll.cls ≠ "java/lang/invoke/VarHandle" ∧ (parseMethodDescriptor y_Md_cutAll.desc).map (fun d => d.parameters.length) = some 0 := by decide +kernel
theorem d_Md_cutAll_0 : decode prog_14_method_9_code 0 = .ok (.aload_n 0, 1) := by decide +kernel
theorem d_Md_cutAll_1 : decode prog_14_method_9_code 1 = .ok (.aload_n 0, 1) := by decide +kernel
theorem d_Md_cutAll_2 : decode prog_14_method_9_code 2 = .ok (.getfield 11, 3) := by decide +kernel
theorem d_Md_cutAll_5 : decode prog_14_method_9_code 5 = .ok (.putfield 174, 3) := by decide +kernel
theorem d_Md_cutAll_8 : decode prog_14_method_9_code 8 = .ok (.aload_n 0, 1) := by decide +kernel
theorem d_Md_cutAll_9 : decode prog_14_method_9_code 9 = .ok (.iconst 0, 1) := by decide +kernel
theorem d_Md_cutAll_10 : decode prog_14_method_9_code 10 = .ok (.putfield 11, 3) := by decide +kernel
theorem d_Md_cutAll_13 : decode prog_14_method_9_code 13 = .ok (.iconst 0, 1) := by decide +kernel
theorem d_Md_cutAll_14 : decode prog_14_method_9_code 14 = .ok (.istore_n 1, 1) := by decide +kernel
theorem d_Md_cutAll_15 : decode prog_14_method_9_code 15 = .ok (.iconst 0, 1) := by decide +kernel
theorem d_Md_cutAll_16 : decode prog_14_method_9_code 16 = .ok (.istore_n 2, 1) := by decide +kernel
theorem d_Md_cutAll_17 : decode prog_14_method_9_code 17 = .ok (.iload_n 2, 1) := by decide +kernel
theorem d_Md_cutAll_18 : decode prog_14_method_9_code 18 = .ok (.aload_n 0, 1) := by decide +kernel
theorem d_Md_cutAll_19 : decode prog_14_method_9_code 19 = .ok (.getfield 174, 3) := by decide +kernel
theorem d_Md_cutAll_22 : decode prog_14_method_9_code 22 = .ok (.if_icmp .ge 257, 3) := by decide +kernel
theorem d_Md_cutAll_25 : decode prog_14_method_9_code 25 = .ok (.aload_n 0, 1) := by decide +kernel
theorem d_Md_cutAll_26 : decode prog_14_method_9_code 26 = .ok (.getfield 14, 3) := by decide +kernel
theorem d_Md_cutAll_29 : decode prog_14_method_9_code 29 = .ok (.iload_n 2, 1) := by decide +kernel
theorem d_Md_cutAll_30 : decode prog_14_method_9_code 30 = .ok (.iaload, 1) := by decide +kernel
theorem d_Md_cutAll_31 : decode prog_14_method_9_code 31 = .ok (.istore_n 3, 1) := by decide +kernel
theorem d_Md_cutAll_32 : decode prog_14_method_9_code 32 = .ok (.iload_n 3, 1) := by decide +kernel
theorem d_Md_cutAll_33 : decode prog_14_method_9_code 33 = .ok (.bipush 10, 2) := by decide +kernel
theorem d_Md_cutAll_35 : decode prog_14_method_9_code 35 = .ok (.if_icmp .eq 9, 3) := by decide +kernel
theorem d_Md_cutAll_38 : decode prog_14_method_9_code 38 = .ok (.iload_n 3, 1) := by decide +kernel
theorem d_Md_cutAll_39 : decode prog_14_method_9_code 39 = .ok (.bipush 32, 2) := by decide +kernel
theorem d_Md_cutAll_41 : decode prog_14_method_9_code 41 = .ok (.if_icmp .ne 9, 3) := by decide +kernel
theorem d_Md_cutAll_44 : decode prog_14_method_9_code 44 = .ok (.iinc 2 1, 3) := by decide +kernel
theorem d_Md_cutAll_47 : decode prog_14_method_9_code 47 = .ok (.goto (-30), 3) := by decide +kernel
theorem d_Md_cutAll_50 : decode prog_14_method_9_code 50 = .ok (.iload_n 2, 1) := by decide +kernel
theorem d_Md_cutAll_51 : decode prog_14_method_9_code 51 = .ok (.istore 4, 2) := by decide +kernel
theorem d_Md_cutAll_53 : decode prog_14_method_9_code 53 = .ok (.lconst 0, 1) := by decide +kernel
theorem d_Md_cutAll_54 : decode prog_14_method_9_code 54 = .ok (.lstore 5, 2) := by decide +kernel
theorem d_Md_cutAll_56 : decode prog_14_method_9_code 56 = .ok (.aload_n 0, 1) := by decide +kernel
theorem d_Md_cutAll_57 : decode prog_14_method_9_code 57 = .ok (.getfield 27, 3) := by decide +kernel
theorem d_Md_cutAll_60 : decode prog_14_method_9_code 60 = .ok (.iload_n 1, 1) := by decide +kernel
theorem d_Md_cutAll_61 : decode prog_14_method_9_code 61 = .ok (.iload_n 2, 1) := by decide +kernel
theorem d_Md_cutAll_62 : decode prog_14_method_9_code 62 = .ok (.iastore, 1) := by decide +kernel
theorem d_Md_cutAll_63 : decode prog_14_method_9_code 63 = .ok (.iload_n 3, 1) := by decide +kernel
theorem d_Md_cutAll_64 : decode prog_14_method_9_code 64 = .ok (.invokestatic 170, 3) := by decide +kernel
theorem d_Md_cutAll_67 : decode prog_14_method_9_code 67 = .ok (.ifCond .eq 85, 3) := by decide +kernel
theorem d_Md_cutAll_70 : decode prog_14_method_9_code 70 = .ok (.iload_n 2, 1) := by decide +kernel
theorem d_Md_cutAll_71 : decode prog_14_method_9_code 71 = .ok (.aload_n 0, 1) := by decide +kernel
theorem d_Md_cutAll_72 : decode prog_14_method_9_code 72 = .ok (.getfield 174, 3) := by decide +kernel
theorem d_Md_cutAll_75 : decode prog_14_method_9_code 75 = .ok (.if_icmp .ge 54, 3) := by decide +kernel
theorem d_Md_cutAll_78 : decode prog_14_method_9_code 78 = .ok (.aload_n 0, 1) := by decide +kernel
theorem d_Md_cutAll_79 : decode prog_14_method_9_code 79 = .ok (.getfield 14, 3) := by decide +kernel
theorem d_Md_cutAll_82 : decode prog_14_method_9_code 82 = .ok (.iload_n 2, 1) := by decide +kernel
theorem d_Md_cutAll_83 : decode prog_14_method_9_code 83 = .ok (.iaload, 1) := by decide +kernel
theorem d_Md_cutAll_84 : decode prog_14_method_9_code 84 = .ok (.invokestatic 170, 3) := by decide +kernel
theorem d_Md_cutAll_87 : decode prog_14_method_9_code 87 = .ok (.ifCond .eq 42, 3) := by decide +kernel
theorem d_Md_cutAll_90 : decode prog_14_method_9_code 90 = .ok (.iload_n 2, 1) := by decide +kernel
theorem d_Md_cutAll_91 : decode prog_14_method_9_code 91 = .ok (.iload 4, 2) := by decide +kernel
theorem d_Md_cutAll_93 : decode prog_14_method_9_code 93 = .ok (.isub, 1) := by decide +kernel
theorem d_Md_cutAll_94 : decode prog_14_method_9_code 94 = .ok (.bipush 8, 2) := by decide +kernel
theorem d_Md_cutAll_96 : decode prog_14_method_9_code 96 = .ok (.if_icmp .ge 23, 3) := by decide +kernel
theorem d_Md_cutAll_99 : decode prog_14_method_9_code 99 = .ok (.ldc2_w 177, 3) := by decide +kernel
theorem d_Md_cutAll_102 : decode prog_14_method_9_code 102 = .ok (.lload 5, 2) := by decide +kernel
theorem d_Md_cutAll_104 : decode prog_14_method_9_code 104 = .ok (.lmul, 1) := by decide +kernel
theorem d_Md_cutAll_105 : decode prog_14_method_9_code 105 = .ok (.aload_n 0, 1) := by decide +kernel
theorem d_Md_cutAll_106 : decode prog_14_method_9_code 106 = .ok (.getfield 14, 3) := by decide +kernel
theorem d_Md_cutAll_109 : decode prog_14_method_9_code 109 = .ok (.iload_n 2, 1) := by decide +kernel
theorem d_Md_cutAll_110 : decode prog_14_method_9_code 110 = .ok (.iaload, 1) := by decide +kernel
theorem d_Md_cutAll_111 : decode prog_14_method_9_code 111 = .ok (.invokestatic 179, 3) := by decide +kernel
theorem d_Md_cutAll_114 : decode prog_14_method_9_code 114 = .ok (.i2l, 1) := by decide +kernel
theorem d_Md_cutAll_115 : decode prog_14_method_9_code 115 = .ok (.ladd, 1) := by decide +kernel
theorem d_Md_cutAll_116 : decode prog_14_method_9_code 116 = .ok (.goto 5, 3) := by decide +kernel
theorem d_Md_cutAll_119 : decode prog_14_method_9_code 119 = .ok (.lload 5, 2) := by decide +kernel
theorem d_Md_cutAll_121 : decode prog_14_method_9_code 121 = .ok (.lstore 5, 2) := by decide +kernel
theorem d_Md_cutAll_123 : decode prog_14_method_9_code 123 = .ok (.iinc 2 1, 3) := by decide +kernel
theorem d_Md_cutAll_126 : decode prog_14_method_9_code 126 = .ok (.goto (-56), 3) := by decide +kernel
theorem d_Md_cutAll_129 : decode prog_14_method_9_code 129 = .ok (.aload_n 0, 1) := by decide +kernel
theorem d_Md_cutAll_130 : decode prog_14_method_9_code 130 = .ok (.getfield 24, 3) := by decide +kernel
theorem d_Md_cutAll_133 : decode prog_14_method_9_code 133 = .ok (.iload_n 1, 1) := by decide +kernel
theorem d_Md_cutAll_134 : decode prog_14_method_9_code 134 = .ok (.iload_n 2, 1) := by decide +kernel
theorem d_Md_cutAll_135 : decode prog_14_method_9_code 135 = .ok (.iload 4, 2) := by decide +kernel
theorem d_Md_cutAll_137 : decode prog_14_method_9_code 137 = .ok (.isub, 1) := by decide +kernel
theorem d_Md_cutAll_138 : decode prog_14_method_9_code 138 = .ok (.bipush 8, 2) := by decide +kernel
theorem d_Md_cutAll_140 : decode prog_14_method_9_code 140 = .ok (.if_icmp .le 7, 3) := by decide +kernel
theorem d_Md_cutAll_143 : decode prog_14_method_9_code 143 = .ok (.iconst 4, 1) := by decide +kernel
theorem d_Md_cutAll_144 : decode prog_14_method_9_code 144 = .ok (.goto 4, 3) := by decide +kernel
theorem d_Md_cutAll_147 : decode prog_14_method_9_code 147 = .ok (.iconst 1, 1) := by decide +kernel
theorem d_Md_cutAll_148 : decode prog_14_method_9_code 148 = .ok (.iastore, 1) := by decide +kernel
theorem d_Md_cutAll_149 : decode prog_14_method_9_code 149 = .ok (.goto 116, 3) := by decide +kernel
theorem d_Md_cutAll_152 : decode prog_14_method_9_code 152 = .ok (.iload_n 3, 1) := by decide +kernel
theorem d_Md_cutAll_153 : decode prog_14_method_9_code 153 = .ok (.invokestatic 183, 3) := by decide +kernel
theorem d_Md_cutAll_156 : decode prog_14_method_9_code 156 = .ok (.ifCond .eq 84, 3) := by decide +kernel
theorem d_Md_cutAll_159 : decode prog_14_method_9_code 159 = .ok (.iload_n 2, 1) := by decide +kernel
theorem d_Md_cutAll_160 : decode prog_14_method_9_code 160 = .ok (.aload_n 0, 1) := by decide +kernel
theorem d_Md_cutAll_161 : decode prog_14_method_9_code 161 = .ok (.getfield 174, 3) := by decide +kernel
theorem d_Md_cutAll_164 : decode prog_14_method_9_code 164 = .ok (.if_icmp .ge 54, 3) := by decide +kernel
theorem d_Md_cutAll_167 : decode prog_14_method_9_code 167 = .ok (.aload_n 0, 1) := by decide +kernel
theorem d_Md_cutAll_168 : decode prog_14_method_9_code 168 = .ok (.getfield 14, 3) := by decide +kernel
theorem d_Md_cutAll_171 : decode prog_14_method_9_code 171 = .ok (.iload_n 2, 1) := by decide +kernel
theorem d_Md_cutAll_172 : decode prog_14_method_9_code 172 = .ok (.iaload, 1) := by decide +kernel
theorem d_Md_cutAll_173 : decode prog_14_method_9_code 173 = .ok (.invokestatic 183, 3) := by decide +kernel
theorem d_Md_cutAll_176 : decode prog_14_method_9_code 176 = .ok (.ifCond .eq 42, 3) := by decide +kernel
theorem d_Md_cutAll_179 : decode prog_14_method_9_code 179 = .ok (.iload_n 2, 1) := by decide +kernel
theorem d_Md_cutAll_180 : decode prog_14_method_9_code 180 = .ok (.iload 4, 2) := by decide +kernel
theorem d_Md_cutAll_182 : decode prog_14_method_9_code 182 = .ok (.isub, 1) := by decide +kernel
theorem d_Md_cutAll_183 : decode prog_14_method_9_code 183 = .ok (.iconst 4, 1) := by decide +kernel
theorem d_Md_cutAll_184 : decode prog_14_method_9_code 184 = .ok (.if_icmp .ge 24, 3) := by decide +kernel
theorem d_Md_cutAll_187 : decode prog_14_method_9_code 187 = .ok (.ldc2_w 186, 3) := by decide +kernel
theorem d_Md_cutAll_190 : decode prog_14_method_9_code 190 = .ok (.lload 5, 2) := by decide +kernel
theorem d_Md_cutAll_192 : decode prog_14_method_9_code 192 = .ok (.lmul, 1) := by decide +kernel
theorem d_Md_cutAll_193 : decode prog_14_method_9_code 193 = .ok (.aload_n 0, 1) := by decide +kernel
theorem d_Md_cutAll_194 : decode prog_14_method_9_code 194 = .ok (.getfield 14, 3) := by decide +kernel
theorem d_Md_cutAll_197 : decode prog_14_method_9_code 197 = .ok (.iload_n 2, 1) := by decide +kernel
theorem d_Md_cutAll_198 : decode prog_14_method_9_code 198 = .ok (.iaload, 1) := by decide +kernel
theorem d_Md_cutAll_199 : decode prog_14_method_9_code 199 = .ok (.i2l, 1) := by decide +kernel
theorem d_Md_cutAll_200 : decode prog_14_method_9_code 200 = .ok (.ladd, 1) := by decide +kernel
theorem d_Md_cutAll_201 : decode prog_14_method_9_code 201 = .ok (.ldc2_w 188, 3) := by decide +kernel
theorem d_Md_cutAll_204 : decode prog_14_method_9_code 204 = .ok (.lsub, 1) := by decide +kernel
theorem d_Md_cutAll_205 : decode prog_14_method_9_code 205 = .ok (.goto 5, 3) := by decide +kernel
theorem d_Md_cutAll_208 : decode prog_14_method_9_code 208 = .ok (.lload 5, 2) := by decide +kernel
theorem d_Md_cutAll_210 : decode prog_14_method_9_code 210 = .ok (.lstore 5, 2) := by decide +kernel
theorem d_Md_cutAll_212 : decode prog_14_method_9_code 212 = .ok (.iinc 2 1, 3) := by decide +kernel
theorem d_Md_cutAll_215 : decode prog_14_method_9_code 215 = .ok (.goto (-56), 3) := by decide +kernel
theorem d_Md_cutAll_218 : decode prog_14_method_9_code 218 = .ok (.aload_n 0, 1) := by decide +kernel
theorem d_Md_cutAll_219 : decode prog_14_method_9_code 219 = .ok (.getfield 24, 3) := by decide +kernel
theorem d_Md_cutAll_222 : decode prog_14_method_9_code 222 = .ok (.iload_n 1, 1) := by decide +kernel
theorem d_Md_cutAll_223 : decode prog_14_method_9_code 223 = .ok (.iload_n 2, 1) := by decide +kernel
theorem d_Md_cutAll_224 : decode prog_14_method_9_code 224 = .ok (.iload 4, 2) := by decide +kernel
theorem d_Md_cutAll_226 : decode prog_14_method_9_code 226 = .ok (.isub, 1) := by decide +kernel
theorem d_Md_cutAll_227 : decode prog_14_method_9_code 227 = .ok (.iconst 4, 1) := by decide +kernel
theorem d_Md_cutAll_228 : decode prog_14_method_9_code 228 = .ok (.if_icmp .le 7, 3) := by decide +kernel
theorem d_Md_cutAll_231 : decode prog_14_method_9_code 231 = .ok (.iconst 4, 1) := by decide +kernel
theorem d_Md_cutAll_232 : decode prog_14_method_9_code 232 = .ok (.goto 4, 3) := by decide +kernel
theorem d_Md_cutAll_235 : decode prog_14_method_9_code 235 = .ok (.iconst 2, 1) := by decide +kernel
theorem d_Md_cutAll_236 : decode prog_14_method_9_code 236 = .ok (.iastore, 1) := by decide +kernel
theorem d_Md_cutAll_237 : decode prog_14_method_9_code 237 = .ok (.goto 28, 3) := by decide +kernel
theorem d_Md_cutAll_240 : decode prog_14_method_9_code 240 = .ok (.iload_n 3, 1) := by decide +kernel
theorem d_Md_cutAll_241 : decode prog_14_method_9_code 241 = .ok (.i2l, 1) := by decide +kernel
theorem d_Md_cutAll_242 : decode prog_14_method_9_code 242 = .ok (.lstore 5, 2) := by decide +kernel
theorem d_Md_cutAll_244 : decode prog_14_method_9_code 244 = .ok (.aload_n 0, 1) := by decide +kernel
theorem d_Md_cutAll_245 : decode prog_14_method_9_code 245 = .ok (.getfield 24, 3) := by decide +kernel
theorem d_Md_cutAll_248 : decode prog_14_method_9_code 248 = .ok (.iload_n 1, 1) := by decide +kernel
theorem d_Md_cutAll_249 : decode prog_14_method_9_code 249 = .ok (.iload_n 3, 1) := by decide +kernel
theorem d_Md_cutAll_250 : decode prog_14_method_9_code 250 = .ok (.invokestatic 190, 3) := by decide +kernel
theorem d_Md_cutAll_253 : decode prog_14_method_9_code 253 = .ok (.ifCond .eq 7, 3) := by decide +kernel
theorem d_Md_cutAll_256 : decode prog_14_method_9_code 256 = .ok (.iconst 3, 1) := by decide +kernel
theorem d_Md_cutAll_257 : decode prog_14_method_9_code 257 = .ok (.goto 4, 3) := by decide +kernel
theorem d_Md_cutAll_260 : decode prog_14_method_9_code 260 = .ok (.iconst 4, 1) := by decide +kernel
theorem d_Md_cutAll_261 : decode prog_14_method_9_code 261 = .ok (.iastore, 1) := by decide +kernel
theorem d_Md_cutAll_262 : decode prog_14_method_9_code 262 = .ok (.iinc 2 1, 3) := by decide +kernel
theorem d_Md_cutAll_265 : decode prog_14_method_9_code 265 = .ok (.aload_n 0, 1) := by decide +kernel
theorem d_Md_cutAll_266 : decode prog_14_method_9_code 266 = .ok (.getfield 30, 3) := by decide +kernel
theorem d_Md_cutAll_269 : decode prog_14_method_9_code 269 = .ok (.iload_n 1, 1) := by decide +kernel
theorem d_Md_cutAll_270 : decode prog_14_method_9_code 270 = .ok (.lload 5, 2) := by decide +kernel
theorem d_Md_cutAll_272 : decode prog_14_method_9_code 272 = .ok (.lastore, 1) := by decide +kernel
theorem d_Md_cutAll_273 : decode prog_14_method_9_code 273 = .ok (.iinc 1 1, 3) := by decide +kernel
theorem d_Md_cutAll_276 : decode prog_14_method_9_code 276 = .ok (.goto (-259), 3) := by decide +kernel
theorem d_Md_cutAll_279 : decode prog_14_method_9_code 279 = .ok (.aload_n 0, 1) := by decide +kernel
theorem d_Md_cutAll_280 : decode prog_14_method_9_code 280 = .ok (.getfield 24, 3) := by decide +kernel
theorem d_Md_cutAll_283 : decode prog_14_method_9_code 283 = .ok (.iload_n 1, 1) := by decide +kernel
theorem d_Md_cutAll_284 : decode prog_14_method_9_code 284 = .ok (.iconst 0, 1) := by decide +kernel
theorem d_Md_cutAll_285 : decode prog_14_method_9_code 285 = .ok (.iastore, 1) := by decide +kernel
theorem d_Md_cutAll_286 : decode prog_14_method_9_code 286 = .ok (.aload_n 0, 1) := by decide +kernel
theorem d_Md_cutAll_287 : decode prog_14_method_9_code 287 = .ok (.getfield 27, 3) := by decide +kernel
theorem d_Md_cutAll_290 : decode prog_14_method_9_code 290 = .ok (.iload_n 1, 1) := by decide +kernel
theorem d_Md_cutAll_291 : decode prog_14_method_9_code 291 = .ok (.aload_n 0, 1) := by decide +kernel
theorem d_Md_cutAll_292 : decode prog_14_method_9_code 292 = .ok (.getfield 174, 3) := by decide +kernel
theorem d_Md_cutAll_295 : decode prog_14_method_9_code 295 = .ok (.iastore, 1) := by decide +kernel
theorem d_Md_cutAll_296 : decode prog_14_method_9_code 296 = .ok (.aload_n 0, 1) := by decide +kernel
theorem d_Md_cutAll_297 : decode prog_14_method_9_code 297 = .ok (.iconst 0, 1) := by decide +kernel
theorem d_Md_cutAll_298 : decode prog_14_method_9_code 298 = .ok (.putfield 193, 3) := by decide +kernel
theorem d_Md_cutAll_301 : decode prog_14_method_9_code 301 = .ok (.aload_n 0, 1) := by decide +kernel
theorem d_Md_cutAll_302 : decode prog_14_method_9_code 302 = .ok (.iconst 0, 1) := by decide +kernel
theorem d_Md_cutAll_303 : decode prog_14_method_9_code 303 = .ok (.putfield 196, 3) := by decide +kernel
theorem d_Md_cutAll_306 : decode prog_14_method_9_code 306 = .ok (.return_, 1) := by decide +kernel
abbrev S_Md_cutAll : Type := Nat × Nat × Int32 × Int32 × Int32 × Int64 × Int64 × Nat × Int32 × Int32 × AM
noncomputable def T_Md_cutAll_0 (v0R : Nat) (σ : AM) : S_Md_cutAll ⊕ Option (Unit × AM) :=
  gdT (okO σ v0R 12) <| letT (sI σ v0R 3 (aI σ v0R 2)) fun σ2 => letT (sI σ2 v0R 2 (0 : Int32)) fun σ4 => .inl (1, v0R, (0 : Int32), (0 : Int32), 0, 0, 0, 0, 0, 0, σ4)
noncomputable def T_Md_cutAll_1 (v0R : Nat) (v1I : Int32) (v2I : Int32) (σ : AM) : S_Md_cutAll ⊕ Option (Unit × AM) :=
  gdT (okO σ v0R 12) <| if v2I < (aI σ v0R 3) then (gdT (okO σ (aR σ v0R 1) 101) <| gdT (inB v2I (aN σ (aR σ v0R 1))) <| letT (aI σ (aR σ v0R 1) v2I.toNatClampNeg) fun x4 => if x4 = (10 : Int32) then (.inl (2, v0R, v1I, v2I, 0, 0, 0, 0, 0, 0, σ)) else (if x4 = (32 : Int32) then (.inl (2, v0R, v1I, v2I, 0, 0, 0, 0, 0, 0, σ)) else (gdT (okO σ (aR σ v0R 5) 101) <| gdT (inB v1I (aN σ (aR σ v0R 5))) <| letT (sI σ (aR σ v0R 5) v1I.toNatClampNeg v2I) fun σ7 => bndT (M_Md_isLetter x4 σ7) fun r9 σ10 => if r9 = 0 then (bndT (M_Md_isDigit x4 σ10) fun r11 σ12 => if r11 = 0 then (letT (x4.toInt64) fun x13 => gdT (okO σ12 v0R 12) <| gdT (okO σ12 (aR σ12 v0R 4) 101) <| bndT (M_Md_isSignOf x4 σ12) fun r16 σ17 => if r16 = 0 then (.inl (11, v0R, v1I, v2I, 0, x13, 0, aR σ12 v0R 4, v1I, (4 : Int32), σ17)) else (.inl (11, v0R, v1I, v2I, 0, x13, 0, aR σ12 v0R 4, v1I, (3 : Int32), σ17))) else (.inl (7, v0R, v1I, v2I, v2I, (0 : Int64), 0, 0, 0, 0, σ12))) else (.inl (3, v0R, v1I, v2I, v2I, (0 : Int64), 0, 0, 0, 0, σ10))))) else (gdT (okO σ (aR σ v0R 4) 101) <| gdT (inB v1I (aN σ (aR σ v0R 4))) <| letT (sI σ (aR σ v0R 4) v1I.toNatClampNeg (0 : Int32)) fun σ20 => gdT (okO σ20 (aR σ20 v0R 5) 101) <| gdT (inB v1I (aN σ20 (aR σ20 v0R 5))) <| letT (sI σ20 (aR σ20 v0R 5) v1I.toNatClampNeg (aI σ20 v0R 3)) fun σ24 => letT (sI σ24 v0R 7 (0 : Int32)) fun σ26 => letT (sI σ26 v0R 8 (0 : Int32)) fun σ28 => .inr (some ((), σ28)))
noncomputable def T_Md_cutAll_2 (v0R : Nat) (v1I : Int32) (v2I : Int32) (σ : AM) : S_Md_cutAll ⊕ Option (Unit × AM) :=
  .inl (1, v0R, v1I, v2I + (1 : Int32), 0, 0, 0, 0, 0, 0, σ)
noncomputable def T_Md_cutAll_3 (v0R : Nat) (v1I : Int32) (v2I : Int32) (v4I : Int32) (v5J : Int64) (σ : AM) : S_Md_cutAll ⊕ Option (Unit × AM) :=
  gdT (okO σ v0R 12) <| if v2I < (aI σ v0R 3) then (gdT (okO σ (aR σ v0R 1) 101) <| gdT (inB v2I (aN σ (aR σ v0R 1))) <| bndT (M_Md_isLetter (aI σ (aR σ v0R 1) v2I.toNatClampNeg) σ) fun r4 σ5 => if r4 = 0 then (.inl (5, v0R, v1I, v2I, v4I, v5J, 0, 0, 0, 0, σ5)) else (if (v2I - v4I) < (8 : Int32) then (gdT (okO σ5 v0R 12) <| gdT (okO σ5 (aR σ5 v0R 1) 101) <| gdT (inB v2I (aN σ5 (aR σ5 v0R 1))) <| bndT (M_Md_rank (aI σ5 (aR σ5 v0R 1) v2I.toNatClampNeg) σ5) fun r9 σ10 => .inl (4, v0R, v1I, v2I, v4I, 0, ((37 : Int64) * v5J) + (r9.toInt64), 0, 0, 0, σ10)) else (.inl (4, v0R, v1I, v2I, v4I, 0, v5J, 0, 0, 0, σ5)))) else (.inl (5, v0R, v1I, v2I, v4I, v5J, 0, 0, 0, 0, σ))
noncomputable def T_Md_cutAll_4 (v0R : Nat) (v1I : Int32) (v2I : Int32) (v4I : Int32) (s0J : Int64) (σ : AM) : S_Md_cutAll ⊕ Option (Unit × AM) :=
  .inl (3, v0R, v1I, v2I + (1 : Int32), v4I, s0J, 0, 0, 0, 0, σ)
noncomputable def T_Md_cutAll_5 (v0R : Nat) (v1I : Int32) (v2I : Int32) (v4I : Int32) (v5J : Int64) (σ : AM) : S_Md_cutAll ⊕ Option (Unit × AM) :=
  gdT (okO σ v0R 12) <| gdT (okO σ (aR σ v0R 4) 101) <| if (8 : Int32) < (v2I - v4I) then (.inl (6, v0R, v1I, v2I, 0, v5J, 0, aR σ v0R 4, v1I, (4 : Int32), σ)) else (.inl (6, v0R, v1I, v2I, 0, v5J, 0, aR σ v0R 4, v1I, (1 : Int32), σ))
noncomputable def T_Md_cutAll_6 (v0R : Nat) (v1I : Int32) (v2I : Int32) (v5J : Int64) (s0R : Nat) (s1I : Int32) (s2I : Int32) (σ : AM) : S_Md_cutAll ⊕ Option (Unit × AM) :=
  gdT (okO σ s0R 101) <| gdT (inB s1I (aN σ s0R)) <| letT (sI σ s0R s1I.toNatClampNeg s2I) fun σ3 => .inl (12, v0R, v1I, v2I, 0, v5J, 0, 0, 0, 0, σ3)
noncomputable def T_Md_cutAll_7 (v0R : Nat) (v1I : Int32) (v2I : Int32) (v4I : Int32) (v5J : Int64) (σ : AM) : S_Md_cutAll ⊕ Option (Unit × AM) :=
  gdT (okO σ v0R 12) <| if v2I < (aI σ v0R 3) then (gdT (okO σ (aR σ v0R 1) 101) <| gdT (inB v2I (aN σ (aR σ v0R 1))) <| bndT (M_Md_isDigit (aI σ (aR σ v0R 1) v2I.toNatClampNeg) σ) fun r4 σ5 => if r4 = 0 then (.inl (9, v0R, v1I, v2I, v4I, v5J, 0, 0, 0, 0, σ5)) else (if (v2I - v4I) < (4 : Int32) then (gdT (okO σ5 v0R 12) <| gdT (okO σ5 (aR σ5 v0R 1) 101) <| gdT (inB v2I (aN σ5 (aR σ5 v0R 1))) <| .inl (8, v0R, v1I, v2I, v4I, 0, (((10 : Int64) * v5J) + ((aI σ5 (aR σ5 v0R 1) v2I.toNatClampNeg).toInt64)) - (48 : Int64), 0, 0, 0, σ5)) else (.inl (8, v0R, v1I, v2I, v4I, 0, v5J, 0, 0, 0, σ5)))) else (.inl (9, v0R, v1I, v2I, v4I, v5J, 0, 0, 0, 0, σ))
noncomputable def T_Md_cutAll_8 (v0R : Nat) (v1I : Int32) (v2I : Int32) (v4I : Int32) (s0J : Int64) (σ : AM) : S_Md_cutAll ⊕ Option (Unit × AM) :=
  .inl (7, v0R, v1I, v2I + (1 : Int32), v4I, s0J, 0, 0, 0, 0, σ)
noncomputable def T_Md_cutAll_9 (v0R : Nat) (v1I : Int32) (v2I : Int32) (v4I : Int32) (v5J : Int64) (σ : AM) : S_Md_cutAll ⊕ Option (Unit × AM) :=
  gdT (okO σ v0R 12) <| gdT (okO σ (aR σ v0R 4) 101) <| if (4 : Int32) < (v2I - v4I) then (.inl (10, v0R, v1I, v2I, 0, v5J, 0, aR σ v0R 4, v1I, (4 : Int32), σ)) else (.inl (10, v0R, v1I, v2I, 0, v5J, 0, aR σ v0R 4, v1I, (2 : Int32), σ))
noncomputable def T_Md_cutAll_10 (v0R : Nat) (v1I : Int32) (v2I : Int32) (v5J : Int64) (s0R : Nat) (s1I : Int32) (s2I : Int32) (σ : AM) : S_Md_cutAll ⊕ Option (Unit × AM) :=
  gdT (okO σ s0R 101) <| gdT (inB s1I (aN σ s0R)) <| letT (sI σ s0R s1I.toNatClampNeg s2I) fun σ3 => .inl (12, v0R, v1I, v2I, 0, v5J, 0, 0, 0, 0, σ3)
noncomputable def T_Md_cutAll_11 (v0R : Nat) (v1I : Int32) (v2I : Int32) (v5J : Int64) (s0R : Nat) (s1I : Int32) (s2I : Int32) (σ : AM) : S_Md_cutAll ⊕ Option (Unit × AM) :=
  gdT (okO σ s0R 101) <| gdT (inB s1I (aN σ s0R)) <| letT (sI σ s0R s1I.toNatClampNeg s2I) fun σ3 => .inl (12, v0R, v1I, v2I + (1 : Int32), 0, v5J, 0, 0, 0, 0, σ3)
noncomputable def T_Md_cutAll_12 (v0R : Nat) (v1I : Int32) (v2I : Int32) (v5J : Int64) (σ : AM) : S_Md_cutAll ⊕ Option (Unit × AM) :=
  gdT (okO σ v0R 12) <| gdT (okO σ (aR σ v0R 6) 102) <| gdT (inB v1I (aN σ (aR σ v0R 6))) <| letT (sL σ (aR σ v0R 6) v1I.toNatClampNeg v5J) fun σ4 => .inl (1, v0R, v1I + (1 : Int32), v2I, 0, 0, 0, 0, 0, 0, σ4)
noncomputable def F_Md_cutAll : S_Md_cutAll → S_Md_cutAll ⊕ Option (Unit × AM) := fun s => match s.1 with
  | 0 => T_Md_cutAll_0 (s.2.1) (s.2.2.2.2.2.2.2.2.2.2)
  | 1 => T_Md_cutAll_1 (s.2.1) (s.2.2.1) (s.2.2.2.1) (s.2.2.2.2.2.2.2.2.2.2)
  | 2 => T_Md_cutAll_2 (s.2.1) (s.2.2.1) (s.2.2.2.1) (s.2.2.2.2.2.2.2.2.2.2)
  | 3 => T_Md_cutAll_3 (s.2.1) (s.2.2.1) (s.2.2.2.1) (s.2.2.2.2.1) (s.2.2.2.2.2.1) (s.2.2.2.2.2.2.2.2.2.2)
  | 4 => T_Md_cutAll_4 (s.2.1) (s.2.2.1) (s.2.2.2.1) (s.2.2.2.2.1) (s.2.2.2.2.2.2.1) (s.2.2.2.2.2.2.2.2.2.2)
  | 5 => T_Md_cutAll_5 (s.2.1) (s.2.2.1) (s.2.2.2.1) (s.2.2.2.2.1) (s.2.2.2.2.2.1) (s.2.2.2.2.2.2.2.2.2.2)
  | 6 => T_Md_cutAll_6 (s.2.1) (s.2.2.1) (s.2.2.2.1) (s.2.2.2.2.2.1) (s.2.2.2.2.2.2.2.1) (s.2.2.2.2.2.2.2.2.1) (s.2.2.2.2.2.2.2.2.2.1) (s.2.2.2.2.2.2.2.2.2.2)
  | 7 => T_Md_cutAll_7 (s.2.1) (s.2.2.1) (s.2.2.2.1) (s.2.2.2.2.1) (s.2.2.2.2.2.1) (s.2.2.2.2.2.2.2.2.2.2)
  | 8 => T_Md_cutAll_8 (s.2.1) (s.2.2.1) (s.2.2.2.1) (s.2.2.2.2.1) (s.2.2.2.2.2.2.1) (s.2.2.2.2.2.2.2.2.2.2)
  | 9 => T_Md_cutAll_9 (s.2.1) (s.2.2.1) (s.2.2.2.1) (s.2.2.2.2.1) (s.2.2.2.2.2.1) (s.2.2.2.2.2.2.2.2.2.2)
  | 10 => T_Md_cutAll_10 (s.2.1) (s.2.2.1) (s.2.2.2.1) (s.2.2.2.2.2.1) (s.2.2.2.2.2.2.2.1) (s.2.2.2.2.2.2.2.2.1) (s.2.2.2.2.2.2.2.2.2.1) (s.2.2.2.2.2.2.2.2.2.2)
  | 11 => T_Md_cutAll_11 (s.2.1) (s.2.2.1) (s.2.2.2.1) (s.2.2.2.2.2.1) (s.2.2.2.2.2.2.2.1) (s.2.2.2.2.2.2.2.2.1) (s.2.2.2.2.2.2.2.2.2.1) (s.2.2.2.2.2.2.2.2.2.2)
  | _ => T_Md_cutAll_12 (s.2.1) (s.2.2.1) (s.2.2.2.1) (s.2.2.2.2.2.1) (s.2.2.2.2.2.2.2.2.2.2)
noncomputable def L_Md_cutAll_0 (v0R : Nat) (σ : AM) : Option (Unit × AM) := lp F_Md_cutAll (0, v0R, 0, 0, 0, 0, 0, 0, 0, 0, σ)
noncomputable def L_Md_cutAll_1 (v0R : Nat) (v1I : Int32) (v2I : Int32) (σ : AM) : Option (Unit × AM) := lp F_Md_cutAll (1, v0R, v1I, v2I, 0, 0, 0, 0, 0, 0, σ)
noncomputable def L_Md_cutAll_2 (v0R : Nat) (v1I : Int32) (v2I : Int32) (σ : AM) : Option (Unit × AM) := lp F_Md_cutAll (2, v0R, v1I, v2I, 0, 0, 0, 0, 0, 0, σ)
noncomputable def L_Md_cutAll_3 (v0R : Nat) (v1I : Int32) (v2I : Int32) (v4I : Int32) (v5J : Int64) (σ : AM) : Option (Unit × AM) := lp F_Md_cutAll (3, v0R, v1I, v2I, v4I, v5J, 0, 0, 0, 0, σ)
noncomputable def L_Md_cutAll_4 (v0R : Nat) (v1I : Int32) (v2I : Int32) (v4I : Int32) (s0J : Int64) (σ : AM) : Option (Unit × AM) := lp F_Md_cutAll (4, v0R, v1I, v2I, v4I, 0, s0J, 0, 0, 0, σ)
noncomputable def L_Md_cutAll_5 (v0R : Nat) (v1I : Int32) (v2I : Int32) (v4I : Int32) (v5J : Int64) (σ : AM) : Option (Unit × AM) := lp F_Md_cutAll (5, v0R, v1I, v2I, v4I, v5J, 0, 0, 0, 0, σ)
noncomputable def L_Md_cutAll_6 (v0R : Nat) (v1I : Int32) (v2I : Int32) (v5J : Int64) (s0R : Nat) (s1I : Int32) (s2I : Int32) (σ : AM) : Option (Unit × AM) := lp F_Md_cutAll (6, v0R, v1I, v2I, 0, v5J, 0, s0R, s1I, s2I, σ)
noncomputable def L_Md_cutAll_7 (v0R : Nat) (v1I : Int32) (v2I : Int32) (v4I : Int32) (v5J : Int64) (σ : AM) : Option (Unit × AM) := lp F_Md_cutAll (7, v0R, v1I, v2I, v4I, v5J, 0, 0, 0, 0, σ)
noncomputable def L_Md_cutAll_8 (v0R : Nat) (v1I : Int32) (v2I : Int32) (v4I : Int32) (s0J : Int64) (σ : AM) : Option (Unit × AM) := lp F_Md_cutAll (8, v0R, v1I, v2I, v4I, 0, s0J, 0, 0, 0, σ)
noncomputable def L_Md_cutAll_9 (v0R : Nat) (v1I : Int32) (v2I : Int32) (v4I : Int32) (v5J : Int64) (σ : AM) : Option (Unit × AM) := lp F_Md_cutAll (9, v0R, v1I, v2I, v4I, v5J, 0, 0, 0, 0, σ)
noncomputable def L_Md_cutAll_10 (v0R : Nat) (v1I : Int32) (v2I : Int32) (v5J : Int64) (s0R : Nat) (s1I : Int32) (s2I : Int32) (σ : AM) : Option (Unit × AM) := lp F_Md_cutAll (10, v0R, v1I, v2I, 0, v5J, 0, s0R, s1I, s2I, σ)
noncomputable def L_Md_cutAll_11 (v0R : Nat) (v1I : Int32) (v2I : Int32) (v5J : Int64) (s0R : Nat) (s1I : Int32) (s2I : Int32) (σ : AM) : Option (Unit × AM) := lp F_Md_cutAll (11, v0R, v1I, v2I, 0, v5J, 0, s0R, s1I, s2I, σ)
noncomputable def L_Md_cutAll_12 (v0R : Nat) (v1I : Int32) (v2I : Int32) (v5J : Int64) (σ : AM) : Option (Unit × AM) := lp F_Md_cutAll (12, v0R, v1I, v2I, 0, v5J, 0, 0, 0, 0, σ)
set_option maxRecDepth 20000 in
theorem E_Md_cutAll_0 (v0R : Nat) (σ : AM) : L_Md_cutAll_0 v0R σ = (gd (okO σ v0R 12) <| letT (sI σ v0R 3 (aI σ v0R 2)) fun σ2 => letT (sI σ2 v0R 2 (0 : Int32)) fun σ4 => L_Md_cutAll_1 v0R ((0 : Int32)) ((0 : Int32)) σ4) := by
  unfold L_Md_cutAll_0
  rw [lp_eq]
  show lpK (lp F_Md_cutAll) (T_Md_cutAll_0 v0R σ) = _
  unfold T_Md_cutAll_0
  simp only [lpK_ite, lq_inl, lq_inr, lpK_bnd, lpK_gd, lq_let]
  try rfl
set_option maxRecDepth 20000 in
theorem E_Md_cutAll_1 (v0R : Nat) (v1I : Int32) (v2I : Int32) (σ : AM) : L_Md_cutAll_1 v0R v1I v2I σ = (gd (okO σ v0R 12) <| if v2I < (aI σ v0R 3) then (gd (okO σ (aR σ v0R 1) 101) <| gd (inB v2I (aN σ (aR σ v0R 1))) <| letT (aI σ (aR σ v0R 1) v2I.toNatClampNeg) fun x4 => if x4 = (10 : Int32) then (L_Md_cutAll_2 v0R v1I v2I σ) else (if x4 = (32 : Int32) then (L_Md_cutAll_2 v0R v1I v2I σ) else (gd (okO σ (aR σ v0R 5) 101) <| gd (inB v1I (aN σ (aR σ v0R 5))) <| letT (sI σ (aR σ v0R 5) v1I.toNatClampNeg v2I) fun σ7 => bnd (M_Md_isLetter x4 σ7) fun r9 σ10 => if r9 = 0 then (bnd (M_Md_isDigit x4 σ10) fun r11 σ12 => if r11 = 0 then (letT (x4.toInt64) fun x13 => gd (okO σ12 v0R 12) <| gd (okO σ12 (aR σ12 v0R 4) 101) <| bnd (M_Md_isSignOf x4 σ12) fun r16 σ17 => if r16 = 0 then (L_Md_cutAll_11 v0R v1I v2I x13 (aR σ12 v0R 4) v1I ((4 : Int32)) σ17) else (L_Md_cutAll_11 v0R v1I v2I x13 (aR σ12 v0R 4) v1I ((3 : Int32)) σ17)) else (L_Md_cutAll_7 v0R v1I v2I v2I ((0 : Int64)) σ12)) else (L_Md_cutAll_3 v0R v1I v2I v2I ((0 : Int64)) σ10)))) else (gd (okO σ (aR σ v0R 4) 101) <| gd (inB v1I (aN σ (aR σ v0R 4))) <| letT (sI σ (aR σ v0R 4) v1I.toNatClampNeg (0 : Int32)) fun σ20 => gd (okO σ20 (aR σ20 v0R 5) 101) <| gd (inB v1I (aN σ20 (aR σ20 v0R 5))) <| letT (sI σ20 (aR σ20 v0R 5) v1I.toNatClampNeg (aI σ20 v0R 3)) fun σ24 => letT (sI σ24 v0R 7 (0 : Int32)) fun σ26 => letT (sI σ26 v0R 8 (0 : Int32)) fun σ28 => (some ((), σ28)))) := by
  unfold L_Md_cutAll_1
  rw [lp_eq]
  show lpK (lp F_Md_cutAll) (T_Md_cutAll_1 v0R v1I v2I σ) = _
  unfold T_Md_cutAll_1
  simp only [lpK_ite, lq_inl, lq_inr, lpK_bnd, lpK_gd, lq_let]
  try rfl
set_option maxRecDepth 20000 in
theorem E_Md_cutAll_2 (v0R : Nat) (v1I : Int32) (v2I : Int32) (σ : AM) : L_Md_cutAll_2 v0R v1I v2I σ = (L_Md_cutAll_1 v0R v1I (v2I + (1 : Int32)) σ) := by
  unfold L_Md_cutAll_2
  rw [lp_eq]
  show lpK (lp F_Md_cutAll) (T_Md_cutAll_2 v0R v1I v2I σ) = _
  unfold T_Md_cutAll_2
  simp only [lpK_ite, lq_inl, lq_inr, lpK_bnd, lpK_gd, lq_let]
  try rfl
set_option maxRecDepth 20000 in
theorem E_Md_cutAll_3 (v0R : Nat) (v1I : Int32) (v2I : Int32) (v4I : Int32) (v5J : Int64) (σ : AM) : L_Md_cutAll_3 v0R v1I v2I v4I v5J σ = (gd (okO σ v0R 12) <| if v2I < (aI σ v0R 3) then (gd (okO σ (aR σ v0R 1) 101) <| gd (inB v2I (aN σ (aR σ v0R 1))) <| bnd (M_Md_isLetter (aI σ (aR σ v0R 1) v2I.toNatClampNeg) σ) fun r4 σ5 => if r4 = 0 then (L_Md_cutAll_5 v0R v1I v2I v4I v5J σ5) else (if (v2I - v4I) < (8 : Int32) then (gd (okO σ5 v0R 12) <| gd (okO σ5 (aR σ5 v0R 1) 101) <| gd (inB v2I (aN σ5 (aR σ5 v0R 1))) <| bnd (M_Md_rank (aI σ5 (aR σ5 v0R 1) v2I.toNatClampNeg) σ5) fun r9 σ10 => L_Md_cutAll_4 v0R v1I v2I v4I (((37 : Int64) * v5J) + (r9.toInt64)) σ10) else (L_Md_cutAll_4 v0R v1I v2I v4I v5J σ5))) else (L_Md_cutAll_5 v0R v1I v2I v4I v5J σ)) := by
  unfold L_Md_cutAll_3
  rw [lp_eq]
  show lpK (lp F_Md_cutAll) (T_Md_cutAll_3 v0R v1I v2I v4I v5J σ) = _
  unfold T_Md_cutAll_3
  simp only [lpK_ite, lq_inl, lq_inr, lpK_bnd, lpK_gd, lq_let]
  try rfl
set_option maxRecDepth 20000 in
theorem E_Md_cutAll_4 (v0R : Nat) (v1I : Int32) (v2I : Int32) (v4I : Int32) (s0J : Int64) (σ : AM) : L_Md_cutAll_4 v0R v1I v2I v4I s0J σ = (L_Md_cutAll_3 v0R v1I (v2I + (1 : Int32)) v4I s0J σ) := by
  unfold L_Md_cutAll_4
  rw [lp_eq]
  show lpK (lp F_Md_cutAll) (T_Md_cutAll_4 v0R v1I v2I v4I s0J σ) = _
  unfold T_Md_cutAll_4
  simp only [lpK_ite, lq_inl, lq_inr, lpK_bnd, lpK_gd, lq_let]
  try rfl
set_option maxRecDepth 20000 in
theorem E_Md_cutAll_5 (v0R : Nat) (v1I : Int32) (v2I : Int32) (v4I : Int32) (v5J : Int64) (σ : AM) : L_Md_cutAll_5 v0R v1I v2I v4I v5J σ = (gd (okO σ v0R 12) <| gd (okO σ (aR σ v0R 4) 101) <| if (8 : Int32) < (v2I - v4I) then (L_Md_cutAll_6 v0R v1I v2I v5J (aR σ v0R 4) v1I ((4 : Int32)) σ) else (L_Md_cutAll_6 v0R v1I v2I v5J (aR σ v0R 4) v1I ((1 : Int32)) σ)) := by
  unfold L_Md_cutAll_5
  rw [lp_eq]
  show lpK (lp F_Md_cutAll) (T_Md_cutAll_5 v0R v1I v2I v4I v5J σ) = _
  unfold T_Md_cutAll_5
  simp only [lpK_ite, lq_inl, lq_inr, lpK_bnd, lpK_gd, lq_let]
  try rfl
set_option maxRecDepth 20000 in
theorem E_Md_cutAll_6 (v0R : Nat) (v1I : Int32) (v2I : Int32) (v5J : Int64) (s0R : Nat) (s1I : Int32) (s2I : Int32) (σ : AM) : L_Md_cutAll_6 v0R v1I v2I v5J s0R s1I s2I σ = (gd (okO σ s0R 101) <| gd (inB s1I (aN σ s0R)) <| letT (sI σ s0R s1I.toNatClampNeg s2I) fun σ3 => L_Md_cutAll_12 v0R v1I v2I v5J σ3) := by
  unfold L_Md_cutAll_6
  rw [lp_eq]
  show lpK (lp F_Md_cutAll) (T_Md_cutAll_6 v0R v1I v2I v5J s0R s1I s2I σ) = _
  unfold T_Md_cutAll_6
  simp only [lpK_ite, lq_inl, lq_inr, lpK_bnd, lpK_gd, lq_let]
  try rfl
set_option maxRecDepth 20000 in
theorem E_Md_cutAll_7 (v0R : Nat) (v1I : Int32) (v2I : Int32) (v4I : Int32) (v5J : Int64) (σ : AM) : L_Md_cutAll_7 v0R v1I v2I v4I v5J σ = (gd (okO σ v0R 12) <| if v2I < (aI σ v0R 3) then (gd (okO σ (aR σ v0R 1) 101) <| gd (inB v2I (aN σ (aR σ v0R 1))) <| bnd (M_Md_isDigit (aI σ (aR σ v0R 1) v2I.toNatClampNeg) σ) fun r4 σ5 => if r4 = 0 then (L_Md_cutAll_9 v0R v1I v2I v4I v5J σ5) else (if (v2I - v4I) < (4 : Int32) then (gd (okO σ5 v0R 12) <| gd (okO σ5 (aR σ5 v0R 1) 101) <| gd (inB v2I (aN σ5 (aR σ5 v0R 1))) <| L_Md_cutAll_8 v0R v1I v2I v4I ((((10 : Int64) * v5J) + ((aI σ5 (aR σ5 v0R 1) v2I.toNatClampNeg).toInt64)) - (48 : Int64)) σ5) else (L_Md_cutAll_8 v0R v1I v2I v4I v5J σ5))) else (L_Md_cutAll_9 v0R v1I v2I v4I v5J σ)) := by
  unfold L_Md_cutAll_7
  rw [lp_eq]
  show lpK (lp F_Md_cutAll) (T_Md_cutAll_7 v0R v1I v2I v4I v5J σ) = _
  unfold T_Md_cutAll_7
  simp only [lpK_ite, lq_inl, lq_inr, lpK_bnd, lpK_gd, lq_let]
  try rfl
set_option maxRecDepth 20000 in
theorem E_Md_cutAll_8 (v0R : Nat) (v1I : Int32) (v2I : Int32) (v4I : Int32) (s0J : Int64) (σ : AM) : L_Md_cutAll_8 v0R v1I v2I v4I s0J σ = (L_Md_cutAll_7 v0R v1I (v2I + (1 : Int32)) v4I s0J σ) := by
  unfold L_Md_cutAll_8
  rw [lp_eq]
  show lpK (lp F_Md_cutAll) (T_Md_cutAll_8 v0R v1I v2I v4I s0J σ) = _
  unfold T_Md_cutAll_8
  simp only [lpK_ite, lq_inl, lq_inr, lpK_bnd, lpK_gd, lq_let]
  try rfl
set_option maxRecDepth 20000 in
theorem E_Md_cutAll_9 (v0R : Nat) (v1I : Int32) (v2I : Int32) (v4I : Int32) (v5J : Int64) (σ : AM) : L_Md_cutAll_9 v0R v1I v2I v4I v5J σ = (gd (okO σ v0R 12) <| gd (okO σ (aR σ v0R 4) 101) <| if (4 : Int32) < (v2I - v4I) then (L_Md_cutAll_10 v0R v1I v2I v5J (aR σ v0R 4) v1I ((4 : Int32)) σ) else (L_Md_cutAll_10 v0R v1I v2I v5J (aR σ v0R 4) v1I ((2 : Int32)) σ)) := by
  unfold L_Md_cutAll_9
  rw [lp_eq]
  show lpK (lp F_Md_cutAll) (T_Md_cutAll_9 v0R v1I v2I v4I v5J σ) = _
  unfold T_Md_cutAll_9
  simp only [lpK_ite, lq_inl, lq_inr, lpK_bnd, lpK_gd, lq_let]
  try rfl
set_option maxRecDepth 20000 in
theorem E_Md_cutAll_10 (v0R : Nat) (v1I : Int32) (v2I : Int32) (v5J : Int64) (s0R : Nat) (s1I : Int32) (s2I : Int32) (σ : AM) : L_Md_cutAll_10 v0R v1I v2I v5J s0R s1I s2I σ = (gd (okO σ s0R 101) <| gd (inB s1I (aN σ s0R)) <| letT (sI σ s0R s1I.toNatClampNeg s2I) fun σ3 => L_Md_cutAll_12 v0R v1I v2I v5J σ3) := by
  unfold L_Md_cutAll_10
  rw [lp_eq]
  show lpK (lp F_Md_cutAll) (T_Md_cutAll_10 v0R v1I v2I v5J s0R s1I s2I σ) = _
  unfold T_Md_cutAll_10
  simp only [lpK_ite, lq_inl, lq_inr, lpK_bnd, lpK_gd, lq_let]
  try rfl
set_option maxRecDepth 20000 in
theorem E_Md_cutAll_11 (v0R : Nat) (v1I : Int32) (v2I : Int32) (v5J : Int64) (s0R : Nat) (s1I : Int32) (s2I : Int32) (σ : AM) : L_Md_cutAll_11 v0R v1I v2I v5J s0R s1I s2I σ = (gd (okO σ s0R 101) <| gd (inB s1I (aN σ s0R)) <| letT (sI σ s0R s1I.toNatClampNeg s2I) fun σ3 => L_Md_cutAll_12 v0R v1I (v2I + (1 : Int32)) v5J σ3) := by
  unfold L_Md_cutAll_11
  rw [lp_eq]
  show lpK (lp F_Md_cutAll) (T_Md_cutAll_11 v0R v1I v2I v5J s0R s1I s2I σ) = _
  unfold T_Md_cutAll_11
  simp only [lpK_ite, lq_inl, lq_inr, lpK_bnd, lpK_gd, lq_let]
  try rfl
set_option maxRecDepth 20000 in
theorem E_Md_cutAll_12 (v0R : Nat) (v1I : Int32) (v2I : Int32) (v5J : Int64) (σ : AM) : L_Md_cutAll_12 v0R v1I v2I v5J σ = (gd (okO σ v0R 12) <| gd (okO σ (aR σ v0R 6) 102) <| gd (inB v1I (aN σ (aR σ v0R 6))) <| letT (sL σ (aR σ v0R 6) v1I.toNatClampNeg v5J) fun σ4 => L_Md_cutAll_1 v0R (v1I + (1 : Int32)) v2I σ4) := by
  unfold L_Md_cutAll_12
  rw [lp_eq]
  show lpK (lp F_Md_cutAll) (T_Md_cutAll_12 v0R v1I v2I v5J σ) = _
  unfold T_Md_cutAll_12
  simp only [lpK_ite, lq_inl, lq_inr, lpK_bnd, lpK_gd, lq_let]
  try rfl
noncomputable def M_Md_cutAll (v0R : Nat) (σ : AM) : Option (Unit × AM) := mw σ (L_Md_cutAll_0 v0R σ)
def I_Md_cutAll (G : GX) (p : Program) (l : Launch) (e : Env) (s : State) (m : MethodId) (args : Array Value) (below : List Frame) (meth : Method) (c : Code) (z0 u0 n : Nat) : Prop :=
  (∀ (v0R : Nat) (σ : AM), VX (QM eV G args s below z0 u0) G p l e s m args below meth c 2 z0 u0 7 (lpn F_Md_cutAll n (0, v0R, 0, 0, 0, 0, 0, 0, 0, 0, σ)) 0 [(0, .ref v0R)] [] σ) ∧
  (∀ (v0R : Nat) (v1I : Int32) (v2I : Int32) (σ : AM), VX (QM eV G args s below z0 u0) G p l e s m args below meth c 2 z0 u0 7 (lpn F_Md_cutAll n (1, v0R, v1I, v2I, 0, 0, 0, 0, 0, 0, σ)) 17 [(0, .ref v0R), (1, .int v1I), (2, .int v2I)] [] σ) ∧
  (∀ (v0R : Nat) (v1I : Int32) (v2I : Int32) (σ : AM), VX (QM eV G args s below z0 u0) G p l e s m args below meth c 2 z0 u0 7 (lpn F_Md_cutAll n (2, v0R, v1I, v2I, 0, 0, 0, 0, 0, 0, σ)) 44 [(0, .ref v0R), (1, .int v1I), (2, .int v2I)] [] σ) ∧
  (∀ (v0R : Nat) (v1I : Int32) (v2I : Int32) (v4I : Int32) (v5J : Int64) (σ : AM), VX (QM eV G args s below z0 u0) G p l e s m args below meth c 2 z0 u0 7 (lpn F_Md_cutAll n (3, v0R, v1I, v2I, v4I, v5J, 0, 0, 0, 0, σ)) 70 [(0, .ref v0R), (1, .int v1I), (2, .int v2I), (4, .int v4I), (5, .long v5J)] [] σ) ∧
  (∀ (v0R : Nat) (v1I : Int32) (v2I : Int32) (v4I : Int32) (s0J : Int64) (σ : AM), VX (QM eV G args s below z0 u0) G p l e s m args below meth c 2 z0 u0 7 (lpn F_Md_cutAll n (4, v0R, v1I, v2I, v4I, 0, s0J, 0, 0, 0, σ)) 121 [(0, .ref v0R), (1, .int v1I), (2, .int v2I), (4, .int v4I)] [.long s0J] σ) ∧
  (∀ (v0R : Nat) (v1I : Int32) (v2I : Int32) (v4I : Int32) (v5J : Int64) (σ : AM), VX (QM eV G args s below z0 u0) G p l e s m args below meth c 2 z0 u0 7 (lpn F_Md_cutAll n (5, v0R, v1I, v2I, v4I, v5J, 0, 0, 0, 0, σ)) 129 [(0, .ref v0R), (1, .int v1I), (2, .int v2I), (4, .int v4I), (5, .long v5J)] [] σ) ∧
  (∀ (v0R : Nat) (v1I : Int32) (v2I : Int32) (v5J : Int64) (s0R : Nat) (s1I : Int32) (s2I : Int32) (σ : AM), VX (QM eV G args s below z0 u0) G p l e s m args below meth c 2 z0 u0 7 (lpn F_Md_cutAll n (6, v0R, v1I, v2I, 0, v5J, 0, s0R, s1I, s2I, σ)) 148 [(0, .ref v0R), (1, .int v1I), (2, .int v2I), (5, .long v5J)] [.int s2I, .int s1I, .ref s0R] σ) ∧
  (∀ (v0R : Nat) (v1I : Int32) (v2I : Int32) (v4I : Int32) (v5J : Int64) (σ : AM), VX (QM eV G args s below z0 u0) G p l e s m args below meth c 2 z0 u0 7 (lpn F_Md_cutAll n (7, v0R, v1I, v2I, v4I, v5J, 0, 0, 0, 0, σ)) 159 [(0, .ref v0R), (1, .int v1I), (2, .int v2I), (4, .int v4I), (5, .long v5J)] [] σ) ∧
  (∀ (v0R : Nat) (v1I : Int32) (v2I : Int32) (v4I : Int32) (s0J : Int64) (σ : AM), VX (QM eV G args s below z0 u0) G p l e s m args below meth c 2 z0 u0 7 (lpn F_Md_cutAll n (8, v0R, v1I, v2I, v4I, 0, s0J, 0, 0, 0, σ)) 210 [(0, .ref v0R), (1, .int v1I), (2, .int v2I), (4, .int v4I)] [.long s0J] σ) ∧
  (∀ (v0R : Nat) (v1I : Int32) (v2I : Int32) (v4I : Int32) (v5J : Int64) (σ : AM), VX (QM eV G args s below z0 u0) G p l e s m args below meth c 2 z0 u0 7 (lpn F_Md_cutAll n (9, v0R, v1I, v2I, v4I, v5J, 0, 0, 0, 0, σ)) 218 [(0, .ref v0R), (1, .int v1I), (2, .int v2I), (4, .int v4I), (5, .long v5J)] [] σ) ∧
  (∀ (v0R : Nat) (v1I : Int32) (v2I : Int32) (v5J : Int64) (s0R : Nat) (s1I : Int32) (s2I : Int32) (σ : AM), VX (QM eV G args s below z0 u0) G p l e s m args below meth c 2 z0 u0 7 (lpn F_Md_cutAll n (10, v0R, v1I, v2I, 0, v5J, 0, s0R, s1I, s2I, σ)) 236 [(0, .ref v0R), (1, .int v1I), (2, .int v2I), (5, .long v5J)] [.int s2I, .int s1I, .ref s0R] σ) ∧
  (∀ (v0R : Nat) (v1I : Int32) (v2I : Int32) (v5J : Int64) (s0R : Nat) (s1I : Int32) (s2I : Int32) (σ : AM), VX (QM eV G args s below z0 u0) G p l e s m args below meth c 2 z0 u0 7 (lpn F_Md_cutAll n (11, v0R, v1I, v2I, 0, v5J, 0, s0R, s1I, s2I, σ)) 261 [(0, .ref v0R), (1, .int v1I), (2, .int v2I), (5, .long v5J)] [.int s2I, .int s1I, .ref s0R] σ) ∧
  (∀ (v0R : Nat) (v1I : Int32) (v2I : Int32) (v5J : Int64) (σ : AM), VX (QM eV G args s below z0 u0) G p l e s m args below meth c 2 z0 u0 7 (lpn F_Md_cutAll n (12, v0R, v1I, v2I, 0, v5J, 0, 0, 0, 0, σ)) 265 [(0, .ref v0R), (1, .int v1I), (2, .int v2I), (5, .long v5J)] [] σ)
set_option maxRecDepth 20000 in
theorem s_Md_cutAll_0 {G : GX} {p : Program} {l : Launch} {e : Env} {s : State} {m : MethodId} {args : Array Value} {below : List Frame} {meth : Method} {c : Code} {z0 u0 n : Nat} (C : Cx G p s m args meth c prog_14_method_9_code 7 "BellPlateModel" ((none))) (IH : I_Md_cutAll G p l e s m args below meth c z0 u0 n) (v0R : Nat) (σ : AM) : VX (QM eV G args s below z0 u0) G p l e s m args below meth c 2 z0 u0 7 (lpK (lpn F_Md_cutAll n) (T_Md_cutAll_0 v0R σ)) 0 [(0, .ref v0R)] [] σ := by
  unfold T_Md_cutAll_0
  refine x_aload_n C d_Md_cutAll_0 0 rfl ?_
  refine x_aload_n C d_Md_cutAll_1 0 rfl ?_
  refine x_gd (fun h1 => ?_)
  refine x_getI (k := 2) C (okO_iff.mp h1) rfl j11_ok (by decide) rfl w1854 d_Md_cutAll_2 ?_
  refine x_putI (k := 3) C (okO_iff.mp h1) rfl j11_ok y11_ok n11_ok (by decide) rfl rfl rfl rfl w1855 d_Md_cutAll_5 ?_
  refine x_letS (fun σ2 e3 => ?_)
  refine x_aload_n C d_Md_cutAll_8 0 rfl ?_
  refine x_iconst (v := (0 : Int32)) C d_Md_cutAll_9 (by decide) ?_
  refine x_putI (k := 2) C (by first | exact (okO_iff.mp h1) | (rw [e3]; exact (okO_iff.mp h1))) rfl j11_ok y11_ok n11_ok (by decide) rfl rfl rfl rfl w1854 d_Md_cutAll_10 ?_
  refine x_letS (fun σ4 e5 => ?_)
  refine x_iconst (v := (0 : Int32)) C d_Md_cutAll_13 (by decide) ?_
  refine x_istore_n (lv' := [(1, .int (0 : Int32)), (0, .ref v0R)]) C d_Md_cutAll_14 (by decide) rfl rfl ?_
  refine x_iconst (v := (0 : Int32)) C d_Md_cutAll_15 (by decide) ?_
  refine x_istore_n (lv' := [(2, .int (0 : Int32)), (1, .int (0 : Int32)), (0, .ref v0R)]) C d_Md_cutAll_16 (by decide) rfl rfl ?_
  refine x_lv [2, 1, 0] rfl ?_
  exact IH.2.1 v0R ((0 : Int32)) ((0 : Int32)) (σ4)
set_option maxRecDepth 20000 in
theorem s_Md_cutAll_1 {G : GX} {p : Program} {l : Launch} {e : Env} {s : State} {m : MethodId} {args : Array Value} {below : List Frame} {meth : Method} {c : Code} {z0 u0 n : Nat} (C : Cx G p s m args meth c prog_14_method_9_code 7 "BellPlateModel" ((none))) (IH : I_Md_cutAll G p l e s m args below meth c z0 u0 n) (v0R : Nat) (v1I : Int32) (v2I : Int32) (σ : AM) : VX (QM eV G args s below z0 u0) G p l e s m args below meth c 2 z0 u0 7 (lpK (lpn F_Md_cutAll n) (T_Md_cutAll_1 v0R v1I v2I σ)) 17 [(0, .ref v0R), (1, .int v1I), (2, .int v2I)] [] σ := by
  unfold T_Md_cutAll_1
  refine x_iload_n C d_Md_cutAll_17 2 rfl ?_
  refine x_aload_n C d_Md_cutAll_18 0 rfl ?_
  refine x_gd (fun h1 => ?_)
  refine x_getI (k := 3) C (okO_iff.mp h1) rfl j11_ok (by decide) rfl w1855 d_Md_cutAll_19 ?_
  refine x_icmp_ge (tgt := 279) C d_Md_cutAll_22 (by decide) (fun _ => ?_) (fun _ => ?_)
  · refine x_aload_n C d_Md_cutAll_25 0 rfl ?_
    refine x_gd (fun h2 => ?_)
    refine x_getR (k := 1) (kv := 101) C (okO_iff.mp h1) rfl j11_ok (by decide) rfl (okO_iff.mp h2) (by decide) w1853 d_Md_cutAll_26 ?_
    refine x_iload_n C d_Md_cutAll_29 2 rfl ?_
    refine x_gd (fun h3 => ?_)
    refine x_aldI C (okO_iff.mp h2) (inB_iff.mp h3) d_Md_cutAll_30 ?_
    refine x_letI (fun x4 _ => ?_)
    refine x_istore_n (lv' := [(3, .int x4), (0, .ref v0R), (1, .int v1I), (2, .int v2I)]) C d_Md_cutAll_31 (by decide) rfl rfl ?_
    refine x_iload_n C d_Md_cutAll_32 0 rfl ?_
    refine x_bipush (v := (10 : Int32)) C d_Md_cutAll_33 (by decide) ?_
    refine x_icmp_eq (tgt := 44) C d_Md_cutAll_35 (by decide) (fun _ => ?_) (fun _ => ?_)
    · refine x_lv [1, 2, 3] rfl ?_
      exact IH.2.2.1 v0R v1I v2I (σ)
    · refine x_iload_n C d_Md_cutAll_38 0 rfl ?_
      refine x_bipush (v := (32 : Int32)) C d_Md_cutAll_39 (by decide) ?_
      refine x_icmp_ne (tgt := 50) C d_Md_cutAll_41 (by decide) (fun _ => ?_) (fun _ => ?_)
      · refine x_lv [1, 2, 3] rfl ?_
        exact IH.2.2.1 v0R v1I v2I (σ)
      · refine x_iload_n C d_Md_cutAll_50 3 rfl ?_
        refine x_istore (lv' := [(4, .int v2I), (3, .int x4), (0, .ref v0R), (1, .int v1I), (2, .int v2I)]) C d_Md_cutAll_51 (by decide) rfl ?_
        refine x_lconst (v := (0 : Int64)) C d_Md_cutAll_53 (by decide) ?_
        refine x_lstore (lv' := [(5, .long (0 : Int64)), (4, .int v2I), (3, .int x4), (0, .ref v0R), (1, .int v1I), (2, .int v2I)]) C d_Md_cutAll_54 (by decide) rfl ?_
        refine x_aload_n C d_Md_cutAll_56 3 rfl ?_
        refine x_gd (fun h5 => ?_)
        refine x_getR (k := 5) (kv := 101) C (okO_iff.mp h1) rfl j11_ok (by decide) rfl (okO_iff.mp h5) (by decide) w1857 d_Md_cutAll_57 ?_
        refine x_iload_n C d_Md_cutAll_60 4 rfl ?_
        refine x_iload_n C d_Md_cutAll_61 5 rfl ?_
        refine x_gd (fun h6 => ?_)
        refine x_astI C (okO_iff.mp h5) (inB_iff.mp h6) d_Md_cutAll_62 ?_
        refine x_letS (fun σ7 e8 => ?_)
        refine x_iload_n C d_Md_cutAll_63 2 rfl ?_
        refine x_callSI (As := [.int x4]) C (c_Md_isLetter G l x4 σ7) w2090 w2089 w2091 w134 k_Md_isLetter rfl (by decide) (by decide) rfl (Nat.le_of_ble_eq_true rfl) d_Md_cutAll_64 (fun r9 σ10 => ?_)
        refine x_if_eq (tgt := 152) C d_Md_cutAll_67 (by decide) (fun _ => ?_) (fun _ => ?_)
        · refine x_iload_n C d_Md_cutAll_152 2 rfl ?_
          refine x_callSI (As := [.int x4]) C (c_Md_isDigit G l x4 σ10) w2097 w2096 w2098 w134 k_Md_isDigit rfl (by decide) (by decide) rfl (Nat.le_of_ble_eq_true rfl) d_Md_cutAll_153 (fun r11 σ12 => ?_)
          refine x_if_eq (tgt := 240) C d_Md_cutAll_156 (by decide) (fun _ => ?_) (fun _ => ?_)
          · refine x_iload_n C d_Md_cutAll_240 2 rfl ?_
            refine x_i2l C d_Md_cutAll_241 ?_
            refine x_letJ (fun x13 _ => ?_)
            refine x_lstore (lv' := [(5, .long x13), (4, .int v2I), (3, .int x4), (0, .ref v0R), (1, .int v1I), (2, .int v2I)]) C d_Md_cutAll_242 (by decide) rfl ?_
            refine x_aload_n C d_Md_cutAll_244 3 rfl ?_
            refine x_gd (fun h14 => ?_)
            refine x_gd (fun h15 => ?_)
            refine x_getR (k := 4) (kv := 101) C (okO_iff.mp h14) rfl j11_ok (by decide) rfl (okO_iff.mp h15) (by decide) w1856 d_Md_cutAll_245 ?_
            refine x_iload_n C d_Md_cutAll_248 4 rfl ?_
            refine x_iload_n C d_Md_cutAll_249 2 rfl ?_
            refine x_callSI (As := [.int x4]) C (c_Md_isSignOf G l x4 σ12) w2102 w2101 w2103 w134 k_Md_isSignOf rfl (by decide) (by decide) rfl (Nat.le_of_ble_eq_true rfl) d_Md_cutAll_250 (fun r16 σ17 => ?_)
            refine x_if_eq (tgt := 260) C d_Md_cutAll_253 (by decide) (fun _ => ?_) (fun _ => ?_)
            · refine x_iconst (v := (4 : Int32)) C d_Md_cutAll_260 (by decide) ?_
              refine x_lv [3, 4, 5, 0] rfl ?_
              exact IH.2.2.2.2.2.2.2.2.2.2.2.1 v0R v1I v2I x13 (aR σ12 v0R 4) v1I ((4 : Int32)) (σ17)
            · refine x_iconst (v := (3 : Int32)) C d_Md_cutAll_256 (by decide) ?_
              refine x_goto (tgt := 261) C d_Md_cutAll_257 (by decide) ?_
              refine x_lv [3, 4, 5, 0] rfl ?_
              exact IH.2.2.2.2.2.2.2.2.2.2.2.1 v0R v1I v2I x13 (aR σ12 v0R 4) v1I ((3 : Int32)) (σ17)
          · refine x_lv [3, 4, 5, 1, 0] rfl ?_
            exact IH.2.2.2.2.2.2.2.1 v0R v1I v2I v2I ((0 : Int64)) (σ12)
        · refine x_lv [3, 4, 5, 1, 0] rfl ?_
          exact IH.2.2.2.1 v0R v1I v2I v2I ((0 : Int64)) (σ10)
  · refine x_aload_n C d_Md_cutAll_279 0 rfl ?_
    refine x_gd (fun h18 => ?_)
    refine x_getR (k := 4) (kv := 101) C (okO_iff.mp h1) rfl j11_ok (by decide) rfl (okO_iff.mp h18) (by decide) w1856 d_Md_cutAll_280 ?_
    refine x_iload_n C d_Md_cutAll_283 1 rfl ?_
    refine x_iconst (v := (0 : Int32)) C d_Md_cutAll_284 (by decide) ?_
    refine x_gd (fun h19 => ?_)
    refine x_astI C (okO_iff.mp h18) (inB_iff.mp h19) d_Md_cutAll_285 ?_
    refine x_letS (fun σ20 e21 => ?_)
    refine x_aload_n C d_Md_cutAll_286 0 rfl ?_
    refine x_gd (fun h22 => ?_)
    refine x_getR (k := 5) (kv := 101) C (by first | exact (okO_iff.mp h1) | (rw [e21]; exact (okO_iff.mp h1))) rfl j11_ok (by decide) rfl (okO_iff.mp h22) (by decide) w1857 d_Md_cutAll_287 ?_
    refine x_iload_n C d_Md_cutAll_290 1 rfl ?_
    refine x_aload_n C d_Md_cutAll_291 0 rfl ?_
    refine x_getI (k := 3) C (by first | exact (okO_iff.mp h1) | (rw [e21]; exact (okO_iff.mp h1))) rfl j11_ok (by decide) rfl w1855 d_Md_cutAll_292 ?_
    refine x_gd (fun h23 => ?_)
    refine x_astI C (okO_iff.mp h22) (inB_iff.mp h23) d_Md_cutAll_295 ?_
    refine x_letS (fun σ24 e25 => ?_)
    refine x_aload_n C d_Md_cutAll_296 0 rfl ?_
    refine x_iconst (v := (0 : Int32)) C d_Md_cutAll_297 (by decide) ?_
    refine x_putI (k := 7) C (by first | exact (okO_iff.mp h1) | (rw [e25, e21]; exact (okO_iff.mp h1))) rfl j11_ok y11_ok n11_ok (by decide) rfl rfl rfl rfl w1859 d_Md_cutAll_298 ?_
    refine x_letS (fun σ26 e27 => ?_)
    refine x_aload_n C d_Md_cutAll_301 0 rfl ?_
    refine x_iconst (v := (0 : Int32)) C d_Md_cutAll_302 (by decide) ?_
    refine x_putI (k := 8) C (by first | exact (okO_iff.mp h1) | (rw [e27, e25, e21]; exact (okO_iff.mp h1))) rfl j11_ok y11_ok n11_ok (by decide) rfl rfl rfl rfl w1860 d_Md_cutAll_303 ?_
    refine x_letS (fun σ28 e29 => ?_)
    exact x_vret C d_Md_cutAll_306
set_option maxRecDepth 20000 in
theorem s_Md_cutAll_2 {G : GX} {p : Program} {l : Launch} {e : Env} {s : State} {m : MethodId} {args : Array Value} {below : List Frame} {meth : Method} {c : Code} {z0 u0 n : Nat} (C : Cx G p s m args meth c prog_14_method_9_code 7 "BellPlateModel" ((none))) (IH : I_Md_cutAll G p l e s m args below meth c z0 u0 n) (v0R : Nat) (v1I : Int32) (v2I : Int32) (σ : AM) : VX (QM eV G args s below z0 u0) G p l e s m args below meth c 2 z0 u0 7 (lpK (lpn F_Md_cutAll n) (T_Md_cutAll_2 v0R v1I v2I σ)) 44 [(0, .ref v0R), (1, .int v1I), (2, .int v2I)] [] σ := by
  unfold T_Md_cutAll_2
  refine x_iinc (v := v2I + (1 : Int32)) (lv' := [(2, .int (v2I + (1 : Int32))), (0, .ref v0R), (1, .int v1I)]) C d_Md_cutAll_44 2 rfl rfl (by decide) rfl ?_
  refine x_goto (tgt := 17) C d_Md_cutAll_47 (by decide) ?_
  refine x_lv [1, 2, 0] rfl ?_
  exact IH.2.1 v0R v1I (v2I + (1 : Int32)) (σ)
set_option maxRecDepth 20000 in
theorem s_Md_cutAll_3 {G : GX} {p : Program} {l : Launch} {e : Env} {s : State} {m : MethodId} {args : Array Value} {below : List Frame} {meth : Method} {c : Code} {z0 u0 n : Nat} (C : Cx G p s m args meth c prog_14_method_9_code 7 "BellPlateModel" ((none))) (IH : I_Md_cutAll G p l e s m args below meth c z0 u0 n) (v0R : Nat) (v1I : Int32) (v2I : Int32) (v4I : Int32) (v5J : Int64) (σ : AM) : VX (QM eV G args s below z0 u0) G p l e s m args below meth c 2 z0 u0 7 (lpK (lpn F_Md_cutAll n) (T_Md_cutAll_3 v0R v1I v2I v4I v5J σ)) 70 [(0, .ref v0R), (1, .int v1I), (2, .int v2I), (4, .int v4I), (5, .long v5J)] [] σ := by
  unfold T_Md_cutAll_3
  refine x_iload_n C d_Md_cutAll_70 2 rfl ?_
  refine x_aload_n C d_Md_cutAll_71 0 rfl ?_
  refine x_gd (fun h1 => ?_)
  refine x_getI (k := 3) C (okO_iff.mp h1) rfl j11_ok (by decide) rfl w1855 d_Md_cutAll_72 ?_
  refine x_icmp_ge (tgt := 129) C d_Md_cutAll_75 (by decide) (fun _ => ?_) (fun _ => ?_)
  · refine x_aload_n C d_Md_cutAll_78 0 rfl ?_
    refine x_gd (fun h2 => ?_)
    refine x_getR (k := 1) (kv := 101) C (okO_iff.mp h1) rfl j11_ok (by decide) rfl (okO_iff.mp h2) (by decide) w1853 d_Md_cutAll_79 ?_
    refine x_iload_n C d_Md_cutAll_82 2 rfl ?_
    refine x_gd (fun h3 => ?_)
    refine x_aldI C (okO_iff.mp h2) (inB_iff.mp h3) d_Md_cutAll_83 ?_
    refine x_callSI (As := [.int (aI σ (aR σ v0R 1) v2I.toNatClampNeg)]) C (c_Md_isLetter G l (aI σ (aR σ v0R 1) v2I.toNatClampNeg) σ) w2090 w2089 w2091 w134 k_Md_isLetter rfl (by decide) (by decide) rfl (Nat.le_of_ble_eq_true rfl) d_Md_cutAll_84 (fun r4 σ5 => ?_)
    refine x_if_eq (tgt := 129) C d_Md_cutAll_87 (by decide) (fun _ => ?_) (fun _ => ?_)
    · exact IH.2.2.2.2.2.1 v0R v1I v2I v4I v5J (σ5)
    · refine x_iload_n C d_Md_cutAll_90 2 rfl ?_
      refine x_iload C d_Md_cutAll_91 3 rfl ?_
      refine x_isub C d_Md_cutAll_93 ?_
      refine x_bipush (v := (8 : Int32)) C d_Md_cutAll_94 (by decide) ?_
      refine x_icmp_ge (tgt := 119) C d_Md_cutAll_96 (by decide) (fun _ => ?_) (fun _ => ?_)
      · refine x_ldc2 C d_Md_cutAll_99 w2092 ?_
        refine x_lload C d_Md_cutAll_102 4 rfl ?_
        refine x_lmul C d_Md_cutAll_104 ?_
        refine x_aload_n C d_Md_cutAll_105 0 rfl ?_
        refine x_gd (fun h6 => ?_)
        refine x_gd (fun h7 => ?_)
        refine x_getR (k := 1) (kv := 101) C (okO_iff.mp h6) rfl j11_ok (by decide) rfl (okO_iff.mp h7) (by decide) w1853 d_Md_cutAll_106 ?_
        refine x_iload_n C d_Md_cutAll_109 2 rfl ?_
        refine x_gd (fun h8 => ?_)
        refine x_aldI C (okO_iff.mp h7) (inB_iff.mp h8) d_Md_cutAll_110 ?_
        refine x_callSI (As := [.int (aI σ5 (aR σ5 v0R 1) v2I.toNatClampNeg)]) C (c_Md_rank G l (aI σ5 (aR σ5 v0R 1) v2I.toNatClampNeg) σ5) w2094 w2093 w2095 w134 k_Md_rank rfl (by decide) (by decide) rfl (Nat.le_of_ble_eq_true rfl) d_Md_cutAll_111 (fun r9 σ10 => ?_)
        refine x_i2l C d_Md_cutAll_114 ?_
        refine x_ladd C d_Md_cutAll_115 ?_
        refine x_goto (tgt := 121) C d_Md_cutAll_116 (by decide) ?_
        refine x_lv [0, 1, 2, 3] rfl ?_
        exact IH.2.2.2.2.1 v0R v1I v2I v4I (((37 : Int64) * v5J) + (r9.toInt64)) (σ10)
      · refine x_lload C d_Md_cutAll_119 4 rfl ?_
        refine x_lv [0, 1, 2, 3] rfl ?_
        exact IH.2.2.2.2.1 v0R v1I v2I v4I v5J (σ5)
  · exact IH.2.2.2.2.2.1 v0R v1I v2I v4I v5J (σ)
set_option maxRecDepth 20000 in
theorem s_Md_cutAll_4 {G : GX} {p : Program} {l : Launch} {e : Env} {s : State} {m : MethodId} {args : Array Value} {below : List Frame} {meth : Method} {c : Code} {z0 u0 n : Nat} (C : Cx G p s m args meth c prog_14_method_9_code 7 "BellPlateModel" ((none))) (IH : I_Md_cutAll G p l e s m args below meth c z0 u0 n) (v0R : Nat) (v1I : Int32) (v2I : Int32) (v4I : Int32) (s0J : Int64) (σ : AM) : VX (QM eV G args s below z0 u0) G p l e s m args below meth c 2 z0 u0 7 (lpK (lpn F_Md_cutAll n) (T_Md_cutAll_4 v0R v1I v2I v4I s0J σ)) 121 [(0, .ref v0R), (1, .int v1I), (2, .int v2I), (4, .int v4I)] [.long s0J] σ := by
  unfold T_Md_cutAll_4
  refine x_lstore (lv' := [(5, .long s0J), (0, .ref v0R), (1, .int v1I), (2, .int v2I), (4, .int v4I)]) C d_Md_cutAll_121 (by decide) rfl ?_
  refine x_iinc (v := v2I + (1 : Int32)) (lv' := [(2, .int (v2I + (1 : Int32))), (5, .long s0J), (0, .ref v0R), (1, .int v1I), (4, .int v4I)]) C d_Md_cutAll_123 3 rfl rfl (by decide) rfl ?_
  refine x_goto (tgt := 70) C d_Md_cutAll_126 (by decide) ?_
  refine x_lv [2, 3, 0, 4, 1] rfl ?_
  exact IH.2.2.2.1 v0R v1I (v2I + (1 : Int32)) v4I s0J (σ)
set_option maxRecDepth 20000 in
theorem s_Md_cutAll_5 {G : GX} {p : Program} {l : Launch} {e : Env} {s : State} {m : MethodId} {args : Array Value} {below : List Frame} {meth : Method} {c : Code} {z0 u0 n : Nat} (C : Cx G p s m args meth c prog_14_method_9_code 7 "BellPlateModel" ((none))) (IH : I_Md_cutAll G p l e s m args below meth c z0 u0 n) (v0R : Nat) (v1I : Int32) (v2I : Int32) (v4I : Int32) (v5J : Int64) (σ : AM) : VX (QM eV G args s below z0 u0) G p l e s m args below meth c 2 z0 u0 7 (lpK (lpn F_Md_cutAll n) (T_Md_cutAll_5 v0R v1I v2I v4I v5J σ)) 129 [(0, .ref v0R), (1, .int v1I), (2, .int v2I), (4, .int v4I), (5, .long v5J)] [] σ := by
  unfold T_Md_cutAll_5
  refine x_aload_n C d_Md_cutAll_129 0 rfl ?_
  refine x_gd (fun h1 => ?_)
  refine x_gd (fun h2 => ?_)
  refine x_getR (k := 4) (kv := 101) C (okO_iff.mp h1) rfl j11_ok (by decide) rfl (okO_iff.mp h2) (by decide) w1856 d_Md_cutAll_130 ?_
  refine x_iload_n C d_Md_cutAll_133 1 rfl ?_
  refine x_iload_n C d_Md_cutAll_134 2 rfl ?_
  refine x_iload C d_Md_cutAll_135 3 rfl ?_
  refine x_isub C d_Md_cutAll_137 ?_
  refine x_bipush (v := (8 : Int32)) C d_Md_cutAll_138 (by decide) ?_
  refine x_icmp_le (tgt := 147) C d_Md_cutAll_140 (by decide) (fun _ => ?_) (fun _ => ?_)
  · refine x_iconst (v := (4 : Int32)) C d_Md_cutAll_143 (by decide) ?_
    refine x_goto (tgt := 148) C d_Md_cutAll_144 (by decide) ?_
    refine x_lv [0, 1, 2, 4] rfl ?_
    exact IH.2.2.2.2.2.2.1 v0R v1I v2I v5J (aR σ v0R 4) v1I ((4 : Int32)) (σ)
  · refine x_iconst (v := (1 : Int32)) C d_Md_cutAll_147 (by decide) ?_
    refine x_lv [0, 1, 2, 4] rfl ?_
    exact IH.2.2.2.2.2.2.1 v0R v1I v2I v5J (aR σ v0R 4) v1I ((1 : Int32)) (σ)
set_option maxRecDepth 20000 in
theorem s_Md_cutAll_6 {G : GX} {p : Program} {l : Launch} {e : Env} {s : State} {m : MethodId} {args : Array Value} {below : List Frame} {meth : Method} {c : Code} {z0 u0 n : Nat} (C : Cx G p s m args meth c prog_14_method_9_code 7 "BellPlateModel" ((none))) (IH : I_Md_cutAll G p l e s m args below meth c z0 u0 n) (v0R : Nat) (v1I : Int32) (v2I : Int32) (v5J : Int64) (s0R : Nat) (s1I : Int32) (s2I : Int32) (σ : AM) : VX (QM eV G args s below z0 u0) G p l e s m args below meth c 2 z0 u0 7 (lpK (lpn F_Md_cutAll n) (T_Md_cutAll_6 v0R v1I v2I v5J s0R s1I s2I σ)) 148 [(0, .ref v0R), (1, .int v1I), (2, .int v2I), (5, .long v5J)] [.int s2I, .int s1I, .ref s0R] σ := by
  unfold T_Md_cutAll_6
  refine x_gd (fun h1 => ?_)
  refine x_gd (fun h2 => ?_)
  refine x_astI C (okO_iff.mp h1) (inB_iff.mp h2) d_Md_cutAll_148 ?_
  refine x_letS (fun σ3 e4 => ?_)
  refine x_goto (tgt := 265) C d_Md_cutAll_149 (by decide) ?_
  exact IH.2.2.2.2.2.2.2.2.2.2.2.2 v0R v1I v2I v5J (σ3)
set_option maxRecDepth 20000 in
theorem s_Md_cutAll_7 {G : GX} {p : Program} {l : Launch} {e : Env} {s : State} {m : MethodId} {args : Array Value} {below : List Frame} {meth : Method} {c : Code} {z0 u0 n : Nat} (C : Cx G p s m args meth c prog_14_method_9_code 7 "BellPlateModel" ((none))) (IH : I_Md_cutAll G p l e s m args below meth c z0 u0 n) (v0R : Nat) (v1I : Int32) (v2I : Int32) (v4I : Int32) (v5J : Int64) (σ : AM) : VX (QM eV G args s below z0 u0) G p l e s m args below meth c 2 z0 u0 7 (lpK (lpn F_Md_cutAll n) (T_Md_cutAll_7 v0R v1I v2I v4I v5J σ)) 159 [(0, .ref v0R), (1, .int v1I), (2, .int v2I), (4, .int v4I), (5, .long v5J)] [] σ := by
  unfold T_Md_cutAll_7
  refine x_iload_n C d_Md_cutAll_159 2 rfl ?_
  refine x_aload_n C d_Md_cutAll_160 0 rfl ?_
  refine x_gd (fun h1 => ?_)
  refine x_getI (k := 3) C (okO_iff.mp h1) rfl j11_ok (by decide) rfl w1855 d_Md_cutAll_161 ?_
  refine x_icmp_ge (tgt := 218) C d_Md_cutAll_164 (by decide) (fun _ => ?_) (fun _ => ?_)
  · refine x_aload_n C d_Md_cutAll_167 0 rfl ?_
    refine x_gd (fun h2 => ?_)
    refine x_getR (k := 1) (kv := 101) C (okO_iff.mp h1) rfl j11_ok (by decide) rfl (okO_iff.mp h2) (by decide) w1853 d_Md_cutAll_168 ?_
    refine x_iload_n C d_Md_cutAll_171 2 rfl ?_
    refine x_gd (fun h3 => ?_)
    refine x_aldI C (okO_iff.mp h2) (inB_iff.mp h3) d_Md_cutAll_172 ?_
    refine x_callSI (As := [.int (aI σ (aR σ v0R 1) v2I.toNatClampNeg)]) C (c_Md_isDigit G l (aI σ (aR σ v0R 1) v2I.toNatClampNeg) σ) w2097 w2096 w2098 w134 k_Md_isDigit rfl (by decide) (by decide) rfl (Nat.le_of_ble_eq_true rfl) d_Md_cutAll_173 (fun r4 σ5 => ?_)
    refine x_if_eq (tgt := 218) C d_Md_cutAll_176 (by decide) (fun _ => ?_) (fun _ => ?_)
    · exact IH.2.2.2.2.2.2.2.2.2.1 v0R v1I v2I v4I v5J (σ5)
    · refine x_iload_n C d_Md_cutAll_179 2 rfl ?_
      refine x_iload C d_Md_cutAll_180 3 rfl ?_
      refine x_isub C d_Md_cutAll_182 ?_
      refine x_iconst (v := (4 : Int32)) C d_Md_cutAll_183 (by decide) ?_
      refine x_icmp_ge (tgt := 208) C d_Md_cutAll_184 (by decide) (fun _ => ?_) (fun _ => ?_)
      · refine x_ldc2 C d_Md_cutAll_187 w2099 ?_
        refine x_lload C d_Md_cutAll_190 4 rfl ?_
        refine x_lmul C d_Md_cutAll_192 ?_
        refine x_aload_n C d_Md_cutAll_193 0 rfl ?_
        refine x_gd (fun h6 => ?_)
        refine x_gd (fun h7 => ?_)
        refine x_getR (k := 1) (kv := 101) C (okO_iff.mp h6) rfl j11_ok (by decide) rfl (okO_iff.mp h7) (by decide) w1853 d_Md_cutAll_194 ?_
        refine x_iload_n C d_Md_cutAll_197 2 rfl ?_
        refine x_gd (fun h8 => ?_)
        refine x_aldI C (okO_iff.mp h7) (inB_iff.mp h8) d_Md_cutAll_198 ?_
        refine x_i2l C d_Md_cutAll_199 ?_
        refine x_ladd C d_Md_cutAll_200 ?_
        refine x_ldc2 C d_Md_cutAll_201 w2100 ?_
        refine x_lsub C d_Md_cutAll_204 ?_
        refine x_goto (tgt := 210) C d_Md_cutAll_205 (by decide) ?_
        refine x_lv [0, 1, 2, 3] rfl ?_
        exact IH.2.2.2.2.2.2.2.2.1 v0R v1I v2I v4I ((((10 : Int64) * v5J) + ((aI σ5 (aR σ5 v0R 1) v2I.toNatClampNeg).toInt64)) - (48 : Int64)) (σ5)
      · refine x_lload C d_Md_cutAll_208 4 rfl ?_
        refine x_lv [0, 1, 2, 3] rfl ?_
        exact IH.2.2.2.2.2.2.2.2.1 v0R v1I v2I v4I v5J (σ5)
  · exact IH.2.2.2.2.2.2.2.2.2.1 v0R v1I v2I v4I v5J (σ)
set_option maxRecDepth 20000 in
theorem s_Md_cutAll_8 {G : GX} {p : Program} {l : Launch} {e : Env} {s : State} {m : MethodId} {args : Array Value} {below : List Frame} {meth : Method} {c : Code} {z0 u0 n : Nat} (C : Cx G p s m args meth c prog_14_method_9_code 7 "BellPlateModel" ((none))) (IH : I_Md_cutAll G p l e s m args below meth c z0 u0 n) (v0R : Nat) (v1I : Int32) (v2I : Int32) (v4I : Int32) (s0J : Int64) (σ : AM) : VX (QM eV G args s below z0 u0) G p l e s m args below meth c 2 z0 u0 7 (lpK (lpn F_Md_cutAll n) (T_Md_cutAll_8 v0R v1I v2I v4I s0J σ)) 210 [(0, .ref v0R), (1, .int v1I), (2, .int v2I), (4, .int v4I)] [.long s0J] σ := by
  unfold T_Md_cutAll_8
  refine x_lstore (lv' := [(5, .long s0J), (0, .ref v0R), (1, .int v1I), (2, .int v2I), (4, .int v4I)]) C d_Md_cutAll_210 (by decide) rfl ?_
  refine x_iinc (v := v2I + (1 : Int32)) (lv' := [(2, .int (v2I + (1 : Int32))), (5, .long s0J), (0, .ref v0R), (1, .int v1I), (4, .int v4I)]) C d_Md_cutAll_212 3 rfl rfl (by decide) rfl ?_
  refine x_goto (tgt := 159) C d_Md_cutAll_215 (by decide) ?_
  refine x_lv [2, 3, 0, 4, 1] rfl ?_
  exact IH.2.2.2.2.2.2.2.1 v0R v1I (v2I + (1 : Int32)) v4I s0J (σ)
set_option maxRecDepth 20000 in
theorem s_Md_cutAll_9 {G : GX} {p : Program} {l : Launch} {e : Env} {s : State} {m : MethodId} {args : Array Value} {below : List Frame} {meth : Method} {c : Code} {z0 u0 n : Nat} (C : Cx G p s m args meth c prog_14_method_9_code 7 "BellPlateModel" ((none))) (IH : I_Md_cutAll G p l e s m args below meth c z0 u0 n) (v0R : Nat) (v1I : Int32) (v2I : Int32) (v4I : Int32) (v5J : Int64) (σ : AM) : VX (QM eV G args s below z0 u0) G p l e s m args below meth c 2 z0 u0 7 (lpK (lpn F_Md_cutAll n) (T_Md_cutAll_9 v0R v1I v2I v4I v5J σ)) 218 [(0, .ref v0R), (1, .int v1I), (2, .int v2I), (4, .int v4I), (5, .long v5J)] [] σ := by
  unfold T_Md_cutAll_9
  refine x_aload_n C d_Md_cutAll_218 0 rfl ?_
  refine x_gd (fun h1 => ?_)
  refine x_gd (fun h2 => ?_)
  refine x_getR (k := 4) (kv := 101) C (okO_iff.mp h1) rfl j11_ok (by decide) rfl (okO_iff.mp h2) (by decide) w1856 d_Md_cutAll_219 ?_
  refine x_iload_n C d_Md_cutAll_222 1 rfl ?_
  refine x_iload_n C d_Md_cutAll_223 2 rfl ?_
  refine x_iload C d_Md_cutAll_224 3 rfl ?_
  refine x_isub C d_Md_cutAll_226 ?_
  refine x_iconst (v := (4 : Int32)) C d_Md_cutAll_227 (by decide) ?_
  refine x_icmp_le (tgt := 235) C d_Md_cutAll_228 (by decide) (fun _ => ?_) (fun _ => ?_)
  · refine x_iconst (v := (4 : Int32)) C d_Md_cutAll_231 (by decide) ?_
    refine x_goto (tgt := 236) C d_Md_cutAll_232 (by decide) ?_
    refine x_lv [0, 1, 2, 4] rfl ?_
    exact IH.2.2.2.2.2.2.2.2.2.2.1 v0R v1I v2I v5J (aR σ v0R 4) v1I ((4 : Int32)) (σ)
  · refine x_iconst (v := (2 : Int32)) C d_Md_cutAll_235 (by decide) ?_
    refine x_lv [0, 1, 2, 4] rfl ?_
    exact IH.2.2.2.2.2.2.2.2.2.2.1 v0R v1I v2I v5J (aR σ v0R 4) v1I ((2 : Int32)) (σ)
set_option maxRecDepth 20000 in
theorem s_Md_cutAll_10 {G : GX} {p : Program} {l : Launch} {e : Env} {s : State} {m : MethodId} {args : Array Value} {below : List Frame} {meth : Method} {c : Code} {z0 u0 n : Nat} (C : Cx G p s m args meth c prog_14_method_9_code 7 "BellPlateModel" ((none))) (IH : I_Md_cutAll G p l e s m args below meth c z0 u0 n) (v0R : Nat) (v1I : Int32) (v2I : Int32) (v5J : Int64) (s0R : Nat) (s1I : Int32) (s2I : Int32) (σ : AM) : VX (QM eV G args s below z0 u0) G p l e s m args below meth c 2 z0 u0 7 (lpK (lpn F_Md_cutAll n) (T_Md_cutAll_10 v0R v1I v2I v5J s0R s1I s2I σ)) 236 [(0, .ref v0R), (1, .int v1I), (2, .int v2I), (5, .long v5J)] [.int s2I, .int s1I, .ref s0R] σ := by
  unfold T_Md_cutAll_10
  refine x_gd (fun h1 => ?_)
  refine x_gd (fun h2 => ?_)
  refine x_astI C (okO_iff.mp h1) (inB_iff.mp h2) d_Md_cutAll_236 ?_
  refine x_letS (fun σ3 e4 => ?_)
  refine x_goto (tgt := 265) C d_Md_cutAll_237 (by decide) ?_
  exact IH.2.2.2.2.2.2.2.2.2.2.2.2 v0R v1I v2I v5J (σ3)
set_option maxRecDepth 20000 in
theorem s_Md_cutAll_11 {G : GX} {p : Program} {l : Launch} {e : Env} {s : State} {m : MethodId} {args : Array Value} {below : List Frame} {meth : Method} {c : Code} {z0 u0 n : Nat} (C : Cx G p s m args meth c prog_14_method_9_code 7 "BellPlateModel" ((none))) (IH : I_Md_cutAll G p l e s m args below meth c z0 u0 n) (v0R : Nat) (v1I : Int32) (v2I : Int32) (v5J : Int64) (s0R : Nat) (s1I : Int32) (s2I : Int32) (σ : AM) : VX (QM eV G args s below z0 u0) G p l e s m args below meth c 2 z0 u0 7 (lpK (lpn F_Md_cutAll n) (T_Md_cutAll_11 v0R v1I v2I v5J s0R s1I s2I σ)) 261 [(0, .ref v0R), (1, .int v1I), (2, .int v2I), (5, .long v5J)] [.int s2I, .int s1I, .ref s0R] σ := by
  unfold T_Md_cutAll_11
  refine x_gd (fun h1 => ?_)
  refine x_gd (fun h2 => ?_)
  refine x_astI C (okO_iff.mp h1) (inB_iff.mp h2) d_Md_cutAll_261 ?_
  refine x_letS (fun σ3 e4 => ?_)
  refine x_iinc (v := v2I + (1 : Int32)) (lv' := [(2, .int (v2I + (1 : Int32))), (0, .ref v0R), (1, .int v1I), (5, .long v5J)]) C d_Md_cutAll_262 2 rfl rfl (by decide) rfl ?_
  refine x_lv [1, 2, 0, 3] rfl ?_
  exact IH.2.2.2.2.2.2.2.2.2.2.2.2 v0R v1I (v2I + (1 : Int32)) v5J (σ3)
set_option maxRecDepth 20000 in
theorem s_Md_cutAll_12 {G : GX} {p : Program} {l : Launch} {e : Env} {s : State} {m : MethodId} {args : Array Value} {below : List Frame} {meth : Method} {c : Code} {z0 u0 n : Nat} (C : Cx G p s m args meth c prog_14_method_9_code 7 "BellPlateModel" ((none))) (IH : I_Md_cutAll G p l e s m args below meth c z0 u0 n) (v0R : Nat) (v1I : Int32) (v2I : Int32) (v5J : Int64) (σ : AM) : VX (QM eV G args s below z0 u0) G p l e s m args below meth c 2 z0 u0 7 (lpK (lpn F_Md_cutAll n) (T_Md_cutAll_12 v0R v1I v2I v5J σ)) 265 [(0, .ref v0R), (1, .int v1I), (2, .int v2I), (5, .long v5J)] [] σ := by
  unfold T_Md_cutAll_12
  refine x_aload_n C d_Md_cutAll_265 0 rfl ?_
  refine x_gd (fun h1 => ?_)
  refine x_gd (fun h2 => ?_)
  refine x_getR (k := 6) (kv := 102) C (okO_iff.mp h1) rfl j11_ok (by decide) rfl (okO_iff.mp h2) (by decide) w1858 d_Md_cutAll_266 ?_
  refine x_iload_n C d_Md_cutAll_269 1 rfl ?_
  refine x_lload C d_Md_cutAll_270 3 rfl ?_
  refine x_gd (fun h3 => ?_)
  refine x_astJ C (okO_iff.mp h2) (inB_iff.mp h3) d_Md_cutAll_272 ?_
  refine x_letS (fun σ4 e5 => ?_)
  refine x_iinc (v := v1I + (1 : Int32)) (lv' := [(1, .int (v1I + (1 : Int32))), (0, .ref v0R), (2, .int v2I), (5, .long v5J)]) C d_Md_cutAll_273 1 rfl rfl (by decide) rfl ?_
  refine x_goto (tgt := 17) C d_Md_cutAll_276 (by decide) ?_
  refine x_lv [1, 0, 2] rfl ?_
  exact IH.2.1 v0R (v1I + (1 : Int32)) v2I (σ4)
theorem i_Md_cutAll {G : GX} {p : Program} {l : Launch} {e : Env} {s : State} {m : MethodId} {args : Array Value} {below : List Frame} {meth : Method} {c : Code} {z0 u0 : Nat} (C : Cx G p s m args meth c prog_14_method_9_code 7 "BellPlateModel" ((none))) (n : Nat) : I_Md_cutAll G p l e s m args below meth c z0 u0 n := by
  induction n with
  | zero => exact ⟨fun _ _ => x_none, fun _ _ _ _ => x_none, fun _ _ _ _ => x_none, fun _ _ _ _ _ _ => x_none, fun _ _ _ _ _ _ => x_none, fun _ _ _ _ _ _ => x_none, fun _ _ _ _ _ _ _ _ => x_none, fun _ _ _ _ _ _ => x_none, fun _ _ _ _ _ _ => x_none, fun _ _ _ _ _ _ => x_none, fun _ _ _ _ _ _ _ _ => x_none, fun _ _ _ _ _ _ _ _ => x_none, fun _ _ _ _ _ => x_none⟩
  | succ n IH => exact ⟨fun v0R σ => s_Md_cutAll_0 C IH v0R σ, fun v0R v1I v2I σ => s_Md_cutAll_1 C IH v0R v1I v2I σ, fun v0R v1I v2I σ => s_Md_cutAll_2 C IH v0R v1I v2I σ, fun v0R v1I v2I v4I v5J σ => s_Md_cutAll_3 C IH v0R v1I v2I v4I v5J σ, fun v0R v1I v2I v4I s0J σ => s_Md_cutAll_4 C IH v0R v1I v2I v4I s0J σ, fun v0R v1I v2I v4I v5J σ => s_Md_cutAll_5 C IH v0R v1I v2I v4I v5J σ, fun v0R v1I v2I v5J s0R s1I s2I σ => s_Md_cutAll_6 C IH v0R v1I v2I v5J s0R s1I s2I σ, fun v0R v1I v2I v4I v5J σ => s_Md_cutAll_7 C IH v0R v1I v2I v4I v5J σ, fun v0R v1I v2I v4I s0J σ => s_Md_cutAll_8 C IH v0R v1I v2I v4I s0J σ, fun v0R v1I v2I v4I v5J σ => s_Md_cutAll_9 C IH v0R v1I v2I v4I v5J σ, fun v0R v1I v2I v5J s0R s1I s2I σ => s_Md_cutAll_10 C IH v0R v1I v2I v5J s0R s1I s2I σ, fun v0R v1I v2I v5J s0R s1I s2I σ => s_Md_cutAll_11 C IH v0R v1I v2I v5J s0R s1I s2I σ, fun v0R v1I v2I v5J σ => s_Md_cutAll_12 C IH v0R v1I v2I v5J σ⟩
theorem c_Md_cutAll (G : GX) (l : Launch) (v0R : Nat) (σ : AM) : CT eV G l 2 y_Md_cutAll prog_14_method_9_code 7 (none) [.ref v0R] σ (M_Md_cutAll v0R σ) := by
  refine ct_of (by decide +kernel) (Nat.le_of_ble_eq_true rfl) (fun p e s m args below meth c C hin => ?_)
  refine x_lve (lv' := [(0, .ref v0R)]) rfl ?_
  intro r σ' h
  obtain ⟨n, hn⟩ := (lp_iff _ _ _).mp h
  exact (i_Md_cutAll C n).1 v0R σ r σ' hn
