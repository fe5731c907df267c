/-! BellPlateModel.isWay(I)Z -/
abbrev y_Md_isWay : MethodName := ⟨"BellPlateModel", "isWay", "(I)Z"⟩
theorem k_Md_isWay : y_Md_isWay.cls ≠ "java/lang/invoke/MethodHandle" ∧ y_Md_isWay.cls ≠ "java/lang/invoke/VarHandle" ∧ (parseMethodDescriptor y_Md_isWay.desc).map (fun d => d.parameters.length) = some 1 := by decide +kernel
theorem d_Md_isWay_0 : decode prog_14_method_69_code 0 = .ok (.iload_n 0, 1) := by decide +kernel
theorem d_Md_isWay_1 : decode prog_14_method_69_code 1 = .ok (.iconst 0, 1) := by decide +kernel
theorem d_Md_isWay_2 : decode prog_14_method_69_code 2 = .ok (.iconst 2, 1) := by decide +kernel
theorem d_Md_isWay_3 : decode prog_14_method_69_code 3 = .ok (.invokestatic 350, 3) := by decide +kernel
theorem d_Md_isWay_6 : decode prog_14_method_69_code 6 = .ok (.ireturn, 1) := by decide +kernel
abbrev S_Md_isWay : Type := Nat × Int32 × AM
noncomputable def T_Md_isWay_0 (v0I : Int32) (σ : AM) : S_Md_isWay ⊕ Option (Int32 × AM) :=
  bndT (M_Md_within v0I (0 : Int32) (2 : Int32) σ) fun r1 σ2 => gdT (isB r1) <| .inr (some (r1, σ2))
noncomputable def F_Md_isWay : S_Md_isWay → S_Md_isWay ⊕ Option (Int32 × AM) := fun s => match s.1 with
  | _ => T_Md_isWay_0 (s.2.1) (s.2.2)
noncomputable def L_Md_isWay_0 (v0I : Int32) (σ : AM) : Option (Int32 × AM) := lp F_Md_isWay (0, v0I, σ)
set_option maxRecDepth 20000 in
theorem E_Md_isWay_0 (v0I : Int32) (σ : AM) : L_Md_isWay_0 v0I σ = (bnd (M_Md_within v0I (0 : Int32) (2 : Int32) σ) fun r1 σ2 => gd (isB r1) <| (some (r1, σ2))) := by
  unfold L_Md_isWay_0
  rw [lp_eq]
  show lpK (lp F_Md_isWay) (T_Md_isWay_0 v0I σ) = _
  unfold T_Md_isWay_0
  simp only [lpK_ite, lq_inl, lq_inr, lpK_bnd, lpK_gd, lq_let]
  try rfl
noncomputable def M_Md_isWay (v0I : Int32) (σ : AM) : Option (Int32 × AM) := mw σ (L_Md_isWay_0 v0I σ)
def I_Md_isWay (G : GX) (p : Program) (l : Launch) (e : Env) (s : State) (m : MethodId) (args : Array Value) (below : List Frame) (meth : Method) (c : Code) (z0 u0 n : Nat) : Prop :=
  (∀ (v0I : Int32) (σ : AM), VX (QM eI G args s below z0 u0) G p l e s m args below meth c 1 z0 u0 1 (lpn F_Md_isWay n (0, v0I, σ)) 0 [(0, .int v0I)] [] σ)
set_option maxRecDepth 20000 in
theorem s_Md_isWay_0 {G : GX} {p : Program} {l : Launch} {e : Env} {s : State} {m : MethodId} {args : Array Value} {below : List Frame} {meth : Method} {c : Code} {z0 u0 n : Nat} (C : Cx G p s m args meth c prog_14_method_69_code 1 "BellPlateModel" ((some FieldType.boolean))) (IH : I_Md_isWay G p l e s m args below meth c z0 u0 n) (v0I : Int32) (σ : AM) : VX (QM eI G args s below z0 u0) G p l e s m args below meth c 1 z0 u0 1 (lpK (lpn F_Md_isWay n) (T_Md_isWay_0 v0I σ)) 0 [(0, .int v0I)] [] σ := by
  unfold T_Md_isWay_0
  refine x_iload_n C d_Md_isWay_0 0 rfl ?_
  refine x_iconst (v := (0 : Int32)) C d_Md_isWay_1 (by decide) ?_
  refine x_iconst (v := (2 : Int32)) C d_Md_isWay_2 (by decide) ?_
  refine x_callSI (As := [.int v0I, .int (0 : Int32), .int (2 : Int32)]) C (c_Md_within G l v0I (0 : Int32) (2 : Int32) σ) w2205 w2204 w2206 w134 k_Md_within rfl (by decide) (by decide) rfl (Nat.le_of_ble_eq_true rfl) d_Md_isWay_3 (fun r1 σ2 => ?_)
  refine x_gd (fun h3 => ?_)
  exact x_zret C (isB_narrow h3) d_Md_isWay_6
theorem i_Md_isWay {G : GX} {p : Program} {l : Launch} {e : Env} {s : State} {m : MethodId} {args : Array Value} {below : List Frame} {meth : Method} {c : Code} {z0 u0 : Nat} (C : Cx G p s m args meth c prog_14_method_69_code 1 "BellPlateModel" ((some FieldType.boolean))) (n : Nat) : I_Md_isWay G p l e s m args below meth c z0 u0 n := by
  induction n with
  | zero => exact fun _ _ => x_none
  | succ n IH => exact fun v0I σ => s_Md_isWay_0 C IH v0I σ
theorem c_Md_isWay (G : GX) (l : Launch) (v0I : Int32) (σ : AM) : CT eI G l 1 y_Md_isWay prog_14_method_69_code 1 ((some FieldType.boolean)) [.int v0I] σ (M_Md_isWay v0I σ) := by
  refine ct_of (by decide +kernel) (Nat.le_of_ble_eq_true rfl) (fun p e s m args below meth c C hin => ?_)
  refine x_lve (lv' := [(0, .int v0I)]) rfl ?_
  intro r σ' h
  obtain ⟨n, hn⟩ := (lp_iff _ _ _).mp h
  exact (i_Md_isWay C n) v0I σ r σ' hn
/-! BellPlateModel.next(I)I -/
abbrev y_Md_next : MethodName := ⟨"BellPlateModel", "next", "(I)I"⟩
theorem k_Md_next : y_Md_next.cls ≠ "java/lang/invoke/MethodHandle" ∧ y_Md_next.cls ≠ "java/lang/invoke/VarHandle" ∧ (parseMethodDescriptor y_Md_next.desc).map (fun d => d.parameters.length) = some 1 := by decide +kernel
theorem d_Md_next_0 : decode prog_14_method_70_code 0 = .ok (.aload_n 0, 1) := by decide +kernel
theorem d_Md_next_1 : decode prog_14_method_70_code 1 = .ok (.iconst 0, 1) := by decide +kernel
theorem d_Md_next_2 : decode prog_14_method_70_code 2 = .ok (.putfield 1, 3) := by decide +kernel
theorem d_Md_next_5 : decode prog_14_method_70_code 5 = .ok (.iload_n 1, 1) := by decide +kernel
theorem d_Md_next_6 : decode prog_14_method_70_code 6 = .ok (.invokestatic 407, 3) := by decide +kernel
theorem d_Md_next_9 : decode prog_14_method_70_code 9 = .ok (.ifCond .ne 5, 3) := by decide +kernel
theorem d_Md_next_12 : decode prog_14_method_70_code 12 = .ok (.iconst (-1), 1) := by decide +kernel
theorem d_Md_next_13 : decode prog_14_method_70_code 13 = .ok (.ireturn, 1) := by decide +kernel
theorem d_Md_next_14 : decode prog_14_method_70_code 14 = .ok (.aload_n 0, 1) := by decide +kernel
theorem d_Md_next_15 : decode prog_14_method_70_code 15 = .ok (.invokevirtual 410, 3) := by decide +kernel
theorem d_Md_next_18 : decode prog_14_method_70_code 18 = .ok (.aload_n 0, 1) := by decide +kernel
theorem d_Md_next_19 : decode prog_14_method_70_code 19 = .ok (.iload_n 1, 1) := by decide +kernel
theorem d_Md_next_20 : decode prog_14_method_70_code 20 = .ok (.iconst 0, 1) := by decide +kernel
theorem d_Md_next_21 : decode prog_14_method_70_code 21 = .ok (.aload_n 0, 1) := by decide +kernel
theorem d_Md_next_22 : decode prog_14_method_70_code 22 = .ok (.getfield 372, 3) := by decide +kernel
theorem d_Md_next_25 : decode prog_14_method_70_code 25 = .ok (.invokevirtual 413, 3) := by decide +kernel
theorem d_Md_next_28 : decode prog_14_method_70_code 28 = .ok (.ireturn, 1) := by decide +kernel
abbrev S_Md_next : Type := Nat × Nat × Int32 × AM
noncomputable def T_Md_next_0 (v0R : Nat) (v1I : Int32) (σ : AM) : S_Md_next ⊕ Option (Int32 × AM) :=
  gdT (okO σ v0R 12) <| letT (sI σ v0R 0 (0 : Int32)) fun σ2 => bndT (M_Md_isWay v1I σ2) fun r4 σ5 => if r4 = 0 then (.inr (some (((-1) : Int32), σ5))) else (gdT (okO σ5 v0R 12) <| bndT (M_Md_takesLeft v0R σ5) fun _ σ7 => gdT (okO σ7 v0R 12) <| bndT (M_Md_nextOf v0R v1I (0 : Int32) (aI σ7 v0R 46) σ7) fun r10 σ11 => .inr (some (r10, σ11)))
noncomputable def F_Md_next : S_Md_next → S_Md_next ⊕ Option (Int32 × AM) := fun s => match s.1 with
  | _ => T_Md_next_0 (s.2.1) (s.2.2.1) (s.2.2.2)
noncomputable def L_Md_next_0 (v0R : Nat) (v1I : Int32) (σ : AM) : Option (Int32 × AM) := lp F_Md_next (0, v0R, v1I, σ)
set_option maxRecDepth 20000 in
theorem E_Md_next_0 (v0R : Nat) (v1I : Int32) (σ : AM) : L_Md_next_0 v0R v1I σ = (gd (okO σ v0R 12) <| letT (sI σ v0R 0 (0 : Int32)) fun σ2 => bnd (M_Md_isWay v1I σ2) fun r4 σ5 => if r4 = 0 then ((some (((-1) : Int32), σ5))) else (gd (okO σ5 v0R 12) <| bnd (M_Md_takesLeft v0R σ5) fun _ σ7 => gd (okO σ7 v0R 12) <| bnd (M_Md_nextOf v0R v1I (0 : Int32) (aI σ7 v0R 46) σ7) fun r10 σ11 => (some (r10, σ11)))) := by
  unfold L_Md_next_0
  rw [lp_eq]
  show lpK (lp F_Md_next) (T_Md_next_0 v0R v1I σ) = _
  unfold T_Md_next_0
  simp only [lpK_ite, lq_inl, lq_inr, lpK_bnd, lpK_gd, lq_let]
  try rfl
noncomputable def M_Md_next (v0R : Nat) (v1I : Int32) (σ : AM) : Option (Int32 × AM) := mw σ (L_Md_next_0 v0R v1I σ)
def I_Md_next (G : GX) (p : Program) (l : Launch) (e : Env) (s : State) (m : MethodId) (args : Array Value) (below : List Frame) (meth : Method) (c : Code) (z0 u0 n : Nat) : Prop :=
  (∀ (v0R : Nat) (v1I : Int32) (σ : AM), VX (QM eI G args s below z0 u0) G p l e s m args below meth c 5 z0 u0 2 (lpn F_Md_next n (0, v0R, v1I, σ)) 0 [(0, .ref v0R), (1, .int v1I)] [] σ)
set_option maxRecDepth 20000 in
theorem s_Md_next_0 {G : GX} {p : Program} {l : Launch} {e : Env} {s : State} {m : MethodId} {args : Array Value} {below : List Frame} {meth : Method} {c : Code} {z0 u0 n : Nat} (C : Cx G p s m args meth c prog_14_method_70_code 2 "BellPlateModel" ((some FieldType.int))) (IH : I_Md_next G p l e s m args below meth c z0 u0 n) (v0R : Nat) (v1I : Int32) (σ : AM) : VX (QM eI G args s below z0 u0) G p l e s m args below meth c 5 z0 u0 2 (lpK (lpn F_Md_next n) (T_Md_next_0 v0R v1I σ)) 0 [(0, .ref v0R), (1, .int v1I)] [] σ := by
  unfold T_Md_next_0
  refine x_aload_n C d_Md_next_0 0 rfl ?_
  refine x_iconst (v := (0 : Int32)) C d_Md_next_1 (by decide) ?_
  refine x_gd (fun h1 => ?_)
  refine x_putI (k := 0) C (okO_iff.mp h1) rfl j11_ok y11_ok n11_ok (by decide) rfl rfl rfl rfl w1852 d_Md_next_2 ?_
  refine x_letS (fun σ2 e3 => ?_)
  refine x_iload_n C d_Md_next_5 1 rfl ?_
  refine x_callSI (As := [.int v1I]) C (c_Md_isWay G l v1I σ2) w2277 w2276 w2278 w134 k_Md_isWay rfl (by decide) (by decide) rfl (Nat.le_of_ble_eq_true rfl) d_Md_next_6 (fun r4 σ5 => ?_)
  refine x_if_ne (tgt := 14) C d_Md_next_9 (by decide) (fun _ => ?_) (fun _ => ?_)
  · refine x_iconst (v := ((-1) : Int32)) C d_Md_next_12 (by decide) ?_
    exact x_iret C d_Md_next_13
  · refine x_aload_n C d_Md_next_14 0 rfl ?_
    refine x_gd (fun h8 => ?_)
    refine x_callVV (As := []) C (c_Md_takesLeft G l v0R  σ5) (okO_iff.mp h8) rfl w2281 w95 w2279 w2282 w134 k_Md_takesLeft rfl (by decide) (by decide) rfl (Nat.le_of_ble_eq_true rfl) d_Md_next_15 (fun r6 σ7 => ?_)
    refine x_aload_n C d_Md_next_18 0 rfl ?_
    refine x_iload_n C d_Md_next_19 1 rfl ?_
    refine x_iconst (v := (0 : Int32)) C d_Md_next_20 (by decide) ?_
    refine x_aload_n C d_Md_next_21 0 rfl ?_
    refine x_gd (fun h9 => ?_)
    refine x_getI (k := 46) C (okO_iff.mp h9) rfl j11_ok (by decide) rfl w1898 d_Md_next_22 ?_
    refine x_callVI (As := [.int v1I, .int (0 : Int32), .int (aI σ7 v0R 46)]) C (c_Md_nextOf G l v0R v1I (0 : Int32) (aI σ7 v0R 46) σ7) (okO_iff.mp h9) rfl w2285 w96 w2283 w2286 w134 k_Md_nextOf rfl (by decide) (by decide) rfl (Nat.le_of_ble_eq_true rfl) d_Md_next_25 (fun r10 σ11 => ?_)
    exact x_iret C d_Md_next_28
theorem i_Md_next {G : GX} {p : Program} {l : Launch} {e : Env} {s : State} {m : MethodId} {args : Array Value} {below : List Frame} {meth : Method} {c : Code} {z0 u0 : Nat} (C : Cx G p s m args meth c prog_14_method_70_code 2 "BellPlateModel" ((some FieldType.int))) (n : Nat) : I_Md_next G p l e s m args below meth c z0 u0 n := by
  induction n with
  | zero => exact fun _ _ _ => x_none
  | succ n IH => exact fun v0R v1I σ => s_Md_next_0 C IH v0R v1I σ
theorem c_Md_next (G : GX) (l : Launch) (v0R : Nat) (v1I : Int32) (σ : AM) : CT eI G l 5 y_Md_next prog_14_method_70_code 2 ((some FieldType.int)) [.ref v0R, .int v1I] σ (M_Md_next v0R v1I σ) := by
  refine ct_of (by decide +kernel) (Nat.le_of_ble_eq_true rfl) (fun p e s m args below meth c C hin => ?_)
  refine x_lve (lv' := [(0, .ref v0R), (1, .int v1I)]) rfl ?_
  intro r σ' h
  obtain ⟨n, hn⟩ := (lp_iff _ _ _).mp h
  exact (i_Md_next C n) v0R v1I σ r σ' hn
/-! BellPlateModel.runs(JI)V -/
abbrev y_Md_runs : MethodName := ⟨"BellPlateModel", "runs", "(JI)V"⟩
theorem k_Md_runs : y_Md_runs.cls ≠ "java/lang/invoke/MethodHandle" ∧ y_Md_runs.cls ≠ "java/lang/invoke/VarHandle" ∧ (parseMethodDescriptor y_Md_runs.desc).map (fun d => d.parameters.length) = some 2 := by decide +kernel
theorem d_Md_runs_0 : decode prog_14_method_71_code 0 = .ok (.iconst 0, 1) := by decide +kernel
theorem d_Md_runs_1 : decode prog_14_method_71_code 1 = .ok (.istore 4, 2) := by decide +kernel
theorem d_Md_runs_3 : decode prog_14_method_71_code 3 = .ok (.aload_n 0, 1) := by decide +kernel
theorem d_Md_runs_4 : decode prog_14_method_71_code 4 = .ok (.getfield 372, 3) := by decide +kernel
theorem d_Md_runs_7 : decode prog_14_method_71_code 7 = .ok (.istore 5, 2) := by decide +kernel
theorem d_Md_runs_9 : decode prog_14_method_71_code 9 = .ok (.aload_n 0, 1) := by decide +kernel
theorem d_Md_runs_10 : decode prog_14_method_71_code 10 = .ok (.iconst 0, 1) := by decide +kernel
theorem d_Md_runs_11 : decode prog_14_method_71_code 11 = .ok (.putfield 416, 3) := by decide +kernel
theorem d_Md_runs_14 : decode prog_14_method_71_code 14 = .ok (.aload_n 0, 1) := by decide +kernel
theorem d_Md_runs_15 : decode prog_14_method_71_code 15 = .ok (.iconst 0, 1) := by decide +kernel
theorem d_Md_runs_16 : decode prog_14_method_71_code 16 = .ok (.putfield 419, 3) := by decide +kernel
theorem d_Md_runs_19 : decode prog_14_method_71_code 19 = .ok (.aload_n 0, 1) := by decide +kernel
theorem d_Md_runs_20 : decode prog_14_method_71_code 20 = .ok (.iconst 0, 1) := by decide +kernel
theorem d_Md_runs_21 : decode prog_14_method_71_code 21 = .ok (.putfield 422, 3) := by decide +kernel
theorem d_Md_runs_24 : decode prog_14_method_71_code 24 = .ok (.iload 5, 2) := by decide +kernel
theorem d_Md_runs_26 : decode prog_14_method_71_code 26 = .ok (.iload 4, 2) := by decide +kernel
theorem d_Md_runs_28 : decode prog_14_method_71_code 28 = .ok (.isub, 1) := by decide +kernel
theorem d_Md_runs_29 : decode prog_14_method_71_code 29 = .ok (.iconst 1, 1) := by decide +kernel
theorem d_Md_runs_30 : decode prog_14_method_71_code 30 = .ok (.if_icmp .le 130, 3) := by decide +kernel
theorem d_Md_runs_33 : decode prog_14_method_71_code 33 = .ok (.aload_n 0, 1) := by decide +kernel
theorem d_Md_runs_34 : decode prog_14_method_71_code 34 = .ok (.getfield 416, 3) := by decide +kernel
theorem d_Md_runs_37 : decode prog_14_method_71_code 37 = .ok (.bipush 60, 2) := by decide +kernel
theorem d_Md_runs_39 : decode prog_14_method_71_code 39 = .ok (.if_icmp .ge 121, 3) := by decide +kernel
theorem d_Md_runs_42 : decode prog_14_method_71_code 42 = .ok (.aload_n 0, 1) := by decide +kernel
theorem d_Md_runs_43 : decode prog_14_method_71_code 43 = .ok (.iload_n 3, 1) := by decide +kernel
theorem d_Md_runs_44 : decode prog_14_method_71_code 44 = .ok (.iload 4, 2) := by decide +kernel
theorem d_Md_runs_46 : decode prog_14_method_71_code 46 = .ok (.iload 5, 2) := by decide +kernel
theorem d_Md_runs_48 : decode prog_14_method_71_code 48 = .ok (.invokevirtual 413, 3) := by decide +kernel
theorem d_Md_runs_51 : decode prog_14_method_71_code 51 = .ok (.istore 6, 2) := by decide +kernel
theorem d_Md_runs_53 : decode prog_14_method_71_code 53 = .ok (.aload_n 0, 1) := by decide +kernel
theorem d_Md_runs_54 : decode prog_14_method_71_code 54 = .ok (.iload 6, 2) := by decide +kernel
theorem d_Md_runs_56 : decode prog_14_method_71_code 56 = .ok (.iload 4, 2) := by decide +kernel
theorem d_Md_runs_58 : decode prog_14_method_71_code 58 = .ok (.iload 5, 2) := by decide +kernel
theorem d_Md_runs_60 : decode prog_14_method_71_code 60 = .ok (.invokevirtual 425, 3) := by decide +kernel
theorem d_Md_runs_63 : decode prog_14_method_71_code 63 = .ok (.istore 7, 2) := by decide +kernel
theorem d_Md_runs_65 : decode prog_14_method_71_code 65 = .ok (.lload_n 1, 1) := by decide +kernel
theorem d_Md_runs_66 : decode prog_14_method_71_code 66 = .ok (.iload 6, 2) := by decide +kernel
theorem d_Md_runs_68 : decode prog_14_method_71_code 68 = .ok (.invokestatic 357, 3) := by decide +kernel
theorem d_Md_runs_71 : decode prog_14_method_71_code 71 = .ok (.istore 8, 2) := by decide +kernel
theorem d_Md_runs_73 : decode prog_14_method_71_code 73 = .ok (.iload 8, 2) := by decide +kernel
theorem d_Md_runs_75 : decode prog_14_method_71_code 75 = .ok (.ifCond .eq 8, 3) := by decide +kernel
theorem d_Md_runs_78 : decode prog_14_method_71_code 78 = .ok (.iload 4, 2) := by decide +kernel
theorem d_Md_runs_80 : decode prog_14_method_71_code 80 = .ok (.goto 5, 3) := by decide +kernel
theorem d_Md_runs_83 : decode prog_14_method_71_code 83 = .ok (.iload 7, 2) := by decide +kernel
theorem d_Md_runs_85 : decode prog_14_method_71_code 85 = .ok (.istore 4, 2) := by decide +kernel
theorem d_Md_runs_87 : decode prog_14_method_71_code 87 = .ok (.iload 8, 2) := by decide +kernel
theorem d_Md_runs_89 : decode prog_14_method_71_code 89 = .ok (.ifCond .eq 8, 3) := by decide +kernel
theorem d_Md_runs_92 : decode prog_14_method_71_code 92 = .ok (.iload 7, 2) := by decide +kernel
theorem d_Md_runs_94 : decode prog_14_method_71_code 94 = .ok (.goto 5, 3) := by decide +kernel
theorem d_Md_runs_97 : decode prog_14_method_71_code 97 = .ok (.iload 5, 2) := by decide +kernel
theorem d_Md_runs_99 : decode prog_14_method_71_code 99 = .ok (.istore 5, 2) := by decide +kernel
theorem d_Md_runs_101 : decode prog_14_method_71_code 101 = .ok (.aload_n 0, 1) := by decide +kernel
theorem d_Md_runs_102 : decode prog_14_method_71_code 102 = .ok (.getfield 128, 3) := by decide +kernel
theorem d_Md_runs_105 : decode prog_14_method_71_code 105 = .ok (.aload_n 0, 1) := by decide +kernel
theorem d_Md_runs_106 : decode prog_14_method_71_code 106 = .ok (.getfield 416, 3) := by decide +kernel
theorem d_Md_runs_109 : decode prog_14_method_71_code 109 = .ok (.iload 6, 2) := by decide +kernel
theorem d_Md_runs_111 : decode prog_14_method_71_code 111 = .ok (.iastore, 1) := by decide +kernel
theorem d_Md_runs_112 : decode prog_14_method_71_code 112 = .ok (.aload_n 0, 1) := by decide +kernel
theorem d_Md_runs_113 : decode prog_14_method_71_code 113 = .ok (.dup, 1) := by decide +kernel
theorem d_Md_runs_114 : decode prog_14_method_71_code 114 = .ok (.getfield 416, 3) := by decide +kernel
theorem d_Md_runs_117 : decode prog_14_method_71_code 117 = .ok (.iconst 1, 1) := by decide +kernel
theorem d_Md_runs_118 : decode prog_14_method_71_code 118 = .ok (.iadd, 1) := by decide +kernel
theorem d_Md_runs_119 : decode prog_14_method_71_code 119 = .ok (.putfield 416, 3) := by decide +kernel
theorem d_Md_runs_122 : decode prog_14_method_71_code 122 = .ok (.aload_n 0, 1) := by decide +kernel
theorem d_Md_runs_123 : decode prog_14_method_71_code 123 = .ok (.dup, 1) := by decide +kernel
theorem d_Md_runs_124 : decode prog_14_method_71_code 124 = .ok (.getfield 419, 3) := by decide +kernel
theorem d_Md_runs_127 : decode prog_14_method_71_code 127 = .ok (.iload 8, 2) := by decide +kernel
theorem d_Md_runs_129 : decode prog_14_method_71_code 129 = .ok (.ifCond .eq 7, 3) := by decide +kernel
theorem d_Md_runs_132 : decode prog_14_method_71_code 132 = .ok (.iconst 1, 1) := by decide +kernel
theorem d_Md_runs_133 : decode prog_14_method_71_code 133 = .ok (.goto 4, 3) := by decide +kernel
theorem d_Md_runs_136 : decode prog_14_method_71_code 136 = .ok (.iconst 0, 1) := by decide +kernel
theorem d_Md_runs_137 : decode prog_14_method_71_code 137 = .ok (.iadd, 1) := by decide +kernel
theorem d_Md_runs_138 : decode prog_14_method_71_code 138 = .ok (.putfield 419, 3) := by decide +kernel
theorem d_Md_runs_141 : decode prog_14_method_71_code 141 = .ok (.aload_n 0, 1) := by decide +kernel
theorem d_Md_runs_142 : decode prog_14_method_71_code 142 = .ok (.dup, 1) := by decide +kernel
theorem d_Md_runs_143 : decode prog_14_method_71_code 143 = .ok (.getfield 422, 3) := by decide +kernel
theorem d_Md_runs_146 : decode prog_14_method_71_code 146 = .ok (.aload_n 0, 1) := by decide +kernel
theorem d_Md_runs_147 : decode prog_14_method_71_code 147 = .ok (.getfield 101, 3) := by decide +kernel
theorem d_Md_runs_150 : decode prog_14_method_71_code 150 = .ok (.iload 6, 2) := by decide +kernel
theorem d_Md_runs_152 : decode prog_14_method_71_code 152 = .ok (.iaload, 1) := by decide +kernel
theorem d_Md_runs_153 : decode prog_14_method_71_code 153 = .ok (.iadd, 1) := by decide +kernel
theorem d_Md_runs_154 : decode prog_14_method_71_code 154 = .ok (.putfield 422, 3) := by decide +kernel
theorem d_Md_runs_157 : decode prog_14_method_71_code 157 = .ok (.goto (-133), 3) := by decide +kernel
theorem d_Md_runs_160 : decode prog_14_method_71_code 160 = .ok (.return_, 1) := by decide +kernel
abbrev S_Md_runs : Type := Nat × Nat × Int64 × Int32 × Int32 × Int32 × Int32 × Int32 × Int32 × Int32 × Nat × Int32 × Int32 × AM
noncomputable def T_Md_runs_0 (v0R : Nat) (v1J : Int64) (v3I : Int32) (σ : AM) : S_Md_runs ⊕ Option (Unit × AM) :=
  gdT (okO σ v0R 12) <| letT (aI σ v0R 46) fun x2 => letT (sI σ v0R 49 (0 : Int32)) fun σ3 => letT (sI σ3 v0R 55 (0 : Int32)) fun σ5 => letT (sI σ5 v0R 56 (0 : Int32)) fun σ7 => .inl (1, v0R, v1J, v3I, (0 : Int32), x2, 0, 0, 0, 0, 0, 0, 0, σ7)
noncomputable def T_Md_runs_1 (v0R : Nat) (v1J : Int64) (v3I : Int32) (v4I : Int32) (v5I : Int32) (σ : AM) : S_Md_runs ⊕ Option (Unit × AM) :=
  if (1 : Int32) < (v5I - v4I) then (gdT (okO σ v0R 12) <| if (aI σ v0R 49) < (60 : Int32) then (bndT (M_Md_nextOf v0R v3I v4I v5I σ) fun r2 σ3 => gdT (okO σ3 v0R 12) <| bndT (M_Md_divides v0R r2 v4I v5I σ3) fun r4 σ5 => bndT (M_Md_doesRing v1J r2 σ5) fun r7 σ8 => if r7 = 0 then (.inl (2, v0R, v1J, v3I, 0, v5I, r2, r4, r7, r4, 0, 0, 0, σ8)) else (.inl (2, v0R, v1J, v3I, 0, v5I, r2, r4, r7, v4I, 0, 0, 0, σ8))) else (.inl (5, 0, 0, 0, 0, 0, 0, 0, 0, 0, 0, 0, 0, σ))) else (.inl (5, 0, 0, 0, 0, 0, 0, 0, 0, 0, 0, 0, 0, σ))
noncomputable def T_Md_runs_2 (v0R : Nat) (v1J : Int64) (v3I : Int32) (v5I : Int32) (v6I : Int32) (v7I : Int32) (v8I : Int32) (s0I : Int32) (σ : AM) : S_Md_runs ⊕ Option (Unit × AM) :=
  if v8I = 0 then (.inl (3, v0R, v1J, v3I, s0I, 0, v6I, 0, v8I, v5I, 0, 0, 0, σ)) else (.inl (3, v0R, v1J, v3I, s0I, 0, v6I, 0, v8I, v7I, 0, 0, 0, σ))
noncomputable def T_Md_runs_3 (v0R : Nat) (v1J : Int64) (v3I : Int32) (v4I : Int32) (v6I : Int32) (v8I : Int32) (s0I : Int32) (σ : AM) : S_Md_runs ⊕ Option (Unit × AM) :=
  gdT (okO σ v0R 12) <| gdT (okO σ (aR σ v0R 54) 101) <| gdT (inB (aI σ v0R 49) (aN σ (aR σ v0R 54))) <| letT (sI σ (aR σ v0R 54) (aI σ v0R 49).toNatClampNeg v6I) fun σ4 => letT (sI σ4 v0R 49 ((aI σ4 v0R 49) + (1 : Int32))) fun σ6 => if v8I = 0 then (.inl (4, v0R, v1J, v3I, v4I, s0I, v6I, 0, 0, 0, v0R, aI σ6 v0R 55, (0 : Int32), σ6)) else (.inl (4, v0R, v1J, v3I, v4I, s0I, v6I, 0, 0, 0, v0R, aI σ6 v0R 55, (1 : Int32), σ6))
noncomputable def T_Md_runs_4 (v0R : Nat) (v1J : Int64) (v3I : Int32) (v4I : Int32) (v5I : Int32) (v6I : Int32) (s0R : Nat) (s1I : Int32) (s2I : Int32) (σ : AM) : S_Md_runs ⊕ Option (Unit × AM) :=
  gdT (okO σ s0R 12) <| letT (sI σ s0R 55 (s1I + s2I)) fun σ2 => gdT (okO σ2 v0R 12) <| gdT (okO σ2 (aR σ2 v0R 36) 101) <| gdT (inB v6I (aN σ2 (aR σ2 v0R 36))) <| letT (sI σ2 v0R 56 ((aI σ2 v0R 56) + (aI σ2 (aR σ2 v0R 36) v6I.toNatClampNeg))) fun σ7 => .inl (1, v0R, v1J, v3I, v4I, v5I, 0, 0, 0, 0, 0, 0, 0, σ7)
noncomputable def T_Md_runs_5  (σ : AM) : S_Md_runs ⊕ Option (Unit × AM) :=
  .inr (some ((), σ))
noncomputable def F_Md_runs : S_Md_runs → S_Md_runs ⊕ Option (Unit × AM) := fun s => match s.1 with
  | 0 => T_Md_runs_0 (s.2.1) (s.2.2.1) (s.2.2.2.1) (s.2.2.2.2.2.2.2.2.2.2.2.2.2)
  | 1 => T_Md_runs_1 (s.2.1) (s.2.2.1) (s.2.2.2.1) (s.2.2.2.2.1) (s.2.2.2.2.2.1) (s.2.2.2.2.2.2.2.2.2.2.2.2.2)
  | 2 => T_Md_runs_2 (s.2.1) (s.2.2.1) (s.2.2.2.1) (s.2.2.2.2.2.1) (s.2.2.2.2.2.2.1) (s.2.2.2.2.2.2.2.1) (s.2.2.2.2.2.2.2.2.1) (s.2.2.2.2.2.2.2.2.2.1) (s.2.2.2.2.2.2.2.2.2.2.2.2.2)
  | 3 => T_Md_runs_3 (s.2.1) (s.2.2.1) (s.2.2.2.1) (s.2.2.2.2.1) (s.2.2.2.2.2.2.1) (s.2.2.2.2.2.2.2.2.1) (s.2.2.2.2.2.2.2.2.2.1) (s.2.2.2.2.2.2.2.2.2.2.2.2.2)
  | 4 => T_Md_runs_4 (s.2.1) (s.2.2.1) (s.2.2.2.1) (s.2.2.2.2.1) (s.2.2.2.2.2.1) (s.2.2.2.2.2.2.1) (s.2.2.2.2.2.2.2.2.2.2.1) (s.2.2.2.2.2.2.2.2.2.2.2.1) (s.2.2.2.2.2.2.2.2.2.2.2.2.1) (s.2.2.2.2.2.2.2.2.2.2.2.2.2)
  | _ => T_Md_runs_5  (s.2.2.2.2.2.2.2.2.2.2.2.2.2)
noncomputable def L_Md_runs_0 (v0R : Nat) (v1J : Int64) (v3I : Int32) (σ : AM) : Option (Unit × AM) := lp F_Md_runs (0, v0R, v1J, v3I, 0, 0, 0, 0, 0, 0, 0, 0, 0, σ)
noncomputable def L_Md_runs_1 (v0R : Nat) (v1J : Int64) (v3I : Int32) (v4I : Int32) (v5I : Int32) (σ : AM) : Option (Unit × AM) := lp F_Md_runs (1, v0R, v1J, v3I, v4I, v5I, 0, 0, 0, 0, 0, 0, 0, σ)
noncomputable def L_Md_runs_2 (v0R : Nat) (v1J : Int64) (v3I : Int32) (v5I : Int32) (v6I : Int32) (v7I : Int32) (v8I : Int32) (s0I : Int32) (σ : AM) : Option (Unit × AM) := lp F_Md_runs (2, v0R, v1J, v3I, 0, v5I, v6I, v7I, v8I, s0I, 0, 0, 0, σ)
noncomputable def L_Md_runs_3 (v0R : Nat) (v1J : Int64) (v3I : Int32) (v4I : Int32) (v6I : Int32) (v8I : Int32) (s0I : Int32) (σ : AM) : Option (Unit × AM) := lp F_Md_runs (3, v0R, v1J, v3I, v4I, 0, v6I, 0, v8I, s0I, 0, 0, 0, σ)
noncomputable def L_Md_runs_4 (v0R : Nat) (v1J : Int64) (v3I : Int32) (v4I : Int32) (v5I : Int32) (v6I : Int32) (s0R : Nat) (s1I : Int32) (s2I : Int32) (σ : AM) : Option (Unit × AM) := lp F_Md_runs (4, v0R, v1J, v3I, v4I, v5I, v6I, 0, 0, 0, s0R, s1I, s2I, σ)
noncomputable def L_Md_runs_5  (σ : AM) : Option (Unit × AM) := lp F_Md_runs (5, 0, 0, 0, 0, 0, 0, 0, 0, 0, 0, 0, 0, σ)
set_option maxRecDepth 20000 in
theorem E_Md_runs_0 (v0R : Nat) (v1J : Int64) (v3I : Int32) (σ : AM) : L_Md_runs_0 v0R v1J v3I σ = (gd (okO σ v0R 12) <| letT (aI σ v0R 46) fun x2 => letT (sI σ v0R 49 (0 : Int32)) fun σ3 => letT (sI σ3 v0R 55 (0 : Int32)) fun σ5 => letT (sI σ5 v0R 56 (0 : Int32)) fun σ7 => L_Md_runs_1 v0R v1J v3I ((0 : Int32)) x2 σ7) := by
  unfold L_Md_runs_0
  rw [lp_eq]
  show lpK (lp F_Md_runs) (T_Md_runs_0 v0R v1J v3I σ) = _
  unfold T_Md_runs_0
  simp only [lpK_ite, lq_inl, lq_inr, lpK_bnd, lpK_gd, lq_let]
  try rfl
set_option maxRecDepth 20000 in
theorem E_Md_runs_1 (v0R : Nat) (v1J : Int64) (v3I : Int32) (v4I : Int32) (v5I : Int32) (σ : AM) : L_Md_runs_1 v0R v1J v3I v4I v5I σ = (if (1 : Int32) < (v5I - v4I) then (gd (okO σ v0R 12) <| if (aI σ v0R 49) < (60 : Int32) then (bnd (M_Md_nextOf v0R v3I v4I v5I σ) fun r2 σ3 => gd (okO σ3 v0R 12) <| bnd (M_Md_divides v0R r2 v4I v5I σ3) fun r4 σ5 => bnd (M_Md_doesRing v1J r2 σ5) fun r7 σ8 => if r7 = 0 then (L_Md_runs_2 v0R v1J v3I v5I r2 r4 r7 r4 σ8) else (L_Md_runs_2 v0R v1J v3I v5I r2 r4 r7 v4I σ8)) else (L_Md_runs_5 σ)) else (L_Md_runs_5 σ)) := by
  unfold L_Md_runs_1
  rw [lp_eq]
  show lpK (lp F_Md_runs) (T_Md_runs_1 v0R v1J v3I v4I v5I σ) = _
  unfold T_Md_runs_1
  simp only [lpK_ite, lq_inl, lq_inr, lpK_bnd, lpK_gd, lq_let]
  try rfl
set_option maxRecDepth 20000 in
theorem E_Md_runs_2 (v0R : Nat) (v1J : Int64) (v3I : Int32) (v5I : Int32) (v6I : Int32) (v7I : Int32) (v8I : Int32) (s0I : Int32) (σ : AM) : L_Md_runs_2 v0R v1J v3I v5I v6I v7I v8I s0I σ = (if v8I = 0 then (L_Md_runs_3 v0R v1J v3I s0I v6I v8I v5I σ) else (L_Md_runs_3 v0R v1J v3I s0I v6I v8I v7I σ)) := by
  unfold L_Md_runs_2
  rw [lp_eq]
  show lpK (lp F_Md_runs) (T_Md_runs_2 v0R v1J v3I v5I v6I v7I v8I s0I σ) = _
  unfold T_Md_runs_2
  simp only [lpK_ite, lq_inl, lq_inr, lpK_bnd, lpK_gd, lq_let]
  try rfl
set_option maxRecDepth 20000 in
theorem E_Md_runs_3 (v0R : Nat) (v1J : Int64) (v3I : Int32) (v4I : Int32) (v6I : Int32) (v8I : Int32) (s0I : Int32) (σ : AM) : L_Md_runs_3 v0R v1J v3I v4I v6I v8I s0I σ = (gd (okO σ v0R 12) <| gd (okO σ (aR σ v0R 54) 101) <| gd (inB (aI σ v0R 49) (aN σ (aR σ v0R 54))) <| letT (sI σ (aR σ v0R 54) (aI σ v0R 49).toNatClampNeg v6I) fun σ4 => letT (sI σ4 v0R 49 ((aI σ4 v0R 49) + (1 : Int32))) fun σ6 => if v8I = 0 then (L_Md_runs_4 v0R v1J v3I v4I s0I v6I v0R (aI σ6 v0R 55) ((0 : Int32)) σ6) else (L_Md_runs_4 v0R v1J v3I v4I s0I v6I v0R (aI σ6 v0R 55) ((1 : Int32)) σ6)) := by
  unfold L_Md_runs_3
  rw [lp_eq]
  show lpK (lp F_Md_runs) (T_Md_runs_3 v0R v1J v3I v4I v6I v8I s0I σ) = _
  unfold T_Md_runs_3
  simp only [lpK_ite, lq_inl, lq_inr, lpK_bnd, lpK_gd, lq_let]
  try rfl
set_option maxRecDepth 20000 in
theorem E_Md_runs_4 (v0R : Nat) (v1J : Int64) (v3I : Int32) (v4I : Int32) (v5I : Int32) (v6I : Int32) (s0R : Nat) (s1I : Int32) (s2I : Int32) (σ : AM) : L_Md_runs_4 v0R v1J v3I v4I v5I v6I s0R s1I s2I σ = (gd (okO σ s0R 12) <| letT (sI σ s0R 55 (s1I + s2I)) fun σ2 => gd (okO σ2 v0R 12) <| gd (okO σ2 (aR σ2 v0R 36) 101) <| gd (inB v6I (aN σ2 (aR σ2 v0R 36))) <| letT (sI σ2 v0R 56 ((aI σ2 v0R 56) + (aI σ2 (aR σ2 v0R 36) v6I.toNatClampNeg))) fun σ7 => L_Md_runs_1 v0R v1J v3I v4I v5I σ7) := by
  unfold L_Md_runs_4
  rw [lp_eq]
  show lpK (lp F_Md_runs) (T_Md_runs_4 v0R v1J v3I v4I v5I v6I s0R s1I s2I σ) = _
  unfold T_Md_runs_4
  simp only [lpK_ite, lq_inl, lq_inr, lpK_bnd, lpK_gd, lq_let]
  try rfl
set_option maxRecDepth 20000 in
theorem E_Md_runs_5  (σ : AM) : L_Md_runs_5  σ = ((some ((), σ))) := by
  unfold L_Md_runs_5
  rw [lp_eq]
  show lpK (lp F_Md_runs) (T_Md_runs_5  σ) = _
  unfold T_Md_runs_5
  simp only [lpK_ite, lq_inl, lq_inr, lpK_bnd, lpK_gd, lq_let]
  try rfl
noncomputable def M_Md_runs (v0R : Nat) (v1J : Int64) (v3I : Int32) (σ : AM) : Option (Unit × AM) := mw σ (L_Md_runs_0 v0R v1J v3I σ)
def I_Md_runs (G : GX) (p : Program) (l : Launch) (e : Env) (s : State) (m : MethodId) (args : Array Value) (below : List Frame) (meth : Method) (c : Code) (z0 u0 n : Nat) : Prop :=
  (∀ (v0R : Nat) (v1J : Int64) (v3I : Int32) (σ : AM), VX (QM eV G args s below z0 u0) G p l e s m args below meth c 2 z0 u0 9 (lpn F_Md_runs n (0, v0R, v1J, v3I, 0, 0, 0, 0, 0, 0, 0, 0, 0, σ)) 0 [(0, .ref v0R), (1, .long v1J), (3, .int v3I)] [] σ) ∧
  (∀ (v0R : Nat) (v1J : Int64) (v3I : Int32) (v4I : Int32) (v5I : Int32) (σ : AM), VX (QM eV G args s below z0 u0) G p l e s m args below meth c 2 z0 u0 9 (lpn F_Md_runs n (1, v0R, v1J, v3I, v4I, v5I, 0, 0, 0, 0, 0, 0, 0, σ)) 24 [(0, .ref v0R), (1, .long v1J), (3, .int v3I), (4, .int v4I), (5, .int v5I)] [] σ) ∧
  (∀ (v0R : Nat) (v1J : Int64) (v3I : Int32) (v5I : Int32) (v6I : Int32) (v7I : Int32) (v8I : Int32) (s0I : Int32) (σ : AM), VX (QM eV G args s below z0 u0) G p l e s m args below meth c 2 z0 u0 9 (lpn F_Md_runs n (2, v0R, v1J, v3I, 0, v5I, v6I, v7I, v8I, s0I, 0, 0, 0, σ)) 85 [(0, .ref v0R), (1, .long v1J), (3, .int v3I), (5, .int v5I), (6, .int v6I), (7, .int v7I), (8, .int v8I)] [.int s0I] σ) ∧
  (∀ (v0R : Nat) (v1J : Int64) (v3I : Int32) (v4I : Int32) (v6I : Int32) (v8I : Int32) (s0I : Int32) (σ : AM), VX (QM eV G args s below z0 u0) G p l e s m args below meth c 2 z0 u0 9 (lpn F_Md_runs n (3, v0R, v1J, v3I, v4I, 0, v6I, 0, v8I, s0I, 0, 0, 0, σ)) 99 [(0, .ref v0R), (1, .long v1J), (3, .int v3I), (4, .int v4I), (6, .int v6I), (8, .int v8I)] [.int s0I] σ) ∧
  (∀ (v0R : Nat) (v1J : Int64) (v3I : Int32) (v4I : Int32) (v5I : Int32) (v6I : Int32) (s0R : Nat) (s1I : Int32) (s2I : Int32) (σ : AM), VX (QM eV G args s below z0 u0) G p l e s m args below meth c 2 z0 u0 9 (lpn F_Md_runs n (4, v0R, v1J, v3I, v4I, v5I, v6I, 0, 0, 0, s0R, s1I, s2I, σ)) 137 [(0, .ref v0R), (1, .long v1J), (3, .int v3I), (4, .int v4I), (5, .int v5I), (6, .int v6I)] [.int s2I, .int s1I, .ref s0R] σ) ∧
  (∀ (σ : AM), VX (QM eV G args s below z0 u0) G p l e s m args below meth c 2 z0 u0 9 (lpn F_Md_runs n (5, 0, 0, 0, 0, 0, 0, 0, 0, 0, 0, 0, 0, σ)) 160 [] [] σ)
set_option maxRecDepth 20000 in
theorem s_Md_runs_0 {G : GX} {p : Program} {l : Launch} {e : Env} {s : State} {m : MethodId} {args : Array Value} {below : List Frame} {meth : Method} {c : Code} {z0 u0 n : Nat} (C : Cx G p s m args meth c prog_14_method_71_code 9 "BellPlateModel" ((none))) (IH : I_Md_runs G p l e s m args below meth c z0 u0 n) (v0R : Nat) (v1J : Int64) (v3I : Int32) (σ : AM) : VX (QM eV G args s below z0 u0) G p l e s m args below meth c 2 z0 u0 9 (lpK (lpn F_Md_runs n) (T_Md_runs_0 v0R v1J v3I σ)) 0 [(0, .ref v0R), (1, .long v1J), (3, .int v3I)] [] σ := by
  unfold T_Md_runs_0
  refine x_iconst (v := (0 : Int32)) C d_Md_runs_0 (by decide) ?_
  refine x_istore (lv' := [(4, .int (0 : Int32)), (0, .ref v0R), (1, .long v1J), (3, .int v3I)]) C d_Md_runs_1 (by decide) rfl ?_
  refine x_aload_n C d_Md_runs_3 1 rfl ?_
  refine x_gd (fun h1 => ?_)
  refine x_getI (k := 46) C (okO_iff.mp h1) rfl j11_ok (by decide) rfl w1898 d_Md_runs_4 ?_
  refine x_letI (fun x2 _ => ?_)
  refine x_istore (lv' := [(5, .int x2), (4, .int (0 : Int32)), (0, .ref v0R), (1, .long v1J), (3, .int v3I)]) C d_Md_runs_7 (by decide) rfl ?_
  refine x_aload_n C d_Md_runs_9 2 rfl ?_
  refine x_iconst (v := (0 : Int32)) C d_Md_runs_10 (by decide) ?_
  refine x_putI (k := 49) C (okO_iff.mp h1) rfl j11_ok y11_ok n11_ok (by decide) rfl rfl rfl rfl w1901 d_Md_runs_11 ?_
  refine x_letS (fun σ3 e4 => ?_)
  refine x_aload_n C d_Md_runs_14 2 rfl ?_
  refine x_iconst (v := (0 : Int32)) C d_Md_runs_15 (by decide) ?_
  refine x_putI (k := 55) C (by first | exact (okO_iff.mp h1) | (rw [e4]; exact (okO_iff.mp h1))) rfl j11_ok y11_ok n11_ok (by decide) rfl rfl rfl rfl w1907 d_Md_runs_16 ?_
  refine x_letS (fun σ5 e6 => ?_)
  refine x_aload_n C d_Md_runs_19 2 rfl ?_
  refine x_iconst (v := (0 : Int32)) C d_Md_runs_20 (by decide) ?_
  refine x_putI (k := 56) C (by first | exact (okO_iff.mp h1) | (rw [e6, e4]; exact (okO_iff.mp h1))) rfl j11_ok y11_ok n11_ok (by decide) rfl rfl rfl rfl w1908 d_Md_runs_21 ?_
  refine x_letS (fun σ7 e8 => ?_)
  refine x_lv [2, 3, 4, 1, 0] rfl ?_
  exact IH.2.1 v0R v1J v3I ((0 : Int32)) x2 (σ7)
set_option maxRecDepth 20000 in
theorem s_Md_runs_1 {G : GX} {p : Program} {l : Launch} {e : Env} {s : State} {m : MethodId} {args : Array Value} {below : List Frame} {meth : Method} {c : Code} {z0 u0 n : Nat} (C : Cx G p s m args meth c prog_14_method_71_code 9 "BellPlateModel" ((none))) (IH : I_Md_runs G p l e s m args below meth c z0 u0 n) (v0R : Nat) (v1J : Int64) (v3I : Int32) (v4I : Int32) (v5I : Int32) (σ : AM) : VX (QM eV G args s below z0 u0) G p l e s m args below meth c 2 z0 u0 9 (lpK (lpn F_Md_runs n) (T_Md_runs_1 v0R v1J v3I v4I v5I σ)) 24 [(0, .ref v0R), (1, .long v1J), (3, .int v3I), (4, .int v4I), (5, .int v5I)] [] σ := by
  unfold T_Md_runs_1
  refine x_iload C d_Md_runs_24 4 rfl ?_
  refine x_iload C d_Md_runs_26 3 rfl ?_
  refine x_isub C d_Md_runs_28 ?_
  refine x_iconst (v := (1 : Int32)) C d_Md_runs_29 (by decide) ?_
  refine x_icmp_le (tgt := 160) C d_Md_runs_30 (by decide) (fun _ => ?_) (fun _ => ?_)
  · refine x_aload_n C d_Md_runs_33 0 rfl ?_
    refine x_gd (fun h1 => ?_)
    refine x_getI (k := 49) C (okO_iff.mp h1) rfl j11_ok (by decide) rfl w1901 d_Md_runs_34 ?_
    refine x_bipush (v := (60 : Int32)) C d_Md_runs_37 (by decide) ?_
    refine x_icmp_ge (tgt := 160) C d_Md_runs_39 (by decide) (fun _ => ?_) (fun _ => ?_)
    · refine x_aload_n C d_Md_runs_42 0 rfl ?_
      refine x_iload_n C d_Md_runs_43 2 rfl ?_
      refine x_iload C d_Md_runs_44 3 rfl ?_
      refine x_iload C d_Md_runs_46 4 rfl ?_
      refine x_callVI (As := [.int v3I, .int v4I, .int v5I]) C (c_Md_nextOf G l v0R v3I v4I v5I σ) (okO_iff.mp h1) rfl w2285 w96 w2283 w2286 w134 k_Md_nextOf rfl (by decide) (by decide) rfl (Nat.le_of_ble_eq_true rfl) d_Md_runs_48 (fun r2 σ3 => ?_)
      refine x_istore (lv' := [(6, .int r2), (0, .ref v0R), (1, .long v1J), (3, .int v3I), (4, .int v4I), (5, .int v5I)]) C d_Md_runs_51 (by decide) rfl ?_
      refine x_aload_n C d_Md_runs_53 1 rfl ?_
      refine x_iload C d_Md_runs_54 0 rfl ?_
      refine x_iload C d_Md_runs_56 4 rfl ?_
      refine x_iload C d_Md_runs_58 5 rfl ?_
      refine x_gd (fun h6 => ?_)
      refine x_callVI (As := [.int r2, .int v4I, .int v5I]) C (c_Md_divides G l v0R r2 v4I v5I σ3) (okO_iff.mp h6) rfl w2305 w100 w2303 w2306 w134 k_Md_divides rfl (by decide) (by decide) rfl (Nat.le_of_ble_eq_true rfl) d_Md_runs_60 (fun r4 σ5 => ?_)
      refine x_istore (lv' := [(7, .int r4), (6, .int r2), (0, .ref v0R), (1, .long v1J), (3, .int v3I), (4, .int v4I), (5, .int v5I)]) C d_Md_runs_63 (by decide) rfl ?_
      refine x_lload_n C d_Md_runs_65 3 rfl ?_
      refine x_iload C d_Md_runs_66 1 rfl ?_
      refine x_callSI (As := [.long v1J, .int r2]) C (c_Md_doesRing G l v1J r2 σ5) w2235 w2234 w2236 w134 k_Md_doesRing rfl (by decide) (by decide) rfl (Nat.le_of_ble_eq_true rfl) d_Md_runs_68 (fun r7 σ8 => ?_)
      refine x_istore (lv' := [(8, .int r7), (7, .int r4), (6, .int r2), (0, .ref v0R), (1, .long v1J), (3, .int v3I), (4, .int v4I), (5, .int v5I)]) C d_Md_runs_71 (by decide) rfl ?_
      refine x_iload C d_Md_runs_73 0 rfl ?_
      refine x_if_eq (tgt := 83) C d_Md_runs_75 (by decide) (fun _ => ?_) (fun _ => ?_)
      · refine x_iload C d_Md_runs_83 1 rfl ?_
        refine x_lv [3, 4, 5, 7, 2, 1, 0] rfl ?_
        exact IH.2.2.1 v0R v1J v3I v5I r2 r4 r7 r4 (σ8)
      · refine x_iload C d_Md_runs_78 6 rfl ?_
        refine x_goto (tgt := 85) C d_Md_runs_80 (by decide) ?_
        refine x_lv [3, 4, 5, 7, 2, 1, 0] rfl ?_
        exact IH.2.2.1 v0R v1J v3I v5I r2 r4 r7 v4I (σ8)
    · refine x_lv [] rfl ?_
      exact IH.2.2.2.2.2  (σ)
  · refine x_lv [] rfl ?_
    exact IH.2.2.2.2.2  (σ)
set_option maxRecDepth 20000 in
theorem s_Md_runs_2 {G : GX} {p : Program} {l : Launch} {e : Env} {s : State} {m : MethodId} {args : Array Value} {below : List Frame} {meth : Method} {c : Code} {z0 u0 n : Nat} (C : Cx G p s m args meth c prog_14_method_71_code 9 "BellPlateModel" ((none))) (IH : I_Md_runs G p l e s m args below meth c z0 u0 n) (v0R : Nat) (v1J : Int64) (v3I : Int32) (v5I : Int32) (v6I : Int32) (v7I : Int32) (v8I : Int32) (s0I : Int32) (σ : AM) : VX (QM eV G args s below z0 u0) G p l e s m args below meth c 2 z0 u0 9 (lpK (lpn F_Md_runs n) (T_Md_runs_2 v0R v1J v3I v5I v6I v7I v8I s0I σ)) 85 [(0, .ref v0R), (1, .long v1J), (3, .int v3I), (5, .int v5I), (6, .int v6I), (7, .int v7I), (8, .int v8I)] [.int s0I] σ := by
  unfold T_Md_runs_2
  refine x_istore (lv' := [(4, .int s0I), (0, .ref v0R), (1, .long v1J), (3, .int v3I), (5, .int v5I), (6, .int v6I), (7, .int v7I), (8, .int v8I)]) C d_Md_runs_85 (by decide) rfl ?_
  refine x_iload C d_Md_runs_87 7 rfl ?_
  refine x_if_eq (tgt := 97) C d_Md_runs_89 (by decide) (fun _ => ?_) (fun _ => ?_)
  · refine x_iload C d_Md_runs_97 4 rfl ?_
    refine x_lv [1, 2, 3, 0, 5, 7] rfl ?_
    exact IH.2.2.2.1 v0R v1J v3I s0I v6I v8I v5I (σ)
  · refine x_iload C d_Md_runs_92 6 rfl ?_
    refine x_goto (tgt := 99) C d_Md_runs_94 (by decide) ?_
    refine x_lv [1, 2, 3, 0, 5, 7] rfl ?_
    exact IH.2.2.2.1 v0R v1J v3I s0I v6I v8I v7I (σ)
set_option maxRecDepth 20000 in
theorem s_Md_runs_3 {G : GX} {p : Program} {l : Launch} {e : Env} {s : State} {m : MethodId} {args : Array Value} {below : List Frame} {meth : Method} {c : Code} {z0 u0 n : Nat} (C : Cx G p s m args meth c prog_14_method_71_code 9 "BellPlateModel" ((none))) (IH : I_Md_runs G p l e s m args below meth c z0 u0 n) (v0R : Nat) (v1J : Int64) (v3I : Int32) (v4I : Int32) (v6I : Int32) (v8I : Int32) (s0I : Int32) (σ : AM) : VX (QM eV G args s below z0 u0) G p l e s m args below meth c 2 z0 u0 9 (lpK (lpn F_Md_runs n) (T_Md_runs_3 v0R v1J v3I v4I v6I v8I s0I σ)) 99 [(0, .ref v0R), (1, .long v1J), (3, .int v3I), (4, .int v4I), (6, .int v6I), (8, .int v8I)] [.int s0I] σ := by
  unfold T_Md_runs_3
  refine x_istore (lv' := [(5, .int s0I), (0, .ref v0R), (1, .long v1J), (3, .int v3I), (4, .int v4I), (6, .int v6I), (8, .int v8I)]) C d_Md_runs_99 (by decide) rfl ?_
  refine x_aload_n C d_Md_runs_101 1 rfl ?_
  refine x_gd (fun h1 => ?_)
  refine x_gd (fun h2 => ?_)
  refine x_getR (k := 54) (kv := 101) C (okO_iff.mp h1) rfl j11_ok (by decide) rfl (okO_iff.mp h2) (by decide) w1906 d_Md_runs_102 ?_
  refine x_aload_n C d_Md_runs_105 1 rfl ?_
  refine x_getI (k := 49) C (okO_iff.mp h1) rfl j11_ok (by decide) rfl w1901 d_Md_runs_106 ?_
  refine x_iload C d_Md_runs_109 5 rfl ?_
  refine x_gd (fun h3 => ?_)
  refine x_astI C (okO_iff.mp h2) (inB_iff.mp h3) d_Md_runs_111 ?_
  refine x_letS (fun σ4 e5 => ?_)
  refine x_aload_n C d_Md_runs_112 1 rfl ?_
  refine x_dup C d_Md_runs_113 rfl ?_
  refine x_getI (k := 49) C (by first | exact (okO_iff.mp h1) | (rw [e5]; exact (okO_iff.mp h1))) rfl j11_ok (by decide) rfl w1901 d_Md_runs_114 ?_
  refine x_iconst (v := (1 : Int32)) C d_Md_runs_117 (by decide) ?_
  refine x_iadd C d_Md_runs_118 ?_
  refine x_putI (k := 49) C (by first | exact (okO_iff.mp h1) | (rw [e5]; exact (okO_iff.mp h1))) rfl j11_ok y11_ok n11_ok (by decide) rfl rfl rfl rfl w1901 d_Md_runs_119 ?_
  refine x_letS (fun σ6 e7 => ?_)
  refine x_aload_n C d_Md_runs_122 1 rfl ?_
  refine x_dup C d_Md_runs_123 rfl ?_
  refine x_getI (k := 55) C (by first | exact (okO_iff.mp h1) | (rw [e7, e5]; exact (okO_iff.mp h1))) rfl j11_ok (by decide) rfl w1907 d_Md_runs_124 ?_
  refine x_iload C d_Md_runs_127 6 rfl ?_
  refine x_if_eq (tgt := 136) C d_Md_runs_129 (by decide) (fun _ => ?_) (fun _ => ?_)
  · refine x_iconst (v := (0 : Int32)) C d_Md_runs_136 (by decide) ?_
    refine x_lv [1, 2, 3, 4, 0, 5] rfl ?_
    exact IH.2.2.2.2.1 v0R v1J v3I v4I s0I v6I v0R (aI σ6 v0R 55) ((0 : Int32)) (σ6)
  · refine x_iconst (v := (1 : Int32)) C d_Md_runs_132 (by decide) ?_
    refine x_goto (tgt := 137) C d_Md_runs_133 (by decide) ?_
    refine x_lv [1, 2, 3, 4, 0, 5] rfl ?_
    exact IH.2.2.2.2.1 v0R v1J v3I v4I s0I v6I v0R (aI σ6 v0R 55) ((1 : Int32)) (σ6)
set_option maxRecDepth 20000 in
theorem s_Md_runs_4 {G : GX} {p : Program} {l : Launch} {e : Env} {s : State} {m : MethodId} {args : Array Value} {below : List Frame} {meth : Method} {c : Code} {z0 u0 n : Nat} (C : Cx G p s m args meth c prog_14_method_71_code 9 "BellPlateModel" ((none))) (IH : I_Md_runs G p l e s m args below meth c z0 u0 n) (v0R : Nat) (v1J : Int64) (v3I : Int32) (v4I : Int32) (v5I : Int32) (v6I : Int32) (s0R : Nat) (s1I : Int32) (s2I : Int32) (σ : AM) : VX (QM eV G args s below z0 u0) G p l e s m args below meth c 2 z0 u0 9 (lpK (lpn F_Md_runs n) (T_Md_runs_4 v0R v1J v3I v4I v5I v6I s0R s1I s2I σ)) 137 [(0, .ref v0R), (1, .long v1J), (3, .int v3I), (4, .int v4I), (5, .int v5I), (6, .int v6I)] [.int s2I, .int s1I, .ref s0R] σ := by
  unfold T_Md_runs_4
  refine x_iadd C d_Md_runs_137 ?_
  refine x_gd (fun h1 => ?_)
  refine x_putI (k := 55) C (okO_iff.mp h1) rfl j11_ok y11_ok n11_ok (by decide) rfl rfl rfl rfl w1907 d_Md_runs_138 ?_
  refine x_letS (fun σ2 e3 => ?_)
  refine x_aload_n C d_Md_runs_141 0 rfl ?_
  refine x_dup C d_Md_runs_142 rfl ?_
  refine x_gd (fun h4 => ?_)
  refine x_getI (k := 56) C (okO_iff.mp h4) rfl j11_ok (by decide) rfl w1908 d_Md_runs_143 ?_
  refine x_aload_n C d_Md_runs_146 0 rfl ?_
  refine x_gd (fun h5 => ?_)
  refine x_getR (k := 36) (kv := 101) C (okO_iff.mp h4) rfl j11_ok (by decide) rfl (okO_iff.mp h5) (by decide) w1888 d_Md_runs_147 ?_
  refine x_iload C d_Md_runs_150 5 rfl ?_
  refine x_gd (fun h6 => ?_)
  refine x_aldI C (okO_iff.mp h5) (inB_iff.mp h6) d_Md_runs_152 ?_
  refine x_iadd C d_Md_runs_153 ?_
  refine x_putI (k := 56) C (okO_iff.mp h4) rfl j11_ok y11_ok n11_ok (by decide) rfl rfl rfl rfl w1908 d_Md_runs_154 ?_
  refine x_letS (fun σ7 e8 => ?_)
  refine x_goto (tgt := 24) C d_Md_runs_157 (by decide) ?_
  refine x_lv [0, 1, 2, 3, 4] rfl ?_
  exact IH.2.1 v0R v1J v3I v4I v5I (σ7)
set_option maxRecDepth 20000 in
theorem s_Md_runs_5 {G : GX} {p : Program} {l : Launch} {e : Env} {s : State} {m : MethodId} {args : Array Value} {below : List Frame} {meth : Method} {c : Code} {z0 u0 n : Nat} (C : Cx G p s m args meth c prog_14_method_71_code 9 "BellPlateModel" ((none))) (IH : I_Md_runs G p l e s m args below meth c z0 u0 n)  (σ : AM) : VX (QM eV G args s below z0 u0) G p l e s m args below meth c 2 z0 u0 9 (lpK (lpn F_Md_runs n) (T_Md_runs_5  σ)) 160 [] [] σ := by
  unfold T_Md_runs_5
  exact x_vret C d_Md_runs_160
theorem i_Md_runs {G : GX} {p : Program} {l : Launch} {e : Env} {s : State} {m : MethodId} {args : Array Value} {below : List Frame} {meth : Method} {c : Code} {z0 u0 : Nat} (C : Cx G p s m args meth c prog_14_method_71_code 9 "BellPlateModel" ((none))) (n : Nat) : I_Md_runs G p l e s m args below meth c z0 u0 n := by
  induction n with
  | zero => exact ⟨fun _ _ _ _ => x_none, fun _ _ _ _ _ _ => x_none, fun _ _ _ _ _ _ _ _ _ => x_none, fun _ _ _ _ _ _ _ _ => x_none, fun _ _ _ _ _ _ _ _ _ _ => x_none, fun _ => x_none⟩
  | succ n IH => exact ⟨fun v0R v1J v3I σ => s_Md_runs_0 C IH v0R v1J v3I σ, fun v0R v1J v3I v4I v5I σ => s_Md_runs_1 C IH v0R v1J v3I v4I v5I σ, fun v0R v1J v3I v5I v6I v7I v8I s0I σ => s_Md_runs_2 C IH v0R v1J v3I v5I v6I v7I v8I s0I σ, fun v0R v1J v3I v4I v6I v8I s0I σ => s_Md_runs_3 C IH v0R v1J v3I v4I v6I v8I s0I σ, fun v0R v1J v3I v4I v5I v6I s0R s1I s2I σ => s_Md_runs_4 C IH v0R v1J v3I v4I v5I v6I s0R s1I s2I σ, fun σ => s_Md_runs_5 C IH σ⟩
theorem c_Md_runs (G : GX) (l : Launch) (v0R : Nat) (v1J : Int64) (v3I : Int32) (σ : AM) : CT eV G l 2 y_Md_runs prog_14_method_71_code 9 (none) [.ref v0R, .long v1J, .int v3I] σ (M_Md_runs v0R v1J v3I σ) := by
  refine ct_of (by decide +kernel) (Nat.le_of_ble_eq_true rfl) (fun p e s m args below meth c C hin => ?_)
  refine x_lve (lv' := [(0, .ref v0R), (1, .long v1J), (3, .int v3I)]) rfl ?_
  intro r σ' h
  obtain ⟨n, hn⟩ := (lp_iff _ _ _).mp h
  exact (i_Md_runs C n).1 v0R v1J v3I σ r σ' hn
/-! BellPlateModel.canRun(II)Z -/
abbrev y_Md_canRun : MethodName := ⟨"BellPlateModel", "canRun", "(II)Z"⟩
theorem k_Md_canRun : y_Md_canRun.cls ≠ "java/lang/invoke/MethodHandle" ∧ y_Md_canRun.cls ≠ "java/lang/invoke/VarHandle" ∧ (parseMethodDescriptor y_Md_canRun.desc).map (fun d => d.parameters.length) = some 2 := by decide +kernel
theorem d_Md_canRun_0 : decode prog_14_method_72_code 0 = .ok (.aload_n 0, 1) := by decide +kernel
theorem d_Md_canRun_1 : decode prog_14_method_72_code 1 = .ok (.iload_n 1, 1) := by decide +kernel
theorem d_Md_canRun_2 : decode prog_14_method_72_code 2 = .ok (.invokevirtual 337, 3) := by decide +kernel
theorem d_Md_canRun_5 : decode prog_14_method_72_code 5 = .ok (.ifCond .eq 10, 3) := by decide +kernel
theorem d_Md_canRun_8 : decode prog_14_method_72_code 8 = .ok (.iload_n 2, 1) := by decide +kernel
theorem d_Md_canRun_9 : decode prog_14_method_72_code 9 = .ok (.invokestatic 407, 3) := by decide +kernel
theorem d_Md_canRun_12 : decode prog_14_method_72_code 12 = .ok (.ifCond .ne 5, 3) := by decide +kernel
theorem d_Md_canRun_15 : decode prog_14_method_72_code 15 = .ok (.iconst 0, 1) := by decide +kernel
theorem d_Md_canRun_16 : decode prog_14_method_72_code 16 = .ok (.ireturn, 1) := by decide +kernel
theorem d_Md_canRun_17 : decode prog_14_method_72_code 17 = .ok (.aload_n 0, 1) := by decide +kernel
theorem d_Md_canRun_18 : decode prog_14_method_72_code 18 = .ok (.invokevirtual 410, 3) := by decide +kernel
theorem d_Md_canRun_21 : decode prog_14_method_72_code 21 = .ok (.aload_n 0, 1) := by decide +kernel
theorem d_Md_canRun_22 : decode prog_14_method_72_code 22 = .ok (.iload_n 1, 1) := by decide +kernel
theorem d_Md_canRun_23 : decode prog_14_method_72_code 23 = .ok (.invokevirtual 384, 3) := by decide +kernel
theorem d_Md_canRun_26 : decode prog_14_method_72_code 26 = .ok (.ireturn, 1) := by decide +kernel
abbrev S_Md_canRun : Type := Nat × Nat × Int32 × Int32 × AM
noncomputable def T_Md_canRun_0 (v0R : Nat) (v1I : Int32) (v2I : Int32) (σ : AM) : S_Md_canRun ⊕ Option (Int32 × AM) :=
  gdT (okO σ v0R 12) <| bndT (M_Md_isWeights v0R v1I σ) fun r1 σ2 => if r1 = 0 then (.inl (1, 0, 0, 0, σ2)) else (bndT (M_Md_isWay v2I σ2) fun r4 σ5 => if r4 = 0 then (.inl (1, 0, 0, 0, σ5)) else (gdT (okO σ5 v0R 12) <| bndT (M_Md_takesLeft v0R σ5) fun _ σ7 => gdT (okO σ7 v0R 12) <| bndT (M_Md_isLeft v0R v1I σ7) fun r9 σ10 => gdT (isB r9) <| .inr (some (r9, σ10))))
noncomputable def T_Md_canRun_1  (σ : AM) : S_Md_canRun ⊕ Option (Int32 × AM) :=
  .inr (some ((0 : Int32), σ))
noncomputable def F_Md_canRun : S_Md_canRun → S_Md_canRun ⊕ Option (Int32 × AM) := fun s => match s.1 with
  | 0 => T_Md_canRun_0 (s.2.1) (s.2.2.1) (s.2.2.2.1) (s.2.2.2.2)
  | _ => T_Md_canRun_1  (s.2.2.2.2)
noncomputable def L_Md_canRun_0 (v0R : Nat) (v1I : Int32) (v2I : Int32) (σ : AM) : Option (Int32 × AM) := lp F_Md_canRun (0, v0R, v1I, v2I, σ)
noncomputable def L_Md_canRun_1  (σ : AM) : Option (Int32 × AM) := lp F_Md_canRun (1, 0, 0, 0, σ)
set_option maxRecDepth 20000 in
theorem E_Md_canRun_0 (v0R : Nat) (v1I : Int32) (v2I : Int32) (σ : AM) : L_Md_canRun_0 v0R v1I v2I σ = (gd (okO σ v0R 12) <| bnd (M_Md_isWeights v0R v1I σ) fun r1 σ2 => if r1 = 0 then (L_Md_canRun_1 σ2) else (bnd (M_Md_isWay v2I σ2) fun r4 σ5 => if r4 = 0 then (L_Md_canRun_1 σ5) else (gd (okO σ5 v0R 12) <| bnd (M_Md_takesLeft v0R σ5) fun _ σ7 => gd (okO σ7 v0R 12) <| bnd (M_Md_isLeft v0R v1I σ7) fun r9 σ10 => gd (isB r9) <| (some (r9, σ10))))) := by
  unfold L_Md_canRun_0
  rw [lp_eq]
  show lpK (lp F_Md_canRun) (T_Md_canRun_0 v0R v1I v2I σ) = _
  unfold T_Md_canRun_0
  simp only [lpK_ite, lq_inl, lq_inr, lpK_bnd, lpK_gd, lq_let]
  try rfl
set_option maxRecDepth 20000 in
theorem E_Md_canRun_1  (σ : AM) : L_Md_canRun_1  σ = ((some ((0 : Int32), σ))) := by
  unfold L_Md_canRun_1
  rw [lp_eq]
  show lpK (lp F_Md_canRun) (T_Md_canRun_1  σ) = _
  unfold T_Md_canRun_1
  simp only [lpK_ite, lq_inl, lq_inr, lpK_bnd, lpK_gd, lq_let]
  try rfl
noncomputable def M_Md_canRun (v0R : Nat) (v1I : Int32) (v2I : Int32) (σ : AM) : Option (Int32 × AM) := mw σ (L_Md_canRun_0 v0R v1I v2I σ)
def I_Md_canRun (G : GX) (p : Program) (l : Launch) (e : Env) (s : State) (m : MethodId) (args : Array Value) (below : List Frame) (meth : Method) (c : Code) (z0 u0 n : Nat) : Prop :=
  (∀ (v0R : Nat) (v1I : Int32) (v2I : Int32) (σ : AM), VX (QM eI G args s below z0 u0) G p l e s m args below meth c 5 z0 u0 3 (lpn F_Md_canRun n (0, v0R, v1I, v2I, σ)) 0 [(0, .ref v0R), (1, .int v1I), (2, .int v2I)] [] σ) ∧
  (∀ (σ : AM), VX (QM eI G args s below z0 u0) G p l e s m args below meth c 5 z0 u0 3 (lpn F_Md_canRun n (1, 0, 0, 0, σ)) 15 [] [] σ)
set_option maxRecDepth 20000 in
theorem s_Md_canRun_0 {G : GX} {p : Program} {l : Launch} {e : Env} {s : State} {m : MethodId} {args : Array Value} {below : List Frame} {meth : Method} {c : Code} {z0 u0 n : Nat} (C : Cx G p s m args meth c prog_14_method_72_code 3 "BellPlateModel" ((some FieldType.boolean))) (IH : I_Md_canRun G p l e s m args below meth c z0 u0 n) (v0R : Nat) (v1I : Int32) (v2I : Int32) (σ : AM) : VX (QM eI G args s below z0 u0) G p l e s m args below meth c 5 z0 u0 3 (lpK (lpn F_Md_canRun n) (T_Md_canRun_0 v0R v1I v2I σ)) 0 [(0, .ref v0R), (1, .int v1I), (2, .int v2I)] [] σ := by
  unfold T_Md_canRun_0
  refine x_aload_n C d_Md_canRun_0 0 rfl ?_
  refine x_iload_n C d_Md_canRun_1 1 rfl ?_
  refine x_gd (fun h3 => ?_)
  refine x_callVI (As := [.int v1I]) C (c_Md_isWeights G l v0R v1I σ) (okO_iff.mp h3) rfl w2182 w83 w2180 w2183 w134 k_Md_isWeights rfl (by decide) (by decide) rfl (Nat.le_of_ble_eq_true rfl) d_Md_canRun_2 (fun r1 σ2 => ?_)
  refine x_if_eq (tgt := 15) C d_Md_canRun_5 (by decide) (fun _ => ?_) (fun _ => ?_)
  · refine x_lv [] rfl ?_
    exact IH.2  (σ2)
  · refine x_iload_n C d_Md_canRun_8 2 rfl ?_
    refine x_callSI (As := [.int v2I]) C (c_Md_isWay G l v2I σ2) w2277 w2276 w2278 w134 k_Md_isWay rfl (by decide) (by decide) rfl (Nat.le_of_ble_eq_true rfl) d_Md_canRun_9 (fun r4 σ5 => ?_)
    refine x_if_ne (tgt := 17) C d_Md_canRun_12 (by decide) (fun _ => ?_) (fun _ => ?_)
    · refine x_lv [] rfl ?_
      exact IH.2  (σ5)
    · refine x_aload_n C d_Md_canRun_17 0 rfl ?_
      refine x_gd (fun h8 => ?_)
      refine x_callVV (As := []) C (c_Md_takesLeft G l v0R  σ5) (okO_iff.mp h8) rfl w2281 w95 w2279 w2282 w134 k_Md_takesLeft rfl (by decide) (by decide) rfl (Nat.le_of_ble_eq_true rfl) d_Md_canRun_18 (fun r6 σ7 => ?_)
      refine x_aload_n C d_Md_canRun_21 0 rfl ?_
      refine x_iload_n C d_Md_canRun_22 1 rfl ?_
      refine x_gd (fun h11 => ?_)
      refine x_callVI (As := [.int v1I]) C (c_Md_isLeft G l v0R v1I σ7) (okO_iff.mp h11) rfl w2239 w90 w2237 w2240 w134 k_Md_isLeft rfl (by decide) (by decide) rfl (Nat.le_of_ble_eq_true rfl) d_Md_canRun_23 (fun r9 σ10 => ?_)
      refine x_gd (fun h12 => ?_)
      exact x_zret C (isB_narrow h12) d_Md_canRun_26
set_option maxRecDepth 20000 in
theorem s_Md_canRun_1 {G : GX} {p : Program} {l : Launch} {e : Env} {s : State} {m : MethodId} {args : Array Value} {below : List Frame} {meth : Method} {c : Code} {z0 u0 n : Nat} (C : Cx G p s m args meth c prog_14_method_72_code 3 "BellPlateModel" ((some FieldType.boolean))) (IH : I_Md_canRun G p l e s m args below meth c z0 u0 n)  (σ : AM) : VX (QM eI G args s below z0 u0) G p l e s m args below meth c 5 z0 u0 3 (lpK (lpn F_Md_canRun n) (T_Md_canRun_1  σ)) 15 [] [] σ := by
  unfold T_Md_canRun_1
  refine x_iconst (v := (0 : Int32)) C d_Md_canRun_15 (by decide) ?_
  exact x_zret C (by decide) d_Md_canRun_16
theorem i_Md_canRun {G : GX} {p : Program} {l : Launch} {e : Env} {s : State} {m : MethodId} {args : Array Value} {below : List Frame} {meth : Method} {c : Code} {z0 u0 : Nat} (C : Cx G p s m args meth c prog_14_method_72_code 3 "BellPlateModel" ((some FieldType.boolean))) (n : Nat) : I_Md_canRun G p l e s m args below meth c z0 u0 n := by
  induction n with
  | zero => exact ⟨fun _ _ _ _ => x_none, fun _ => x_none⟩
  | succ n IH => exact ⟨fun v0R v1I v2I σ => s_Md_canRun_0 C IH v0R v1I v2I σ, fun σ => s_Md_canRun_1 C IH σ⟩
theorem c_Md_canRun (G : GX) (l : Launch) (v0R : Nat) (v1I : Int32) (v2I : Int32) (σ : AM) : CT eI G l 5 y_Md_canRun prog_14_method_72_code 3 ((some FieldType.boolean)) [.ref v0R, .int v1I, .int v2I] σ (M_Md_canRun v0R v1I v2I σ) := by
  refine ct_of (by decide +kernel) (Nat.le_of_ble_eq_true rfl) (fun p e s m args below meth c C hin => ?_)
  refine x_lve (lv' := [(0, .ref v0R), (1, .int v1I), (2, .int v2I)]) rfl ?_
  intro r σ' h
  obtain ⟨n, hn⟩ := (lp_iff _ _ _).mp h
  exact (i_Md_canRun C n).1 v0R v1I v2I σ r σ' hn
/-! BellPlateModel.run(III)I -/
abbrev y_Md_run : MethodName := ⟨"BellPlateModel", "run", "(III)I"⟩
theorem k_Md_run : y_Md_run.cls ≠ "java/lang/invoke/MethodHandle" ∧ y_Md_run.cls ≠ "java/lang/invoke/VarHandle" ∧ (parseMethodDescriptor y_Md_run.desc).map (fun d => d.parameters.length) = some 3 := by decide +kernel
theorem d_Md_run_0 : decode prog_14_method_73_code 0 = .ok (.aload_n 0, 1) := by decide +kernel
theorem d_Md_run_1 : decode prog_14_method_73_code 1 = .ok (.iload_n 3, 1) := by decide +kernel
theorem d_Md_run_2 : decode prog_14_method_73_code 2 = .ok (.iconst 0, 1) := by decide +kernel
theorem d_Md_run_3 : decode prog_14_method_73_code 3 = .ok (.iconst 2, 1) := by decide +kernel
theorem d_Md_run_4 : decode prog_14_method_73_code 4 = .ok (.invokestatic 350, 3) := by decide +kernel
theorem d_Md_run_7 : decode prog_14_method_73_code 7 = .ok (.ifCond .eq 16, 3) := by decide +kernel
theorem d_Md_run_10 : decode prog_14_method_73_code 10 = .ok (.aload_n 0, 1) := by decide +kernel
theorem d_Md_run_11 : decode prog_14_method_73_code 11 = .ok (.iload_n 1, 1) := by decide +kernel
theorem d_Md_run_12 : decode prog_14_method_73_code 12 = .ok (.iload_n 2, 1) := by decide +kernel
theorem d_Md_run_13 : decode prog_14_method_73_code 13 = .ok (.invokevirtual 428, 3) := by decide +kernel
theorem d_Md_run_16 : decode prog_14_method_73_code 16 = .ok (.ifCond .eq 7, 3) := by decide +kernel
theorem d_Md_run_19 : decode prog_14_method_73_code 19 = .ok (.iconst 0, 1) := by decide +kernel
theorem d_Md_run_20 : decode prog_14_method_73_code 20 = .ok (.goto 4, 3) := by decide +kernel
theorem d_Md_run_23 : decode prog_14_method_73_code 23 = .ok (.iconst 1, 1) := by decide +kernel
theorem d_Md_run_24 : decode prog_14_method_73_code 24 = .ok (.putfield 1, 3) := by decide +kernel
theorem d_Md_run_27 : decode prog_14_method_73_code 27 = .ok (.aload_n 0, 1) := by decide +kernel
theorem d_Md_run_28 : decode prog_14_method_73_code 28 = .ok (.getfield 1, 3) := by decide +kernel
theorem d_Md_run_31 : decode prog_14_method_73_code 31 = .ok (.ifCond .le 5, 3) := by decide +kernel
theorem d_Md_run_34 : decode prog_14_method_73_code 34 = .ok (.iconst 0, 1) := by decide +kernel
theorem d_Md_run_35 : decode prog_14_method_73_code 35 = .ok (.ireturn, 1) := by decide +kernel
theorem d_Md_run_36 : decode prog_14_method_73_code 36 = .ok (.aload_n 0, 1) := by decide +kernel
theorem d_Md_run_37 : decode prog_14_method_73_code 37 = .ok (.aload_n 0, 1) := by decide +kernel
theorem d_Md_run_38 : decode prog_14_method_73_code 38 = .ok (.getfield 75, 3) := by decide +kernel
theorem d_Md_run_41 : decode prog_14_method_73_code 41 = .ok (.iload_n 1, 1) := by decide +kernel
theorem d_Md_run_42 : decode prog_14_method_73_code 42 = .ok (.laload, 1) := by decide +kernel
theorem d_Md_run_43 : decode prog_14_method_73_code 43 = .ok (.iload_n 2, 1) := by decide +kernel
theorem d_Md_run_44 : decode prog_14_method_73_code 44 = .ok (.invokevirtual 432, 3) := by decide +kernel
theorem d_Md_run_47 : decode prog_14_method_73_code 47 = .ok (.iload_n 3, 1) := by decide +kernel
theorem d_Md_run_48 : decode prog_14_method_73_code 48 = .ok (.ifCond .ne 10, 3) := by decide +kernel
theorem d_Md_run_51 : decode prog_14_method_73_code 51 = .ok (.aload_n 0, 1) := by decide +kernel
theorem d_Md_run_52 : decode prog_14_method_73_code 52 = .ok (.getfield 416, 3) := by decide +kernel
theorem d_Md_run_55 : decode prog_14_method_73_code 55 = .ok (.goto 19, 3) := by decide +kernel
theorem d_Md_run_58 : decode prog_14_method_73_code 58 = .ok (.iload_n 3, 1) := by decide +kernel
theorem d_Md_run_59 : decode prog_14_method_73_code 59 = .ok (.iconst 1, 1) := by decide +kernel
theorem d_Md_run_60 : decode prog_14_method_73_code 60 = .ok (.if_icmp .ne 10, 3) := by decide +kernel
theorem d_Md_run_63 : decode prog_14_method_73_code 63 = .ok (.aload_n 0, 1) := by decide +kernel
theorem d_Md_run_64 : decode prog_14_method_73_code 64 = .ok (.getfield 419, 3) := by decide +kernel
theorem d_Md_run_67 : decode prog_14_method_73_code 67 = .ok (.goto 7, 3) := by decide +kernel
theorem d_Md_run_70 : decode prog_14_method_73_code 70 = .ok (.aload_n 0, 1) := by decide +kernel
theorem d_Md_run_71 : decode prog_14_method_73_code 71 = .ok (.getfield 422, 3) := by decide +kernel
theorem d_Md_run_74 : decode prog_14_method_73_code 74 = .ok (.ireturn, 1) := by decide +kernel
abbrev S_Md_run : Type := Nat × Nat × Int32 × Int32 × Int32 × Int32 × Nat × Int32 × AM
noncomputable def T_Md_run_0 (v0R : Nat) (v1I : Int32) (v2I : Int32) (v3I : Int32) (σ : AM) : S_Md_run ⊕ Option (Int32 × AM) :=
  bndT (M_Md_within v3I (0 : Int32) (2 : Int32) σ) fun r1 σ2 => if r1 = 0 then (.inl (1, v0R, v1I, v2I, v3I, 0, v0R, 0, σ2)) else (gdT (okO σ2 v0R 12) <| bndT (M_Md_canRun v0R v1I v2I σ2) fun r3 σ4 => if r3 = 0 then (.inl (1, v0R, v1I, v2I, v3I, 0, v0R, 0, σ4)) else (.inl (2, v0R, v1I, v2I, v3I, 0, v0R, (0 : Int32), σ4)))
noncomputable def T_Md_run_1 (v0R : Nat) (v1I : Int32) (v2I : Int32) (v3I : Int32) (s0R : Nat) (σ : AM) : S_Md_run ⊕ Option (Int32 × AM) :=
  .inl (2, v0R, v1I, v2I, v3I, 0, s0R, (1 : Int32), σ)
noncomputable def T_Md_run_2 (v0R : Nat) (v1I : Int32) (v2I : Int32) (v3I : Int32) (s0R : Nat) (s1I : Int32) (σ : AM) : S_Md_run ⊕ Option (Int32 × AM) :=
  gdT (okO σ s0R 12) <| letT (sI σ s0R 0 s1I) fun σ2 => gdT (okO σ2 v0R 12) <| if 0 < (aI σ2 v0R 0) then (.inr (some ((0 : Int32), σ2))) else (gdT (okO σ2 (aR σ2 v0R 27) 102) <| gdT (inB v1I (aN σ2 (aR σ2 v0R 27))) <| bndT (M_Md_runs v0R (aL σ2 (aR σ2 v0R 27) v1I.toNatClampNeg) v2I σ2) fun _ σ8 => if v3I = 0 then (gdT (okO σ8 v0R 12) <| .inl (3, 0, 0, 0, 0, aI σ8 v0R 49, 0, 0, σ8)) else (if v3I = (1 : Int32) then (gdT (okO σ8 v0R 12) <| .inl (3, 0, 0, 0, 0, aI σ8 v0R 55, 0, 0, σ8)) else (gdT (okO σ8 v0R 12) <| .inl (3, 0, 0, 0, 0, aI σ8 v0R 56, 0, 0, σ8))))
noncomputable def T_Md_run_3 (s0I : Int32) (σ : AM) : S_Md_run ⊕ Option (Int32 × AM) :=
  .inr (some (s0I, σ))
noncomputable def F_Md_run : S_Md_run → S_Md_run ⊕ Option (Int32 × AM) := fun s => match s.1 with
  | 0 => T_Md_run_0 (s.2.1) (s.2.2.1) (s.2.2.2.1) (s.2.2.2.2.1) (s.2.2.2.2.2.2.2.2)
  | 1 => T_Md_run_1 (s.2.1) (s.2.2.1) (s.2.2.2.1) (s.2.2.2.2.1) (s.2.2.2.2.2.2.1) (s.2.2.2.2.2.2.2.2)
  | 2 => T_Md_run_2 (s.2.1) (s.2.2.1) (s.2.2.2.1) (s.2.2.2.2.1) (s.2.2.2.2.2.2.1) (s.2.2.2.2.2.2.2.1) (s.2.2.2.2.2.2.2.2)
  | _ => T_Md_run_3 (s.2.2.2.2.2.1) (s.2.2.2.2.2.2.2.2)
noncomputable def L_Md_run_0 (v0R : Nat) (v1I : Int32) (v2I : Int32) (v3I : Int32) (σ : AM) : Option (Int32 × AM) := lp F_Md_run (0, v0R, v1I, v2I, v3I, 0, 0, 0, σ)
noncomputable def L_Md_run_1 (v0R : Nat) (v1I : Int32) (v2I : Int32) (v3I : Int32) (s0R : Nat) (σ : AM) : Option (Int32 × AM) := lp F_Md_run (1, v0R, v1I, v2I, v3I, 0, s0R, 0, σ)
noncomputable def L_Md_run_2 (v0R : Nat) (v1I : Int32) (v2I : Int32) (v3I : Int32) (s0R : Nat) (s1I : Int32) (σ : AM) : Option (Int32 × AM) := lp F_Md_run (2, v0R, v1I, v2I, v3I, 0, s0R, s1I, σ)
noncomputable def L_Md_run_3 (s0I : Int32) (σ : AM) : Option (Int32 × AM) := lp F_Md_run (3, 0, 0, 0, 0, s0I, 0, 0, σ)
set_option maxRecDepth 20000 in
theorem E_Md_run_0 (v0R : Nat) (v1I : Int32) (v2I : Int32) (v3I : Int32) (σ : AM) : L_Md_run_0 v0R v1I v2I v3I σ = (bnd (M_Md_within v3I (0 : Int32) (2 : Int32) σ) fun r1 σ2 => if r1 = 0 then (L_Md_run_1 v0R v1I v2I v3I v0R σ2) else (gd (okO σ2 v0R 12) <| bnd (M_Md_canRun v0R v1I v2I σ2) fun r3 σ4 => if r3 = 0 then (L_Md_run_1 v0R v1I v2I v3I v0R σ4) else (L_Md_run_2 v0R v1I v2I v3I v0R ((0 : Int32)) σ4))) := by
  unfold L_Md_run_0
  rw [lp_eq]
  show lpK (lp F_Md_run) (T_Md_run_0 v0R v1I v2I v3I σ) = _
  unfold T_Md_run_0
  simp only [lpK_ite, lq_inl, lq_inr, lpK_bnd, lpK_gd, lq_let]
  try rfl
set_option maxRecDepth 20000 in
theorem E_Md_run_1 (v0R : Nat) (v1I : Int32) (v2I : Int32) (v3I : Int32) (s0R : Nat) (σ : AM) : L_Md_run_1 v0R v1I v2I v3I s0R σ = (L_Md_run_2 v0R v1I v2I v3I s0R ((1 : Int32)) σ) := by
  unfold L_Md_run_1
  rw [lp_eq]
  show lpK (lp F_Md_run) (T_Md_run_1 v0R v1I v2I v3I s0R σ) = _
  unfold T_Md_run_1
  simp only [lpK_ite, lq_inl, lq_inr, lpK_bnd, lpK_gd, lq_let]
  try rfl
set_option maxRecDepth 20000 in
theorem E_Md_run_2 (v0R : Nat) (v1I : Int32) (v2I : Int32) (v3I : Int32) (s0R : Nat) (s1I : Int32) (σ : AM) : L_Md_run_2 v0R v1I v2I v3I s0R s1I σ = (gd (okO σ s0R 12) <| letT (sI σ s0R 0 s1I) fun σ2 => gd (okO σ2 v0R 12) <| if 0 < (aI σ2 v0R 0) then ((some ((0 : Int32), σ2))) else (gd (okO σ2 (aR σ2 v0R 27) 102) <| gd (inB v1I (aN σ2 (aR σ2 v0R 27))) <| bnd (M_Md_runs v0R (aL σ2 (aR σ2 v0R 27) v1I.toNatClampNeg) v2I σ2) fun _ σ8 => if v3I = 0 then (gd (okO σ8 v0R 12) <| L_Md_run_3 (aI σ8 v0R 49) σ8) else (if v3I = (1 : Int32) then (gd (okO σ8 v0R 12) <| L_Md_run_3 (aI σ8 v0R 55) σ8) else (gd (okO σ8 v0R 12) <| L_Md_run_3 (aI σ8 v0R 56) σ8)))) := by
  unfold L_Md_run_2
  rw [lp_eq]
  show lpK (lp F_Md_run) (T_Md_run_2 v0R v1I v2I v3I s0R s1I σ) = _
  unfold T_Md_run_2
  simp only [lpK_ite, lq_inl, lq_inr, lpK_bnd, lpK_gd, lq_let]
  try rfl
set_option maxRecDepth 20000 in
theorem E_Md_run_3 (s0I : Int32) (σ : AM) : L_Md_run_3 s0I σ = ((some (s0I, σ))) := by
  unfold L_Md_run_3
  rw [lp_eq]
  show lpK (lp F_Md_run) (T_Md_run_3 s0I σ) = _
  unfold T_Md_run_3
  simp only [lpK_ite, lq_inl, lq_inr, lpK_bnd, lpK_gd, lq_let]
  try rfl
noncomputable def M_Md_run (v0R : Nat) (v1I : Int32) (v2I : Int32) (v3I : Int32) (σ : AM) : Option (Int32 × AM) := mw σ (L_Md_run_0 v0R v1I v2I v3I σ)
def I_Md_run (G : GX) (p : Program) (l : Launch) (e : Env) (s : State) (m : MethodId) (args : Array Value) (below : List Frame) (meth : Method) (c : Code) (z0 u0 n : Nat) : Prop :=
  (∀ (v0R : Nat) (v1I : Int32) (v2I : Int32) (v3I : Int32) (σ : AM), VX (QM eI G args s below z0 u0) G p l e s m args below meth c 6 z0 u0 4 (lpn F_Md_run n (0, v0R, v1I, v2I, v3I, 0, 0, 0, σ)) 0 [(0, .ref v0R), (1, .int v1I), (2, .int v2I), (3, .int v3I)] [] σ) ∧
  (∀ (v0R : Nat) (v1I : Int32) (v2I : Int32) (v3I : Int32) (s0R : Nat) (σ : AM), VX (QM eI G args s below z0 u0) G p l e s m args below meth c 6 z0 u0 4 (lpn F_Md_run n (1, v0R, v1I, v2I, v3I, 0, s0R, 0, σ)) 23 [(0, .ref v0R), (1, .int v1I), (2, .int v2I), (3, .int v3I)] [.ref s0R] σ) ∧
  (∀ (v0R : Nat) (v1I : Int32) (v2I : Int32) (v3I : Int32) (s0R : Nat) (s1I : Int32) (σ : AM), VX (QM eI G args s below z0 u0) G p l e s m args below meth c 6 z0 u0 4 (lpn F_Md_run n (2, v0R, v1I, v2I, v3I, 0, s0R, s1I, σ)) 24 [(0, .ref v0R), (1, .int v1I), (2, .int v2I), (3, .int v3I)] [.int s1I, .ref s0R] σ) ∧
  (∀ (s0I : Int32) (σ : AM), VX (QM eI G args s below z0 u0) G p l e s m args below meth c 6 z0 u0 4 (lpn F_Md_run n (3, 0, 0, 0, 0, s0I, 0, 0, σ)) 74 [] [.int s0I] σ)
set_option maxRecDepth 20000 in
theorem s_Md_run_0 {G : GX} {p : Program} {l : Launch} {e : Env} {s : State} {m : MethodId} {args : Array Value} {below : List Frame} {meth : Method} {c : Code} {z0 u0 n : Nat} (C : Cx G p s m args meth c prog_14_method_73_code 4 "BellPlateModel" ((some FieldType.int))) (IH : I_Md_run G p l e s m args below meth c z0 u0 n) (v0R : Nat) (v1I : Int32) (v2I : Int32) (v3I : Int32) (σ : AM) : VX (QM eI G args s below z0 u0) G p l e s m args below meth c 6 z0 u0 4 (lpK (lpn F_Md_run n) (T_Md_run_0 v0R v1I v2I v3I σ)) 0 [(0, .ref v0R), (1, .int v1I), (2, .int v2I), (3, .int v3I)] [] σ := by
  unfold T_Md_run_0
  refine x_aload_n C d_Md_run_0 0 rfl ?_
  refine x_iload_n C d_Md_run_1 3 rfl ?_
  refine x_iconst (v := (0 : Int32)) C d_Md_run_2 (by decide) ?_
  refine x_iconst (v := (2 : Int32)) C d_Md_run_3 (by decide) ?_
  refine x_callSI (As := [.int v3I, .int (0 : Int32), .int (2 : Int32)]) C (c_Md_within G l v3I (0 : Int32) (2 : Int32) σ) w2205 w2204 w2206 w134 k_Md_within rfl (by decide) (by decide) rfl (Nat.le_of_ble_eq_true rfl) d_Md_run_4 (fun r1 σ2 => ?_)
  refine x_if_eq (tgt := 23) C d_Md_run_7 (by decide) (fun _ => ?_) (fun _ => ?_)
  · exact IH.2.1 v0R v1I v2I v3I v0R (σ2)
  · refine x_aload_n C d_Md_run_10 0 rfl ?_
    refine x_iload_n C d_Md_run_11 1 rfl ?_
    refine x_iload_n C d_Md_run_12 2 rfl ?_
    refine x_gd (fun h5 => ?_)
    refine x_callVI (As := [.int v1I, .int v2I]) C (c_Md_canRun G l v0R v1I v2I σ2) (okO_iff.mp h5) rfl w2297 w98 w2295 w2298 w134 k_Md_canRun rfl (by decide) (by decide) rfl (Nat.le_of_ble_eq_true rfl) d_Md_run_13 (fun r3 σ4 => ?_)
    refine x_if_eq (tgt := 23) C d_Md_run_16 (by decide) (fun _ => ?_) (fun _ => ?_)
    · exact IH.2.1 v0R v1I v2I v3I v0R (σ4)
    · refine x_iconst (v := (0 : Int32)) C d_Md_run_19 (by decide) ?_
      refine x_goto (tgt := 24) C d_Md_run_20 (by decide) ?_
      exact IH.2.2.1 v0R v1I v2I v3I v0R ((0 : Int32)) (σ4)
set_option maxRecDepth 20000 in
theorem s_Md_run_1 {G : GX} {p : Program} {l : Launch} {e : Env} {s : State} {m : MethodId} {args : Array Value} {below : List Frame} {meth : Method} {c : Code} {z0 u0 n : Nat} (C : Cx G p s m args meth c prog_14_method_73_code 4 "BellPlateModel" ((some FieldType.int))) (IH : I_Md_run G p l e s m args below meth c z0 u0 n) (v0R : Nat) (v1I : Int32) (v2I : Int32) (v3I : Int32) (s0R : Nat) (σ : AM) : VX (QM eI G args s below z0 u0) G p l e s m args below meth c 6 z0 u0 4 (lpK (lpn F_Md_run n) (T_Md_run_1 v0R v1I v2I v3I s0R σ)) 23 [(0, .ref v0R), (1, .int v1I), (2, .int v2I), (3, .int v3I)] [.ref s0R] σ := by
  unfold T_Md_run_1
  refine x_iconst (v := (1 : Int32)) C d_Md_run_23 (by decide) ?_
  exact IH.2.2.1 v0R v1I v2I v3I s0R ((1 : Int32)) (σ)
set_option maxRecDepth 20000 in
theorem s_Md_run_2 {G : GX} {p : Program} {l : Launch} {e : Env} {s : State} {m : MethodId} {args : Array Value} {below : List Frame} {meth : Method} {c : Code} {z0 u0 n : Nat} (C : Cx G p s m args meth c prog_14_method_73_code 4 "BellPlateModel" ((some FieldType.int))) (IH : I_Md_run G p l e s m args below meth c z0 u0 n) (v0R : Nat) (v1I : Int32) (v2I : Int32) (v3I : Int32) (s0R : Nat) (s1I : Int32) (σ : AM) : VX (QM eI G args s below z0 u0) G p l e s m args below meth c 6 z0 u0 4 (lpK (lpn F_Md_run n) (T_Md_run_2 v0R v1I v2I v3I s0R s1I σ)) 24 [(0, .ref v0R), (1, .int v1I), (2, .int v2I), (3, .int v3I)] [.int s1I, .ref s0R] σ := by
  unfold T_Md_run_2
  refine x_gd (fun h1 => ?_)
  refine x_putI (k := 0) C (okO_iff.mp h1) rfl j11_ok y11_ok n11_ok (by decide) rfl rfl rfl rfl w1852 d_Md_run_24 ?_
  refine x_letS (fun σ2 e3 => ?_)
  refine x_aload_n C d_Md_run_27 0 rfl ?_
  refine x_gd (fun h4 => ?_)
  refine x_getI (k := 0) C (okO_iff.mp h4) rfl j11_ok (by decide) rfl w1852 d_Md_run_28 ?_
  refine x_if_le (tgt := 36) C d_Md_run_31 (by decide) (fun _ => ?_) (fun _ => ?_)
  · refine x_iconst (v := (0 : Int32)) C d_Md_run_34 (by decide) ?_
    exact x_iret C d_Md_run_35
  · refine x_aload_n C d_Md_run_36 0 rfl ?_
    refine x_aload_n C d_Md_run_37 0 rfl ?_
    refine x_gd (fun h5 => ?_)
    refine x_getR (k := 27) (kv := 102) C (okO_iff.mp h4) rfl j11_ok (by decide) rfl (okO_iff.mp h5) (by decide) w1879 d_Md_run_38 ?_
    refine x_iload_n C d_Md_run_41 1 rfl ?_
    refine x_gd (fun h6 => ?_)
    refine x_aldJ C (okO_iff.mp h5) (inB_iff.mp h6) d_Md_run_42 ?_
    refine x_iload_n C d_Md_run_43 2 rfl ?_
    refine x_callVV (As := [.long (aL σ2 (aR σ2 v0R 27) v1I.toNatClampNeg), .int v2I]) C (c_Md_runs G l v0R (aL σ2 (aR σ2 v0R 27) v1I.toNatClampNeg) v2I σ2) (okO_iff.mp h4) rfl w2301 w99 w2299 w2302 w134 k_Md_runs rfl (by decide) (by decide) rfl (Nat.le_of_ble_eq_true rfl) d_Md_run_44 (fun r7 σ8 => ?_)
    refine x_iload_n C d_Md_run_47 3 rfl ?_
    refine x_if_ne (tgt := 58) C d_Md_run_48 (by decide) (fun _ => ?_) (fun _ => ?_)
    · refine x_aload_n C d_Md_run_51 0 rfl ?_
      refine x_gd (fun h9 => ?_)
      refine x_getI (k := 49) C (okO_iff.mp h9) rfl j11_ok (by decide) rfl w1901 d_Md_run_52 ?_
      refine x_goto (tgt := 74) C d_Md_run_55 (by decide) ?_
      refine x_lv [] rfl ?_
      exact IH.2.2.2 (aI σ8 v0R 49) (σ8)
    · refine x_iload_n C d_Md_run_58 3 rfl ?_
      refine x_iconst (v := (1 : Int32)) C d_Md_run_59 (by decide) ?_
      refine x_icmp_ne (tgt := 70) C d_Md_run_60 (by decide) (fun _ => ?_) (fun _ => ?_)
      · refine x_aload_n C d_Md_run_63 0 rfl ?_
        refine x_gd (fun h10 => ?_)
        refine x_getI (k := 55) C (okO_iff.mp h10) rfl j11_ok (by decide) rfl w1907 d_Md_run_64 ?_
        refine x_goto (tgt := 74) C d_Md_run_67 (by decide) ?_
        refine x_lv [] rfl ?_
        exact IH.2.2.2 (aI σ8 v0R 55) (σ8)
      · refine x_aload_n C d_Md_run_70 0 rfl ?_
        refine x_gd (fun h11 => ?_)
        refine x_getI (k := 56) C (okO_iff.mp h11) rfl j11_ok (by decide) rfl w1908 d_Md_run_71 ?_
        refine x_lv [] rfl ?_
        exact IH.2.2.2 (aI σ8 v0R 56) (σ8)
set_option maxRecDepth 20000 in
theorem s_Md_run_3 {G : GX} {p : Program} {l : Launch} {e : Env} {s : State} {m : MethodId} {args : Array Value} {below : List Frame} {meth : Method} {c : Code} {z0 u0 n : Nat} (C : Cx G p s m args meth c prog_14_method_73_code 4 "BellPlateModel" ((some FieldType.int))) (IH : I_Md_run G p l e s m args below meth c z0 u0 n) (s0I : Int32) (σ : AM) : VX (QM eI G args s below z0 u0) G p l e s m args below meth c 6 z0 u0 4 (lpK (lpn F_Md_run n) (T_Md_run_3 s0I σ)) 74 [] [.int s0I] σ := by
  unfold T_Md_run_3
  exact x_iret C d_Md_run_74
theorem i_Md_run {G : GX} {p : Program} {l : Launch} {e : Env} {s : State} {m : MethodId} {args : Array Value} {below : List Frame} {meth : Method} {c : Code} {z0 u0 : Nat} (C : Cx G p s m args meth c prog_14_method_73_code 4 "BellPlateModel" ((some FieldType.int))) (n : Nat) : I_Md_run G p l e s m args below meth c z0 u0 n := by
  induction n with
  | zero => exact ⟨fun _ _ _ _ _ => x_none, fun _ _ _ _ _ _ => x_none, fun _ _ _ _ _ _ _ => x_none, fun _ _ => x_none⟩
  | succ n IH => exact ⟨fun v0R v1I v2I v3I σ => s_Md_run_0 C IH v0R v1I v2I v3I σ, fun v0R v1I v2I v3I s0R σ => s_Md_run_1 C IH v0R v1I v2I v3I s0R σ, fun v0R v1I v2I v3I s0R s1I σ => s_Md_run_2 C IH v0R v1I v2I v3I s0R s1I σ, fun s0I σ => s_Md_run_3 C IH s0I σ⟩
theorem c_Md_run (G : GX) (l : Launch) (v0R : Nat) (v1I : Int32) (v2I : Int32) (v3I : Int32) (σ : AM) : CT eI G l 6 y_Md_run prog_14_method_73_code 4 ((some FieldType.int)) [.ref v0R, .int v1I, .int v2I, .int v3I] σ (M_Md_run v0R v1I v2I v3I σ) := by
  refine ct_of (by decide +kernel) (Nat.le_of_ble_eq_true rfl) (fun p e s m args below meth c C hin => ?_)
  refine x_lve (lv' := [(0, .ref v0R), (1, .int v1I), (2, .int v2I), (3, .int v3I)]) rfl ?_
  intro r σ' h
  obtain ⟨n, hn⟩ := (lp_iff _ _ _).mp h
  exact (i_Md_run C n).1 v0R v1I v2I v3I σ r σ' hn
/-! BellPlateModel.runSet(III)I -/
abbrev y_Md_runSet : MethodName := ⟨"BellPlateModel", "runSet", "(III)I"⟩
theorem k_Md_runSet : y_Md_runSet.cls ≠ "java/lang/invoke/MethodHandle" ∧ y_Md_runSet.cls ≠ "java/lang/invoke/VarHandle" ∧ (parseMethodDescriptor y_Md_runSet.desc).map (fun d => d.parameters.length) = some 3 := by decide +kernel
theorem d_Md_runSet_0 : decode prog_14_method_74_code 0 = .ok (.aload_n 0, 1) := by decide +kernel
theorem d_Md_runSet_1 : decode prog_14_method_74_code 1 = .ok (.iconst 0, 1) := by decide +kernel
theorem d_Md_runSet_2 : decode prog_14_method_74_code 2 = .ok (.putfield 1, 3) := by decide +kernel
theorem d_Md_runSet_5 : decode prog_14_method_74_code 5 = .ok (.iload_n 3, 1) := by decide +kernel
theorem d_Md_runSet_6 : decode prog_14_method_74_code 6 = .ok (.ifCond .lt 12, 3) := by decide +kernel
theorem d_Md_runSet_9 : decode prog_14_method_74_code 9 = .ok (.aload_n 0, 1) := by decide +kernel
theorem d_Md_runSet_10 : decode prog_14_method_74_code 10 = .ok (.iload_n 1, 1) := by decide +kernel
theorem d_Md_runSet_11 : decode prog_14_method_74_code 11 = .ok (.iload_n 2, 1) := by decide +kernel
theorem d_Md_runSet_12 : decode prog_14_method_74_code 12 = .ok (.invokevirtual 428, 3) := by decide +kernel
theorem d_Md_runSet_15 : decode prog_14_method_74_code 15 = .ok (.ifCond .ne 5, 3) := by decide +kernel
theorem d_Md_runSet_18 : decode prog_14_method_74_code 18 = .ok (.iconst (-1), 1) := by decide +kernel
theorem d_Md_runSet_19 : decode prog_14_method_74_code 19 = .ok (.ireturn, 1) := by decide +kernel
theorem d_Md_runSet_20 : decode prog_14_method_74_code 20 = .ok (.aload_n 0, 1) := by decide +kernel
theorem d_Md_runSet_21 : decode prog_14_method_74_code 21 = .ok (.aload_n 0, 1) := by decide +kernel
theorem d_Md_runSet_22 : decode prog_14_method_74_code 22 = .ok (.getfield 75, 3) := by decide +kernel
theorem d_Md_runSet_25 : decode prog_14_method_74_code 25 = .ok (.iload_n 1, 1) := by decide +kernel
theorem d_Md_runSet_26 : decode prog_14_method_74_code 26 = .ok (.laload, 1) := by decide +kernel
theorem d_Md_runSet_27 : decode prog_14_method_74_code 27 = .ok (.iload_n 2, 1) := by decide +kernel
theorem d_Md_runSet_28 : decode prog_14_method_74_code 28 = .ok (.invokevirtual 432, 3) := by decide +kernel
theorem d_Md_runSet_31 : decode prog_14_method_74_code 31 = .ok (.iload_n 3, 1) := by decide +kernel
theorem d_Md_runSet_32 : decode prog_14_method_74_code 32 = .ok (.aload_n 0, 1) := by decide +kernel
theorem d_Md_runSet_33 : decode prog_14_method_74_code 33 = .ok (.getfield 416, 3) := by decide +kernel
theorem d_Md_runSet_36 : decode prog_14_method_74_code 36 = .ok (.if_icmp .ge 12, 3) := by decide +kernel
theorem d_Md_runSet_39 : decode prog_14_method_74_code 39 = .ok (.aload_n 0, 1) := by decide +kernel
theorem d_Md_runSet_40 : decode prog_14_method_74_code 40 = .ok (.getfield 128, 3) := by decide +kernel
theorem d_Md_runSet_43 : decode prog_14_method_74_code 43 = .ok (.iload_n 3, 1) := by decide +kernel
theorem d_Md_runSet_44 : decode prog_14_method_74_code 44 = .ok (.iaload, 1) := by decide +kernel
theorem d_Md_runSet_45 : decode prog_14_method_74_code 45 = .ok (.goto 4, 3) := by decide +kernel
theorem d_Md_runSet_48 : decode prog_14_method_74_code 48 = .ok (.iconst (-1), 1) := by decide +kernel
theorem d_Md_runSet_49 : decode prog_14_method_74_code 49 = .ok (.ireturn, 1) := by decide +kernel
abbrev S_Md_runSet : Type := Nat × Nat × Int32 × Int32 × Int32 × Int32 × AM
noncomputable def T_Md_runSet_0 (v0R : Nat) (v1I : Int32) (v2I : Int32) (v3I : Int32) (σ : AM) : S_Md_runSet ⊕ Option (Int32 × AM) :=
  gdT (okO σ v0R 12) <| letT (sI σ v0R 0 (0 : Int32)) fun σ2 => if v3I < 0 then (.inl (1, 0, 0, 0, 0, 0, σ2)) else (bndT (M_Md_canRun v0R v1I v2I σ2) fun r4 σ5 => if r4 = 0 then (.inl (1, 0, 0, 0, 0, 0, σ5)) else (gdT (okO σ5 v0R 12) <| gdT (okO σ5 (aR σ5 v0R 27) 102) <| gdT (inB v1I (aN σ5 (aR σ5 v0R 27))) <| bndT (M_Md_runs v0R (aL σ5 (aR σ5 v0R 27) v1I.toNatClampNeg) v2I σ5) fun _ σ10 => gdT (okO σ10 v0R 12) <| if v3I < (aI σ10 v0R 49) then (gdT (okO σ10 (aR σ10 v0R 54) 101) <| gdT (inB v3I (aN σ10 (aR σ10 v0R 54))) <| .inl (2, 0, 0, 0, 0, aI σ10 (aR σ10 v0R 54) v3I.toNatClampNeg, σ10)) else (.inl (2, 0, 0, 0, 0, ((-1) : Int32), σ10))))
noncomputable def T_Md_runSet_1  (σ : AM) : S_Md_runSet ⊕ Option (Int32 × AM) :=
  .inr (some (((-1) : Int32), σ))
noncomputable def T_Md_runSet_2 (s0I : Int32) (σ : AM) : S_Md_runSet ⊕ Option (Int32 × AM) :=
  .inr (some (s0I, σ))
noncomputable def F_Md_runSet : S_Md_runSet → S_Md_runSet ⊕ Option (Int32 × AM) := fun s => match s.1 with
  | 0 => T_Md_runSet_0 (s.2.1) (s.2.2.1) (s.2.2.2.1) (s.2.2.2.2.1) (s.2.2.2.2.2.2)
  | 1 => T_Md_runSet_1  (s.2.2.2.2.2.2)
  | _ => T_Md_runSet_2 (s.2.2.2.2.2.1) (s.2.2.2.2.2.2)
noncomputable def L_Md_runSet_0 (v0R : Nat) (v1I : Int32) (v2I : Int32) (v3I : Int32) (σ : AM) : Option (Int32 × AM) := lp F_Md_runSet (0, v0R, v1I, v2I, v3I, 0, σ)
noncomputable def L_Md_runSet_1  (σ : AM) : Option (Int32 × AM) := lp F_Md_runSet (1, 0, 0, 0, 0, 0, σ)
noncomputable def L_Md_runSet_2 (s0I : Int32) (σ : AM) : Option (Int32 × AM) := lp F_Md_runSet (2, 0, 0, 0, 0, s0I, σ)
set_option maxRecDepth 20000 in
theorem E_Md_runSet_0 (v0R : Nat) (v1I : Int32) (v2I : Int32) (v3I : Int32) (σ : AM) : L_Md_runSet_0 v0R v1I v2I v3I σ = (gd (okO σ v0R 12) <| letT (sI σ v0R 0 (0 : Int32)) fun σ2 => if v3I < 0 then (L_Md_runSet_1 σ2) else (bnd (M_Md_canRun v0R v1I v2I σ2) fun r4 σ5 => if r4 = 0 then (L_Md_runSet_1 σ5) else (gd (okO σ5 v0R 12) <| gd (okO σ5 (aR σ5 v0R 27) 102) <| gd (inB v1I (aN σ5 (aR σ5 v0R 27))) <| bnd (M_Md_runs v0R (aL σ5 (aR σ5 v0R 27) v1I.toNatClampNeg) v2I σ5) fun _ σ10 => gd (okO σ10 v0R 12) <| if v3I < (aI σ10 v0R 49) then (gd (okO σ10 (aR σ10 v0R 54) 101) <| gd (inB v3I (aN σ10 (aR σ10 v0R 54))) <| L_Md_runSet_2 (aI σ10 (aR σ10 v0R 54) v3I.toNatClampNeg) σ10) else (L_Md_runSet_2 (((-1) : Int32)) σ10)))) := by
  unfold L_Md_runSet_0
  rw [lp_eq]
  show lpK (lp F_Md_runSet) (T_Md_runSet_0 v0R v1I v2I v3I σ) = _
  unfold T_Md_runSet_0
  simp only [lpK_ite, lq_inl, lq_inr, lpK_bnd, lpK_gd, lq_let]
  try rfl
set_option maxRecDepth 20000 in
theorem E_Md_runSet_1  (σ : AM) : L_Md_runSet_1  σ = ((some (((-1) : Int32), σ))) := by
  unfold L_Md_runSet_1
  rw [lp_eq]
  show lpK (lp F_Md_runSet) (T_Md_runSet_1  σ) = _
  unfold T_Md_runSet_1
  simp only [lpK_ite, lq_inl, lq_inr, lpK_bnd, lpK_gd, lq_let]
  try rfl
set_option maxRecDepth 20000 in
theorem E_Md_runSet_2 (s0I : Int32) (σ : AM) : L_Md_runSet_2 s0I σ = ((some (s0I, σ))) := by
  unfold L_Md_runSet_2
  rw [lp_eq]
  show lpK (lp F_Md_runSet) (T_Md_runSet_2 s0I σ) = _
  unfold T_Md_runSet_2
  simp only [lpK_ite, lq_inl, lq_inr, lpK_bnd, lpK_gd, lq_let]
  try rfl
noncomputable def M_Md_runSet (v0R : Nat) (v1I : Int32) (v2I : Int32) (v3I : Int32) (σ : AM) : Option (Int32 × AM) := mw σ (L_Md_runSet_0 v0R v1I v2I v3I σ)
def I_Md_runSet (G : GX) (p : Program) (l : Launch) (e : Env) (s : State) (m : MethodId) (args : Array Value) (below : List Frame) (meth : Method) (c : Code) (z0 u0 n : Nat) : Prop :=
  (∀ (v0R : Nat) (v1I : Int32) (v2I : Int32) (v3I : Int32) (σ : AM), VX (QM eI G args s below z0 u0) G p l e s m args below meth c 6 z0 u0 4 (lpn F_Md_runSet n (0, v0R, v1I, v2I, v3I, 0, σ)) 0 [(0, .ref v0R), (1, .int v1I), (2, .int v2I), (3, .int v3I)] [] σ) ∧
  (∀ (σ : AM), VX (QM eI G args s below z0 u0) G p l e s m args below meth c 6 z0 u0 4 (lpn F_Md_runSet n (1, 0, 0, 0, 0, 0, σ)) 18 [] [] σ) ∧
  (∀ (s0I : Int32) (σ : AM), VX (QM eI G args s below z0 u0) G p l e s m args below meth c 6 z0 u0 4 (lpn F_Md_runSet n (2, 0, 0, 0, 0, s0I, σ)) 49 [] [.int s0I] σ)
set_option maxRecDepth 20000 in
theorem s_Md_runSet_0 {G : GX} {p : Program} {l : Launch} {e : Env} {s : State} {m : MethodId} {args : Array Value} {below : List Frame} {meth : Method} {c : Code} {z0 u0 n : Nat} (C : Cx G p s m args meth c prog_14_method_74_code 4 "BellPlateModel" ((some FieldType.int))) (IH : I_Md_runSet G p l e s m args below meth c z0 u0 n) (v0R : Nat) (v1I : Int32) (v2I : Int32) (v3I : Int32) (σ : AM) : VX (QM eI G args s below z0 u0) G p l e s m args below meth c 6 z0 u0 4 (lpK (lpn F_Md_runSet n) (T_Md_runSet_0 v0R v1I v2I v3I σ)) 0 [(0, .ref v0R), (1, .int v1I), (2, .int v2I), (3, .int v3I)] [] σ := by
  unfold T_Md_runSet_0
  refine x_aload_n C d_Md_runSet_0 0 rfl ?_
  refine x_iconst (v := (0 : Int32)) C d_Md_runSet_1 (by decide) ?_
  refine x_gd (fun h1 => ?_)
  refine x_putI (k := 0) C (okO_iff.mp h1) rfl j11_ok y11_ok n11_ok (by decide) rfl rfl rfl rfl w1852 d_Md_runSet_2 ?_
  refine x_letS (fun σ2 e3 => ?_)
  refine x_iload_n C d_Md_runSet_5 3 rfl ?_
  refine x_if_lt (tgt := 18) C d_Md_runSet_6 (by decide) (fun _ => ?_) (fun _ => ?_)
  · refine x_lv [] rfl ?_
    exact IH.2.1  (σ2)
  · refine x_aload_n C d_Md_runSet_9 0 rfl ?_
    refine x_iload_n C d_Md_runSet_10 1 rfl ?_
    refine x_iload_n C d_Md_runSet_11 2 rfl ?_
    refine x_callVI (As := [.int v1I, .int v2I]) C (c_Md_canRun G l v0R v1I v2I σ2) (by first | exact (okO_iff.mp h1) | (rw [e3]; exact (okO_iff.mp h1))) rfl w2297 w98 w2295 w2298 w134 k_Md_canRun rfl (by decide) (by decide) rfl (Nat.le_of_ble_eq_true rfl) d_Md_runSet_12 (fun r4 σ5 => ?_)
    refine x_if_ne (tgt := 20) C d_Md_runSet_15 (by decide) (fun _ => ?_) (fun _ => ?_)
    · refine x_lv [] rfl ?_
      exact IH.2.1  (σ5)
    · refine x_aload_n C d_Md_runSet_20 0 rfl ?_
      refine x_aload_n C d_Md_runSet_21 0 rfl ?_
      refine x_gd (fun h6 => ?_)
      refine x_gd (fun h7 => ?_)
      refine x_getR (k := 27) (kv := 102) C (okO_iff.mp h6) rfl j11_ok (by decide) rfl (okO_iff.mp h7) (by decide) w1879 d_Md_runSet_22 ?_
      refine x_iload_n C d_Md_runSet_25 1 rfl ?_
      refine x_gd (fun h8 => ?_)
      refine x_aldJ C (okO_iff.mp h7) (inB_iff.mp h8) d_Md_runSet_26 ?_
      refine x_iload_n C d_Md_runSet_27 2 rfl ?_
      refine x_callVV (As := [.long (aL σ5 (aR σ5 v0R 27) v1I.toNatClampNeg), .int v2I]) C (c_Md_runs G l v0R (aL σ5 (aR σ5 v0R 27) v1I.toNatClampNeg) v2I σ5) (okO_iff.mp h6) rfl w2301 w99 w2299 w2302 w134 k_Md_runs rfl (by decide) (by decide) rfl (Nat.le_of_ble_eq_true rfl) d_Md_runSet_28 (fun r9 σ10 => ?_)
      refine x_iload_n C d_Md_runSet_31 3 rfl ?_
      refine x_aload_n C d_Md_runSet_32 0 rfl ?_
      refine x_gd (fun h11 => ?_)
      refine x_getI (k := 49) C (okO_iff.mp h11) rfl j11_ok (by decide) rfl w1901 d_Md_runSet_33 ?_
      refine x_icmp_ge (tgt := 48) C d_Md_runSet_36 (by decide) (fun _ => ?_) (fun _ => ?_)
      · refine x_aload_n C d_Md_runSet_39 0 rfl ?_
        refine x_gd (fun h12 => ?_)
        refine x_getR (k := 54) (kv := 101) C (okO_iff.mp h11) rfl j11_ok (by decide) rfl (okO_iff.mp h12) (by decide) w1906 d_Md_runSet_40 ?_
        refine x_iload_n C d_Md_runSet_43 3 rfl ?_
        refine x_gd (fun h13 => ?_)
        refine x_aldI C (okO_iff.mp h12) (inB_iff.mp h13) d_Md_runSet_44 ?_
        refine x_goto (tgt := 49) C d_Md_runSet_45 (by decide) ?_
        refine x_lv [] rfl ?_
        exact IH.2.2 (aI σ10 (aR σ10 v0R 54) v3I.toNatClampNeg) (σ10)
      · refine x_iconst (v := ((-1) : Int32)) C d_Md_runSet_48 (by decide) ?_
        refine x_lv [] rfl ?_
        exact IH.2.2 (((-1) : Int32)) (σ10)
set_option maxRecDepth 20000 in
theorem s_Md_runSet_1 {G : GX} {p : Program} {l : Launch} {e : Env} {s : State} {m : MethodId} {args : Array Value} {below : List Frame} {meth : Method} {c : Code} {z0 u0 n : Nat} (C : Cx G p s m args meth c prog_14_method_74_code 4 "BellPlateModel" ((some FieldType.int))) (IH : I_Md_runSet G p l e s m args below meth c z0 u0 n)  (σ : AM) : VX (QM eI G args s below z0 u0) G p l e s m args below meth c 6 z0 u0 4 (lpK (lpn F_Md_runSet n) (T_Md_runSet_1  σ)) 18 [] [] σ := by
  unfold T_Md_runSet_1
  refine x_iconst (v := ((-1) : Int32)) C d_Md_runSet_18 (by decide) ?_
  exact x_iret C d_Md_runSet_19
set_option maxRecDepth 20000 in
theorem s_Md_runSet_2 {G : GX} {p : Program} {l : Launch} {e : Env} {s : State} {m : MethodId} {args : Array Value} {below : List Frame} {meth : Method} {c : Code} {z0 u0 n : Nat} (C : Cx G p s m args meth c prog_14_method_74_code 4 "BellPlateModel" ((some FieldType.int))) (IH : I_Md_runSet G p l e s m args below meth c z0 u0 n) (s0I : Int32) (σ : AM) : VX (QM eI G args s below z0 u0) G p l e s m args below meth c 6 z0 u0 4 (lpK (lpn F_Md_runSet n) (T_Md_runSet_2 s0I σ)) 49 [] [.int s0I] σ := by
  unfold T_Md_runSet_2
  exact x_iret C d_Md_runSet_49
theorem i_Md_runSet {G : GX} {p : Program} {l : Launch} {e : Env} {s : State} {m : MethodId} {args : Array Value} {below : List Frame} {meth : Method} {c : Code} {z0 u0 : Nat} (C : Cx G p s m args meth c prog_14_method_74_code 4 "BellPlateModel" ((some FieldType.int))) (n : Nat) : I_Md_runSet G p l e s m args below meth c z0 u0 n := by
  induction n with
  | zero => exact ⟨fun _ _ _ _ _ => x_none, fun _ => x_none, fun _ _ => x_none⟩
  | succ n IH => exact ⟨fun v0R v1I v2I v3I σ => s_Md_runSet_0 C IH v0R v1I v2I v3I σ, fun σ => s_Md_runSet_1 C IH σ, fun s0I σ => s_Md_runSet_2 C IH s0I σ⟩
theorem c_Md_runSet (G : GX) (l : Launch) (v0R : Nat) (v1I : Int32) (v2I : Int32) (v3I : Int32) (σ : AM) : CT eI G l 6 y_Md_runSet prog_14_method_74_code 4 ((some FieldType.int)) [.ref v0R, .int v1I, .int v2I, .int v3I] σ (M_Md_runSet v0R v1I v2I v3I σ) := by
  refine ct_of (by decide +kernel) (Nat.le_of_ble_eq_true rfl) (fun p e s m args below meth c C hin => ?_)
  refine x_lve (lv' := [(0, .ref v0R), (1, .int v1I), (2, .int v2I), (3, .int v3I)]) rfl ?_
  intro r σ' h
  obtain ⟨n, hn⟩ := (lp_iff _ _ _).mp h
  exact (i_Md_runSet C n).1 v0R v1I v2I v3I σ r σ' hn
abbrev GT_Md_runsAll : Type := (Nat → Int32 → Int32 → Int32 → Int32 → AM → Option (Unit × AM))
/-! BellPlateModel.runsAll(IIII)V -/
abbrev y_Md_runsAll : MethodName := ⟨"BellPlateModel", "runsAll", "(IIII)V"⟩
theorem k_Md_runsAll : y_Md_runsAll.cls ≠ "java/lang/invoke/MethodHandle" ∧ y_Md_runsAll.cls ≠ "java/lang/invoke/VarHandle" ∧ (parseMethodDescriptor y_Md_runsAll.desc).map (fun d => d.parameters.length) = some 4 := by decide +kernel
theorem d_Md_runsAll_0 : decode prog_14_method_75_code 0 = .ok (.iload_n 3, 1) := by decide +kernel
theorem d_Md_runsAll_1 : decode prog_14_method_75_code 1 = .ok (.iload_n 2, 1) := by decide +kernel
theorem d_Md_runsAll_2 : decode prog_14_method_75_code 2 = .ok (.isub, 1) := by decide +kernel
theorem d_Md_runsAll_3 : decode prog_14_method_75_code 3 = .ok (.iconst 1, 1) := by decide +kernel
theorem d_Md_runsAll_4 : decode prog_14_method_75_code 4 = .ok (.if_icmp .eq 10, 3) := by decide +kernel
theorem d_Md_runsAll_7 : decode prog_14_method_75_code 7 = .ok (.iload 4, 2) := by decide +kernel
theorem d_Md_runsAll_9 : decode prog_14_method_75_code 9 = .ok (.bipush 60, 2) := by decide +kernel
theorem d_Md_runsAll_11 : decode prog_14_method_75_code 11 = .ok (.if_icmp .ne 67, 3) := by decide +kernel
theorem d_Md_runsAll_14 : decode prog_14_method_75_code 14 = .ok (.iload_n 2, 1) := by decide +kernel
theorem d_Md_runsAll_15 : decode prog_14_method_75_code 15 = .ok (.istore 5, 2) := by decide +kernel
theorem d_Md_runsAll_17 : decode prog_14_method_75_code 17 = .ok (.iload 5, 2) := by decide +kernel
theorem d_Md_runsAll_19 : decode prog_14_method_75_code 19 = .ok (.iload_n 3, 1) := by decide +kernel
theorem d_Md_runsAll_20 : decode prog_14_method_75_code 20 = .ok (.if_icmp .ge 57, 3) := by decide +kernel
theorem d_Md_runsAll_23 : decode prog_14_method_75_code 23 = .ok (.aload_n 0, 1) := by decide +kernel
theorem d_Md_runsAll_24 : decode prog_14_method_75_code 24 = .ok (.iload 4, 2) := by decide +kernel
theorem d_Md_runsAll_26 : decode prog_14_method_75_code 26 = .ok (.aload_n 0, 1) := by decide +kernel
theorem d_Md_runsAll_27 : decode prog_14_method_75_code 27 = .ok (.getfield 436, 3) := by decide +kernel
theorem d_Md_runsAll_30 : decode prog_14_method_75_code 30 = .ok (.if_icmp .le 8, 3) := by decide +kernel
theorem d_Md_runsAll_33 : decode prog_14_method_75_code 33 = .ok (.iload 4, 2) := by decide +kernel
theorem d_Md_runsAll_35 : decode prog_14_method_75_code 35 = .ok (.goto 7, 3) := by decide +kernel
theorem d_Md_runsAll_38 : decode prog_14_method_75_code 38 = .ok (.aload_n 0, 1) := by decide +kernel
theorem d_Md_runsAll_39 : decode prog_14_method_75_code 39 = .ok (.getfield 436, 3) := by decide +kernel
theorem d_Md_runsAll_42 : decode prog_14_method_75_code 42 = .ok (.putfield 436, 3) := by decide +kernel
theorem d_Md_runsAll_45 : decode prog_14_method_75_code 45 = .ok (.aload_n 0, 1) := by decide +kernel
theorem d_Md_runsAll_46 : decode prog_14_method_75_code 46 = .ok (.dup, 1) := by decide +kernel
theorem d_Md_runsAll_47 : decode prog_14_method_75_code 47 = .ok (.getfield 439, 3) := by decide +kernel
theorem d_Md_runsAll_50 : decode prog_14_method_75_code 50 = .ok (.iload 4, 2) := by decide +kernel
theorem d_Md_runsAll_52 : decode prog_14_method_75_code 52 = .ok (.i2l, 1) := by decide +kernel
theorem d_Md_runsAll_53 : decode prog_14_method_75_code 53 = .ok (.aload_n 0, 1) := by decide +kernel
theorem d_Md_runsAll_54 : decode prog_14_method_75_code 54 = .ok (.getfield 85, 3) := by decide +kernel
theorem d_Md_runsAll_57 : decode prog_14_method_75_code 57 = .ok (.aload_n 0, 1) := by decide +kernel
theorem d_Md_runsAll_58 : decode prog_14_method_75_code 58 = .ok (.getfield 119, 3) := by decide +kernel
theorem d_Md_runsAll_61 : decode prog_14_method_75_code 61 = .ok (.iload 5, 2) := by decide +kernel
theorem d_Md_runsAll_63 : decode prog_14_method_75_code 63 = .ok (.iaload, 1) := by decide +kernel
theorem d_Md_runsAll_64 : decode prog_14_method_75_code 64 = .ok (.iaload, 1) := by decide +kernel
theorem d_Md_runsAll_65 : decode prog_14_method_75_code 65 = .ok (.i2l, 1) := by decide +kernel
theorem d_Md_runsAll_66 : decode prog_14_method_75_code 66 = .ok (.lmul, 1) := by decide +kernel
theorem d_Md_runsAll_67 : decode prog_14_method_75_code 67 = .ok (.ladd, 1) := by decide +kernel
theorem d_Md_runsAll_68 : decode prog_14_method_75_code 68 = .ok (.putfield 439, 3) := by decide +kernel
theorem d_Md_runsAll_71 : decode prog_14_method_75_code 71 = .ok (.iinc 5 1, 3) := by decide +kernel
theorem d_Md_runsAll_74 : decode prog_14_method_75_code 74 = .ok (.goto (-57), 3) := by decide +kernel
theorem d_Md_runsAll_77 : decode prog_14_method_75_code 77 = .ok (.return_, 1) := by decide +kernel
theorem d_Md_runsAll_78 : decode prog_14_method_75_code 78 = .ok (.aload_n 0, 1) := by decide +kernel
theorem d_Md_runsAll_79 : decode prog_14_method_75_code 79 = .ok (.aload_n 0, 1) := by decide +kernel
theorem d_Md_runsAll_80 : decode prog_14_method_75_code 80 = .ok (.iload_n 1, 1) := by decide +kernel
theorem d_Md_runsAll_81 : decode prog_14_method_75_code 81 = .ok (.iload_n 2, 1) := by decide +kernel
theorem d_Md_runsAll_82 : decode prog_14_method_75_code 82 = .ok (.iload_n 3, 1) := by decide +kernel
theorem d_Md_runsAll_83 : decode prog_14_method_75_code 83 = .ok (.invokevirtual 413, 3) := by decide +kernel
theorem d_Md_runsAll_86 : decode prog_14_method_75_code 86 = .ok (.iload_n 2, 1) := by decide +kernel
theorem d_Md_runsAll_87 : decode prog_14_method_75_code 87 = .ok (.iload_n 3, 1) := by decide +kernel
theorem d_Md_runsAll_88 : decode prog_14_method_75_code 88 = .ok (.invokevirtual 425, 3) := by decide +kernel
theorem d_Md_runsAll_91 : decode prog_14_method_75_code 91 = .ok (.istore 5, 2) := by decide +kernel
theorem d_Md_runsAll_93 : decode prog_14_method_75_code 93 = .ok (.aload_n 0, 1) := by decide +kernel
theorem d_Md_runsAll_94 : decode prog_14_method_75_code 94 = .ok (.iload_n 1, 1) := by decide +kernel
theorem d_Md_runsAll_95 : decode prog_14_method_75_code 95 = .ok (.iload_n 2, 1) := by decide +kernel
theorem d_Md_runsAll_96 : decode prog_14_method_75_code 96 = .ok (.iload 5, 2) := by decide +kernel
theorem d_Md_runsAll_98 : decode prog_14_method_75_code 98 = .ok (.iload 4, 2) := by decide +kernel
theorem d_Md_runsAll_100 : decode prog_14_method_75_code 100 = .ok (.iconst 1, 1) := by decide +kernel
theorem d_Md_runsAll_101 : decode prog_14_method_75_code 101 = .ok (.iadd, 1) := by decide +kernel
theorem d_Md_runsAll_102 : decode prog_14_method_75_code 102 = .ok (.invokevirtual 442, 3) := by decide +kernel
theorem d_Md_runsAll_105 : decode prog_14_method_75_code 105 = .ok (.aload_n 0, 1) := by decide +kernel
theorem d_Md_runsAll_106 : decode prog_14_method_75_code 106 = .ok (.iload_n 1, 1) := by decide +kernel
theorem d_Md_runsAll_107 : decode prog_14_method_75_code 107 = .ok (.iload 5, 2) := by decide +kernel
theorem d_Md_runsAll_109 : decode prog_14_method_75_code 109 = .ok (.iload_n 3, 1) := by decide +kernel
theorem d_Md_runsAll_110 : decode prog_14_method_75_code 110 = .ok (.iload 4, 2) := by decide +kernel
theorem d_Md_runsAll_112 : decode prog_14_method_75_code 112 = .ok (.iconst 1, 1) := by decide +kernel
theorem d_Md_runsAll_113 : decode prog_14_method_75_code 113 = .ok (.iadd, 1) := by decide +kernel
theorem d_Md_runsAll_114 : decode prog_14_method_75_code 114 = .ok (.invokevirtual 442, 3) := by decide +kernel
theorem d_Md_runsAll_117 : decode prog_14_method_75_code 117 = .ok (.return_, 1) := by decide +kernel
def H_Md_runsAll (G : GX) (l : Launch) (n0 : Nat) (rec : GT_Md_runsAll) : Prop := (∀ (v0R : Nat) (v1I : Int32) (v2I : Int32) (v3I : Int32) (v4I : Int32) (σ : AM), CT eV G l (2 + n0) y_Md_runsAll prog_14_method_75_code 6 (none) [.ref v0R, .int v1I, .int v2I, .int v3I, .int v4I] σ (rec v0R v1I v2I v3I v4I σ))
abbrev S_Md_runsAll : Type := Nat × Nat × Int32 × Int32 × Int32 × Int32 × Int32 × Nat × Int32 × AM
noncomputable def T_Md_runsAll_0 (rec : GT_Md_runsAll) (v0R : Nat) (v1I : Int32) (v2I : Int32) (v3I : Int32) (v4I : Int32) (σ : AM) : S_Md_runsAll ⊕ Option (Unit × AM) :=
  if (v3I - v2I) = (1 : Int32) then (.inl (1, v0R, 0, v2I, v3I, v4I, 0, 0, 0, σ)) else (if v4I = (60 : Int32) then (.inl (1, v0R, 0, v2I, v3I, v4I, 0, 0, 0, σ)) else (gdT (okO σ v0R 12) <| bndT (M_Md_nextOf v0R v1I v2I v3I σ) fun r1 σ2 => gdT (okO σ2 v0R 12) <| bndT (M_Md_divides v0R r1 v2I v3I σ2) fun r4 σ5 => gdT (okO σ5 v0R 12) <| bndT (rec v0R v1I v2I r4 (v4I + (1 : Int32)) σ5) fun _ σ8 => gdT (okO σ8 v0R 12) <| bndT (rec v0R v1I r4 v3I (v4I + (1 : Int32)) σ8) fun _ σ11 => .inr (some ((), σ11))))
noncomputable def T_Md_runsAll_1 (rec : GT_Md_runsAll) (v0R : Nat) (v2I : Int32) (v3I : Int32) (v4I : Int32) (σ : AM) : S_Md_runsAll ⊕ Option (Unit × AM) :=
  .inl (2, v0R, 0, 0, v3I, v4I, v2I, 0, 0, σ)
noncomputable def T_Md_runsAll_2 (rec : GT_Md_runsAll) (v0R : Nat) (v3I : Int32) (v4I : Int32) (v5I : Int32) (σ : AM) : S_Md_runsAll ⊕ Option (Unit × AM) :=
  if v5I < v3I then (gdT (okO σ v0R 12) <| if (aI σ v0R 50) < v4I then (.inl (3, v0R, 0, 0, v3I, v4I, v5I, v0R, v4I, σ)) else (.inl (3, v0R, 0, 0, v3I, v4I, v5I, v0R, aI σ v0R 50, σ))) else (.inr (some ((), σ)))
noncomputable def T_Md_runsAll_3 (rec : GT_Md_runsAll) (v0R : Nat) (v3I : Int32) (v4I : Int32) (v5I : Int32) (s0R : Nat) (s1I : Int32) (σ : AM) : S_Md_runsAll ⊕ Option (Unit × AM) :=
  gdT (okO σ s0R 12) <| letT (sI σ s0R 50 s1I) fun σ2 => gdT (okO σ2 v0R 12) <| gdT (okO σ2 (aR σ2 v0R 31) 101) <| gdT (okO σ2 (aR σ2 v0R 48) 101) <| gdT (inB v5I (aN σ2 (aR σ2 v0R 48))) <| gdT (inB (aI σ2 (aR σ2 v0R 48) v5I.toNatClampNeg) (aN σ2 (aR σ2 v0R 31))) <| letT (sL σ2 v0R 51 ((aL σ2 v0R 51) + ((v4I.toInt64) * ((aI σ2 (aR σ2 v0R 31) (aI σ2 (aR σ2 v0R 48) v5I.toNatClampNeg).toNatClampNeg).toInt64)))) fun σ9 => .inl (2, v0R, 0, 0, v3I, v4I, v5I + (1 : Int32), 0, 0, σ9)
noncomputable def F_Md_runsAll (rec : GT_Md_runsAll) : S_Md_runsAll → S_Md_runsAll ⊕ Option (Unit × AM) := fun s => match s.1 with
  | 0 => T_Md_runsAll_0 rec (s.2.1) (s.2.2.1) (s.2.2.2.1) (s.2.2.2.2.1) (s.2.2.2.2.2.1) (s.2.2.2.2.2.2.2.2.2)
  | 1 => T_Md_runsAll_1 rec (s.2.1) (s.2.2.2.1) (s.2.2.2.2.1) (s.2.2.2.2.2.1) (s.2.2.2.2.2.2.2.2.2)
  | 2 => T_Md_runsAll_2 rec (s.2.1) (s.2.2.2.2.1) (s.2.2.2.2.2.1) (s.2.2.2.2.2.2.1) (s.2.2.2.2.2.2.2.2.2)
  | _ => T_Md_runsAll_3 rec (s.2.1) (s.2.2.2.2.1) (s.2.2.2.2.2.1) (s.2.2.2.2.2.2.1) (s.2.2.2.2.2.2.2.1) (s.2.2.2.2.2.2.2.2.1) (s.2.2.2.2.2.2.2.2.2)
noncomputable def L_Md_runsAll_0 (rec : GT_Md_runsAll) (v0R : Nat) (v1I : Int32) (v2I : Int32) (v3I : Int32) (v4I : Int32) (σ : AM) : Option (Unit × AM) := lp (F_Md_runsAll rec) (0, v0R, v1I, v2I, v3I, v4I, 0, 0, 0, σ)
noncomputable def L_Md_runsAll_1 (rec : GT_Md_runsAll) (v0R : Nat) (v2I : Int32) (v3I : Int32) (v4I : Int32) (σ : AM) : Option (Unit × AM) := lp (F_Md_runsAll rec) (1, v0R, 0, v2I, v3I, v4I, 0, 0, 0, σ)
noncomputable def L_Md_runsAll_2 (rec : GT_Md_runsAll) (v0R : Nat) (v3I : Int32) (v4I : Int32) (v5I : Int32) (σ : AM) : Option (Unit × AM) := lp (F_Md_runsAll rec) (2, v0R, 0, 0, v3I, v4I, v5I, 0, 0, σ)
noncomputable def L_Md_runsAll_3 (rec : GT_Md_runsAll) (v0R : Nat) (v3I : Int32) (v4I : Int32) (v5I : Int32) (s0R : Nat) (s1I : Int32) (σ : AM) : Option (Unit × AM) := lp (F_Md_runsAll rec) (3, v0R, 0, 0, v3I, v4I, v5I, s0R, s1I, σ)
set_option maxRecDepth 20000 in
theorem E_Md_runsAll_0 (rec : GT_Md_runsAll) (v0R : Nat) (v1I : Int32) (v2I : Int32) (v3I : Int32) (v4I : Int32) (σ : AM) : L_Md_runsAll_0 rec v0R v1I v2I v3I v4I σ = (if (v3I - v2I) = (1 : Int32) then (L_Md_runsAll_1 rec v0R v2I v3I v4I σ) else (if v4I = (60 : Int32) then (L_Md_runsAll_1 rec v0R v2I v3I v4I σ) else (gd (okO σ v0R 12) <| bnd (M_Md_nextOf v0R v1I v2I v3I σ) fun r1 σ2 => gd (okO σ2 v0R 12) <| bnd (M_Md_divides v0R r1 v2I v3I σ2) fun r4 σ5 => gd (okO σ5 v0R 12) <| bnd (rec v0R v1I v2I r4 (v4I + (1 : Int32)) σ5) fun _ σ8 => gd (okO σ8 v0R 12) <| bnd (rec v0R v1I r4 v3I (v4I + (1 : Int32)) σ8) fun _ σ11 => (some ((), σ11))))) := by
  unfold L_Md_runsAll_0
  rw [lp_eq]
  show lpK (lp (F_Md_runsAll rec)) (T_Md_runsAll_0 rec v0R v1I v2I v3I v4I σ) = _
  unfold T_Md_runsAll_0
  simp only [lpK_ite, lq_inl, lq_inr, lpK_bnd, lpK_gd, lq_let]
  try rfl
set_option maxRecDepth 20000 in
theorem E_Md_runsAll_1 (rec : GT_Md_runsAll) (v0R : Nat) (v2I : Int32) (v3I : Int32) (v4I : Int32) (σ : AM) : L_Md_runsAll_1 rec v0R v2I v3I v4I σ = (L_Md_runsAll_2 rec v0R v3I v4I v2I σ) := by
  unfold L_Md_runsAll_1
  rw [lp_eq]
  show lpK (lp (F_Md_runsAll rec)) (T_Md_runsAll_1 rec v0R v2I v3I v4I σ) = _
  unfold T_Md_runsAll_1
  simp only [lpK_ite, lq_inl, lq_inr, lpK_bnd, lpK_gd, lq_let]
  try rfl
set_option maxRecDepth 20000 in
theorem E_Md_runsAll_2 (rec : GT_Md_runsAll) (v0R : Nat) (v3I : Int32) (v4I : Int32) (v5I : Int32) (σ : AM) : L_Md_runsAll_2 rec v0R v3I v4I v5I σ = (if v5I < v3I then (gd (okO σ v0R 12) <| if (aI σ v0R 50) < v4I then (L_Md_runsAll_3 rec v0R v3I v4I v5I v0R v4I σ) else (L_Md_runsAll_3 rec v0R v3I v4I v5I v0R (aI σ v0R 50) σ)) else ((some ((), σ)))) := by
  unfold L_Md_runsAll_2
  rw [lp_eq]
  show lpK (lp (F_Md_runsAll rec)) (T_Md_runsAll_2 rec v0R v3I v4I v5I σ) = _
  unfold T_Md_runsAll_2
  simp only [lpK_ite, lq_inl, lq_inr, lpK_bnd, lpK_gd, lq_let]
  try rfl
set_option maxRecDepth 20000 in
theorem E_Md_runsAll_3 (rec : GT_Md_runsAll) (v0R : Nat) (v3I : Int32) (v4I : Int32) (v5I : Int32) (s0R : Nat) (s1I : Int32) (σ : AM) : L_Md_runsAll_3 rec v0R v3I v4I v5I s0R s1I σ = (gd (okO σ s0R 12) <| letT (sI σ s0R 50 s1I) fun σ2 => gd (okO σ2 v0R 12) <| gd (okO σ2 (aR σ2 v0R 31) 101) <| gd (okO σ2 (aR σ2 v0R 48) 101) <| gd (inB v5I (aN σ2 (aR σ2 v0R 48))) <| gd (inB (aI σ2 (aR σ2 v0R 48) v5I.toNatClampNeg) (aN σ2 (aR σ2 v0R 31))) <| letT (sL σ2 v0R 51 ((aL σ2 v0R 51) + ((v4I.toInt64) * ((aI σ2 (aR σ2 v0R 31) (aI σ2 (aR σ2 v0R 48) v5I.toNatClampNeg).toNatClampNeg).toInt64)))) fun σ9 => L_Md_runsAll_2 rec v0R v3I v4I (v5I + (1 : Int32)) σ9) := by
  unfold L_Md_runsAll_3
  rw [lp_eq]
  show lpK (lp (F_Md_runsAll rec)) (T_Md_runsAll_3 rec v0R v3I v4I v5I s0R s1I σ) = _
  unfold T_Md_runsAll_3
  simp only [lpK_ite, lq_inl, lq_inr, lpK_bnd, lpK_gd, lq_let]
  try rfl
noncomputable def N_Md_runsAll (rec : GT_Md_runsAll) (v0R : Nat) (v1I : Int32) (v2I : Int32) (v3I : Int32) (v4I : Int32) (σ : AM) : Option (Unit × AM) := mw σ (L_Md_runsAll_0 rec v0R v1I v2I v3I v4I σ)
def I_Md_runsAll (G : GX) (p : Program) (l : Launch) (e : Env) (s : State) (m : MethodId) (args : Array Value) (below : List Frame) (meth : Method) (c : Code) (n0 : Nat) (rec : GT_Md_runsAll) (z0 u0 n : Nat) : Prop :=
  (∀ (v0R : Nat) (v1I : Int32) (v2I : Int32) (v3I : Int32) (v4I : Int32) (σ : AM), VX (QM eV G args s below z0 u0) G p l e s m args below meth c (2 + n0 + 1) z0 u0 6 (lpn (F_Md_runsAll rec) n (0, v0R, v1I, v2I, v3I, v4I, 0, 0, 0, σ)) 0 [(0, .ref v0R), (1, .int v1I), (2, .int v2I), (3, .int v3I), (4, .int v4I)] [] σ) ∧
  (∀ (v0R : Nat) (v2I : Int32) (v3I : Int32) (v4I : Int32) (σ : AM), VX (QM eV G args s below z0 u0) G p l e s m args below meth c (2 + n0 + 1) z0 u0 6 (lpn (F_Md_runsAll rec) n (1, v0R, 0, v2I, v3I, v4I, 0, 0, 0, σ)) 14 [(0, .ref v0R), (2, .int v2I), (3, .int v3I), (4, .int v4I)] [] σ) ∧
  (∀ (v0R : Nat) (v3I : Int32) (v4I : Int32) (v5I : Int32) (σ : AM), VX (QM eV G args s below z0 u0) G p l e s m args below meth c (2 + n0 + 1) z0 u0 6 (lpn (F_Md_runsAll rec) n (2, v0R, 0, 0, v3I, v4I, v5I, 0, 0, σ)) 17 [(0, .ref v0R), (3, .int v3I), (4, .int v4I), (5, .int v5I)] [] σ) ∧
  (∀ (v0R : Nat) (v3I : Int32) (v4I : Int32) (v5I : Int32) (s0R : Nat) (s1I : Int32) (σ : AM), VX (QM eV G args s below z0 u0) G p l e s m args below meth c (2 + n0 + 1) z0 u0 6 (lpn (F_Md_runsAll rec) n (3, v0R, 0, 0, v3I, v4I, v5I, s0R, s1I, σ)) 42 [(0, .ref v0R), (3, .int v3I), (4, .int v4I), (5, .int v5I)] [.int s1I, .ref s0R] σ)
set_option maxRecDepth 20000 in
theorem s_Md_runsAll_0 {G : GX} {p : Program} {l : Launch} {e : Env} {s : State} {m : MethodId} {args : Array Value} {below : List Frame} {meth : Method} {c : Code} {z0 u0 n : Nat} (C : Cx G p s m args meth c prog_14_method_75_code 6 "BellPlateModel" ((none))) {n0 : Nat} {rec : GT_Md_runsAll} (HR : H_Md_runsAll G l n0 rec) (IH : I_Md_runsAll G p l e s m args below meth c n0 rec z0 u0 n) (v0R : Nat) (v1I : Int32) (v2I : Int32) (v3I : Int32) (v4I : Int32) (σ : AM) : VX (QM eV G args s below z0 u0) G p l e s m args below meth c (2 + n0 + 1) z0 u0 6 (lpK (lpn (F_Md_runsAll rec) n) (T_Md_runsAll_0 rec v0R v1I v2I v3I v4I σ)) 0 [(0, .ref v0R), (1, .int v1I), (2, .int v2I), (3, .int v3I), (4, .int v4I)] [] σ := by
  unfold T_Md_runsAll_0
  refine x_iload_n C d_Md_runsAll_0 3 rfl ?_
  refine x_iload_n C d_Md_runsAll_1 2 rfl ?_
  refine x_isub C d_Md_runsAll_2 ?_
  refine x_iconst (v := (1 : Int32)) C d_Md_runsAll_3 (by decide) ?_
  refine x_icmp_eq (tgt := 14) C d_Md_runsAll_4 (by decide) (fun _ => ?_) (fun _ => ?_)
  · refine x_lv [0, 2, 3, 4] rfl ?_
    exact IH.2.1 v0R v2I v3I v4I (σ)
  · refine x_iload C d_Md_runsAll_7 4 rfl ?_
    refine x_bipush (v := (60 : Int32)) C d_Md_runsAll_9 (by decide) ?_
    refine x_icmp_ne (tgt := 78) C d_Md_runsAll_11 (by decide) (fun _ => ?_) (fun _ => ?_)
    · refine x_lv [0, 2, 3, 4] rfl ?_
      exact IH.2.1 v0R v2I v3I v4I (σ)
    · refine x_aload_n C d_Md_runsAll_78 0 rfl ?_
      refine x_aload_n C d_Md_runsAll_79 0 rfl ?_
      refine x_iload_n C d_Md_runsAll_80 1 rfl ?_
      refine x_iload_n C d_Md_runsAll_81 2 rfl ?_
      refine x_iload_n C d_Md_runsAll_82 3 rfl ?_
      refine x_gd (fun h3 => ?_)
      refine x_callVI (As := [.int v1I, .int v2I, .int v3I]) C (c_Md_nextOf G l v0R v1I v2I v3I σ) (okO_iff.mp h3) rfl w2285 w96 w2283 w2286 w134 k_Md_nextOf rfl (by omega) (by decide) rfl (Nat.le_of_ble_eq_true rfl) d_Md_runsAll_83 (fun r1 σ2 => ?_)
      refine x_iload_n C d_Md_runsAll_86 2 rfl ?_
      refine x_iload_n C d_Md_runsAll_87 3 rfl ?_
      refine x_gd (fun h6 => ?_)
      refine x_callVI (As := [.int r1, .int v2I, .int v3I]) C (c_Md_divides G l v0R r1 v2I v3I σ2) (okO_iff.mp h6) rfl w2305 w100 w2303 w2306 w134 k_Md_divides rfl (by omega) (by decide) rfl (Nat.le_of_ble_eq_true rfl) d_Md_runsAll_88 (fun r4 σ5 => ?_)
      refine x_istore (lv' := [(5, .int r4), (0, .ref v0R), (1, .int v1I), (2, .int v2I), (3, .int v3I), (4, .int v4I)]) C d_Md_runsAll_91 (by decide) rfl ?_
      refine x_aload_n C d_Md_runsAll_93 1 rfl ?_
      refine x_iload_n C d_Md_runsAll_94 2 rfl ?_
      refine x_iload_n C d_Md_runsAll_95 3 rfl ?_
      refine x_iload C d_Md_runsAll_96 0 rfl ?_
      refine x_iload C d_Md_runsAll_98 5 rfl ?_
      refine x_iconst (v := (1 : Int32)) C d_Md_runsAll_100 (by decide) ?_
      refine x_iadd C d_Md_runsAll_101 ?_
      refine x_gd (fun h9 => ?_)
      refine x_callVV (As := [.int v1I, .int v2I, .int r4, .int (v4I + (1 : Int32))]) C (HR v0R v1I v2I r4 (v4I + (1 : Int32)) σ5) (okO_iff.mp h9) rfl w2321 w102 w2319 w2322 w134 k_Md_runsAll rfl (by omega) (by decide) rfl (Nat.le_of_ble_eq_true rfl) d_Md_runsAll_102 (fun r7 σ8 => ?_)
      refine x_aload_n C d_Md_runsAll_105 1 rfl ?_
      refine x_iload_n C d_Md_runsAll_106 2 rfl ?_
      refine x_iload C d_Md_runsAll_107 0 rfl ?_
      refine x_iload_n C d_Md_runsAll_109 4 rfl ?_
      refine x_iload C d_Md_runsAll_110 5 rfl ?_
      refine x_iconst (v := (1 : Int32)) C d_Md_runsAll_112 (by decide) ?_
      refine x_iadd C d_Md_runsAll_113 ?_
      refine x_gd (fun h12 => ?_)
      refine x_callVV (As := [.int v1I, .int r4, .int v3I, .int (v4I + (1 : Int32))]) C (HR v0R v1I r4 v3I (v4I + (1 : Int32)) σ8) (okO_iff.mp h12) rfl w2321 w102 w2319 w2322 w134 k_Md_runsAll rfl (by omega) (by decide) rfl (Nat.le_of_ble_eq_true rfl) d_Md_runsAll_114 (fun r10 σ11 => ?_)
      exact x_vret C d_Md_runsAll_117
set_option maxRecDepth 20000 in
theorem s_Md_runsAll_1 {G : GX} {p : Program} {l : Launch} {e : Env} {s : State} {m : MethodId} {args : Array Value} {below : List Frame} {meth : Method} {c : Code} {z0 u0 n : Nat} (C : Cx G p s m args meth c prog_14_method_75_code 6 "BellPlateModel" ((none))) {n0 : Nat} {rec : GT_Md_runsAll} (HR : H_Md_runsAll G l n0 rec) (IH : I_Md_runsAll G p l e s m args below meth c n0 rec z0 u0 n) (v0R : Nat) (v2I : Int32) (v3I : Int32) (v4I : Int32) (σ : AM) : VX (QM eV G args s below z0 u0) G p l e s m args below meth c (2 + n0 + 1) z0 u0 6 (lpK (lpn (F_Md_runsAll rec) n) (T_Md_runsAll_1 rec v0R v2I v3I v4I σ)) 14 [(0, .ref v0R), (2, .int v2I), (3, .int v3I), (4, .int v4I)] [] σ := by
  unfold T_Md_runsAll_1
  refine x_iload_n C d_Md_runsAll_14 1 rfl ?_
  refine x_istore (lv' := [(5, .int v2I), (0, .ref v0R), (2, .int v2I), (3, .int v3I), (4, .int v4I)]) C d_Md_runsAll_15 (by decide) rfl ?_
  refine x_lv [1, 3, 4, 0] rfl ?_
  exact IH.2.2.1 v0R v3I v4I v2I (σ)
set_option maxRecDepth 20000 in
theorem s_Md_runsAll_2 {G : GX} {p : Program} {l : Launch} {e : Env} {s : State} {m : MethodId} {args : Array Value} {below : List Frame} {meth : Method} {c : Code} {z0 u0 n : Nat} (C : Cx G p s m args meth c prog_14_method_75_code 6 "BellPlateModel" ((none))) {n0 : Nat} {rec : GT_Md_runsAll} (HR : H_Md_runsAll G l n0 rec) (IH : I_Md_runsAll G p l e s m args below meth c n0 rec z0 u0 n) (v0R : Nat) (v3I : Int32) (v4I : Int32) (v5I : Int32) (σ : AM) : VX (QM eV G args s below z0 u0) G p l e s m args below meth c (2 + n0 + 1) z0 u0 6 (lpK (lpn (F_Md_runsAll rec) n) (T_Md_runsAll_2 rec v0R v3I v4I v5I σ)) 17 [(0, .ref v0R), (3, .int v3I), (4, .int v4I), (5, .int v5I)] [] σ := by
  unfold T_Md_runsAll_2
  refine x_iload C d_Md_runsAll_17 3 rfl ?_
  refine x_iload_n C d_Md_runsAll_19 1 rfl ?_
  refine x_icmp_ge (tgt := 77) C d_Md_runsAll_20 (by decide) (fun _ => ?_) (fun _ => ?_)
  · refine x_aload_n C d_Md_runsAll_23 0 rfl ?_
    refine x_iload C d_Md_runsAll_24 2 rfl ?_
    refine x_aload_n C d_Md_runsAll_26 0 rfl ?_
    refine x_gd (fun h1 => ?_)
    refine x_getI (k := 50) C (okO_iff.mp h1) rfl j11_ok (by decide) rfl w1902 d_Md_runsAll_27 ?_
    refine x_icmp_le (tgt := 38) C d_Md_runsAll_30 (by decide) (fun _ => ?_) (fun _ => ?_)
    · refine x_iload C d_Md_runsAll_33 2 rfl ?_
      refine x_goto (tgt := 42) C d_Md_runsAll_35 (by decide) ?_
      exact IH.2.2.2 v0R v3I v4I v5I v0R v4I (σ)
    · refine x_aload_n C d_Md_runsAll_38 0 rfl ?_
      refine x_getI (k := 50) C (okO_iff.mp h1) rfl j11_ok (by decide) rfl w1902 d_Md_runsAll_39 ?_
      exact IH.2.2.2 v0R v3I v4I v5I v0R (aI σ v0R 50) (σ)
  · exact x_vret C d_Md_runsAll_77
set_option maxRecDepth 20000 in
theorem s_Md_runsAll_3 {G : GX} {p : Program} {l : Launch} {e : Env} {s : State} {m : MethodId} {args : Array Value} {below : List Frame} {meth : Method} {c : Code} {z0 u0 n : Nat} (C : Cx G p s m args meth c prog_14_method_75_code 6 "BellPlateModel" ((none))) {n0 : Nat} {rec : GT_Md_runsAll} (HR : H_Md_runsAll G l n0 rec) (IH : I_Md_runsAll G p l e s m args below meth c n0 rec z0 u0 n) (v0R : Nat) (v3I : Int32) (v4I : Int32) (v5I : Int32) (s0R : Nat) (s1I : Int32) (σ : AM) : VX (QM eV G args s below z0 u0) G p l e s m args below meth c (2 + n0 + 1) z0 u0 6 (lpK (lpn (F_Md_runsAll rec) n) (T_Md_runsAll_3 rec v0R v3I v4I v5I s0R s1I σ)) 42 [(0, .ref v0R), (3, .int v3I), (4, .int v4I), (5, .int v5I)] [.int s1I, .ref s0R] σ := by
  unfold T_Md_runsAll_3
  refine x_gd (fun h1 => ?_)
  refine x_putI (k := 50) C (okO_iff.mp h1) rfl j11_ok y11_ok n11_ok (by decide) rfl rfl rfl rfl w1902 d_Md_runsAll_42 ?_
  refine x_letS (fun σ2 e3 => ?_)
  refine x_aload_n C d_Md_runsAll_45 0 rfl ?_
  refine x_dup C d_Md_runsAll_46 rfl ?_
  refine x_gd (fun h4 => ?_)
  refine x_getJ (k := 51) C (okO_iff.mp h4) rfl j11_ok (by decide) rfl w1903 d_Md_runsAll_47 ?_
  refine x_iload C d_Md_runsAll_50 2 rfl ?_
  refine x_i2l C d_Md_runsAll_52 ?_
  refine x_aload_n C d_Md_runsAll_53 0 rfl ?_
  refine x_gd (fun h5 => ?_)
  refine x_getR (k := 31) (kv := 101) C (okO_iff.mp h4) rfl j11_ok (by decide) rfl (okO_iff.mp h5) (by decide) w1883 d_Md_runsAll_54 ?_
  refine x_aload_n C d_Md_runsAll_57 0 rfl ?_
  refine x_gd (fun h6 => ?_)
  refine x_getR (k := 48) (kv := 101) C (okO_iff.mp h4) rfl j11_ok (by decide) rfl (okO_iff.mp h6) (by decide) w1900 d_Md_runsAll_58 ?_
  refine x_iload C d_Md_runsAll_61 3 rfl ?_
  refine x_gd (fun h7 => ?_)
  refine x_aldI C (okO_iff.mp h6) (inB_iff.mp h7) d_Md_runsAll_63 ?_
  refine x_gd (fun h8 => ?_)
  refine x_aldI C (okO_iff.mp h5) (inB_iff.mp h8) d_Md_runsAll_64 ?_
  refine x_i2l C d_Md_runsAll_65 ?_
  refine x_lmul C d_Md_runsAll_66 ?_
  refine x_ladd C d_Md_runsAll_67 ?_
  refine x_putJ (k := 51) C (okO_iff.mp h4) rfl j11_ok y11_ok n11_ok (by decide) rfl rfl rfl rfl w1903 d_Md_runsAll_68 ?_
  refine x_letS (fun σ9 e10 => ?_)
  refine x_iinc (v := v5I + (1 : Int32)) (lv' := [(5, .int (v5I + (1 : Int32))), (0, .ref v0R), (3, .int v3I), (4, .int v4I)]) C d_Md_runsAll_71 3 rfl rfl (by decide) rfl ?_
  refine x_goto (tgt := 17) C d_Md_runsAll_74 (by decide) ?_
  refine x_lv [1, 2, 3, 0] rfl ?_
  exact IH.2.2.1 v0R v3I v4I (v5I + (1 : Int32)) (σ9)
theorem i_Md_runsAll {G : GX} {p : Program} {l : Launch} {e : Env} {s : State} {m : MethodId} {args : Array Value} {below : List Frame} {meth : Method} {c : Code} {z0 u0 : Nat} (C : Cx G p s m args meth c prog_14_method_75_code 6 "BellPlateModel" ((none))) {n0 : Nat} {rec : GT_Md_runsAll} (HR : H_Md_runsAll G l n0 rec) (n : Nat) : I_Md_runsAll G p l e s m args below meth c n0 rec z0 u0 n := by
  induction n with
  | zero => exact ⟨fun _ _ _ _ _ _ => x_none, fun _ _ _ _ _ => x_none, fun _ _ _ _ _ => x_none, fun _ _ _ _ _ _ _ => x_none⟩
  | succ n IH => exact ⟨fun v0R v1I v2I v3I v4I σ => s_Md_runsAll_0 C HR IH v0R v1I v2I v3I v4I σ, fun v0R v2I v3I v4I σ => s_Md_runsAll_1 C HR IH v0R v2I v3I v4I σ, fun v0R v3I v4I v5I σ => s_Md_runsAll_2 C HR IH v0R v3I v4I v5I σ, fun v0R v3I v4I v5I s0R s1I σ => s_Md_runsAll_3 C HR IH v0R v3I v4I v5I s0R s1I σ⟩
theorem n_Md_runsAll (G : GX) (l : Launch) (n0 : Nat) (rec : GT_Md_runsAll) (HR : H_Md_runsAll G l n0 rec) (v0R : Nat) (v1I : Int32) (v2I : Int32) (v3I : Int32) (v4I : Int32) (σ : AM) : CT eV G l (2 + (n0 + 1)) y_Md_runsAll prog_14_method_75_code 6 (none) [.ref v0R, .int v1I, .int v2I, .int v3I, .int v4I] σ (N_Md_runsAll rec v0R v1I v2I v3I v4I σ) := by
  refine ct_of (by decide +kernel) (Nat.le_of_ble_eq_true rfl) (fun p e s m args below meth c C hin => ?_)
  refine x_lve (lv' := [(0, .ref v0R), (1, .int v1I), (2, .int v2I), (3, .int v3I), (4, .int v4I)]) rfl ?_
  intro r σ' h
  obtain ⟨n, hn⟩ := (lp_iff _ _ _).mp h
  exact (i_Md_runsAll C HR n).1 v0R v1I v2I v3I v4I σ r σ' hn
noncomputable def Q_Md_runsAll : Nat → GT_Md_runsAll
  | 0 => fun _ _ _ _ _ _ => none
  | n + 1 => fun v0R v1I v2I v3I v4I σ => N_Md_runsAll (Q_Md_runsAll n) v0R v1I v2I v3I v4I σ
theorem q_Md_runsAll (G : GX) (l : Launch) (n : Nat) : H_Md_runsAll G l n (Q_Md_runsAll n) := by
  induction n with
  | zero => exact fun _ _ _ _ _ _ r σ' h => absurd (show none = some (r, σ') from h) (fun q => by cases q)
  | succ n ih => exact fun v0R v1I v2I v3I v4I σ => n_Md_runsAll G l n (Q_Md_runsAll n) ih v0R v1I v2I v3I v4I σ
noncomputable def M_Md_runsAll (v0R : Nat) (v1I : Int32) (v2I : Int32) (v3I : Int32) (v4I : Int32) (σ : AM) : Option (Unit × AM) := (Q_Md_runsAll 80) v0R v1I v2I v3I v4I σ
theorem c_Md_runsAll (G : GX) (l : Launch) (v0R : Nat) (v1I : Int32) (v2I : Int32) (v3I : Int32) (v4I : Int32) (σ : AM) : CT eV G l 82 y_Md_runsAll prog_14_method_75_code 6 (none) [.ref v0R, .int v1I, .int v2I, .int v3I, .int v4I] σ (M_Md_runsAll v0R v1I v2I v3I v4I σ) := (q_Md_runsAll G l 80) v0R v1I v2I v3I v4I σ
/-! BellPlateModel.findRuns(I)Z -/
abbrev y_Md_findRuns : MethodName := ⟨"BellPlateModel", "findRuns", "(I)Z"⟩
theorem k_Md_findRuns : y_Md_findRuns.cls ≠ "java/lang/invoke/MethodHandle" ∧ y_Md_findRuns.cls ≠ "java/lang/invoke/VarHandle" ∧ (parseMethodDescriptor y_Md_findRuns.desc).map (fun d => d.parameters.length) = some 1 := by decide +kernel
theorem d_Md_findRuns_0 : decode prog_14_method_76_code 0 = .ok (.iload_n 1, 1) := by decide +kernel
theorem d_Md_findRuns_1 : decode prog_14_method_76_code 1 = .ok (.invokestatic 407, 3) := by decide +kernel
theorem d_Md_findRuns_4 : decode prog_14_method_76_code 4 = .ok (.ifCond .ne 5, 3) := by decide +kernel
theorem d_Md_findRuns_7 : decode prog_14_method_76_code 7 = .ok (.iconst 0, 1) := by decide +kernel
theorem d_Md_findRuns_8 : decode prog_14_method_76_code 8 = .ok (.ireturn, 1) := by decide +kernel
theorem d_Md_findRuns_9 : decode prog_14_method_76_code 9 = .ok (.aload_n 0, 1) := by decide +kernel
theorem d_Md_findRuns_10 : decode prog_14_method_76_code 10 = .ok (.invokevirtual 410, 3) := by decide +kernel
theorem d_Md_findRuns_13 : decode prog_14_method_76_code 13 = .ok (.aload_n 0, 1) := by decide +kernel
theorem d_Md_findRuns_14 : decode prog_14_method_76_code 14 = .ok (.iconst 0, 1) := by decide +kernel
theorem d_Md_findRuns_15 : decode prog_14_method_76_code 15 = .ok (.putfield 436, 3) := by decide +kernel
theorem d_Md_findRuns_18 : decode prog_14_method_76_code 18 = .ok (.aload_n 0, 1) := by decide +kernel
theorem d_Md_findRuns_19 : decode prog_14_method_76_code 19 = .ok (.lconst 0, 1) := by decide +kernel
theorem d_Md_findRuns_20 : decode prog_14_method_76_code 20 = .ok (.putfield 439, 3) := by decide +kernel
theorem d_Md_findRuns_23 : decode prog_14_method_76_code 23 = .ok (.aload_n 0, 1) := by decide +kernel
theorem d_Md_findRuns_24 : decode prog_14_method_76_code 24 = .ok (.getfield 372, 3) := by decide +kernel
theorem d_Md_findRuns_27 : decode prog_14_method_76_code 27 = .ok (.ifCond .le 14, 3) := by decide +kernel
theorem d_Md_findRuns_30 : decode prog_14_method_76_code 30 = .ok (.aload_n 0, 1) := by decide +kernel
theorem d_Md_findRuns_31 : decode prog_14_method_76_code 31 = .ok (.iload_n 1, 1) := by decide +kernel
theorem d_Md_findRuns_32 : decode prog_14_method_76_code 32 = .ok (.iconst 0, 1) := by decide +kernel
theorem d_Md_findRuns_33 : decode prog_14_method_76_code 33 = .ok (.aload_n 0, 1) := by decide +kernel
theorem d_Md_findRuns_34 : decode prog_14_method_76_code 34 = .ok (.getfield 372, 3) := by decide +kernel
theorem d_Md_findRuns_37 : decode prog_14_method_76_code 37 = .ok (.iconst 0, 1) := by decide +kernel
theorem d_Md_findRuns_38 : decode prog_14_method_76_code 38 = .ok (.invokevirtual 442, 3) := by decide +kernel
theorem d_Md_findRuns_41 : decode prog_14_method_76_code 41 = .ok (.aload_n 0, 1) := by decide +kernel
theorem d_Md_findRuns_42 : decode prog_14_method_76_code 42 = .ok (.getfield 372, 3) := by decide +kernel
theorem d_Md_findRuns_45 : decode prog_14_method_76_code 45 = .ok (.ifCond .le 7, 3) := by decide +kernel
theorem d_Md_findRuns_48 : decode prog_14_method_76_code 48 = .ok (.iconst 1, 1) := by decide +kernel
theorem d_Md_findRuns_49 : decode prog_14_method_76_code 49 = .ok (.goto 4, 3) := by decide +kernel
theorem d_Md_findRuns_52 : decode prog_14_method_76_code 52 = .ok (.iconst 0, 1) := by decide +kernel
theorem d_Md_findRuns_53 : decode prog_14_method_76_code 53 = .ok (.ireturn, 1) := by decide +kernel
abbrev S_Md_findRuns : Type := Nat × Nat × Int32 × Int32 × AM
noncomputable def T_Md_findRuns_0 (v0R : Nat) (v1I : Int32) (σ : AM) : S_Md_findRuns ⊕ Option (Int32 × AM) :=
  bndT (M_Md_isWay v1I σ) fun r1 σ2 => if r1 = 0 then (.inr (some ((0 : Int32), σ2))) else (gdT (okO σ2 v0R 12) <| bndT (M_Md_takesLeft v0R σ2) fun _ σ4 => gdT (okO σ4 v0R 12) <| letT (sI σ4 v0R 50 (0 : Int32)) fun σ7 => letT (sL σ7 v0R 51 (0 : Int64)) fun σ9 => if 0 < (aI σ9 v0R 46) then (bndT (M_Md_runsAll v0R v1I (0 : Int32) (aI σ9 v0R 46) (0 : Int32) σ9) fun _ σ12 => .inl (1, v0R, 0, 0, σ12)) else (.inl (1, v0R, 0, 0, σ9)))
noncomputable def T_Md_findRuns_1 (v0R : Nat) (σ : AM) : S_Md_findRuns ⊕ Option (Int32 × AM) :=
  gdT (okO σ v0R 12) <| if 0 < (aI σ v0R 46) then (.inl (2, 0, 0, (1 : Int32), σ)) else (.inl (2, 0, 0, (0 : Int32), σ))
noncomputable def T_Md_findRuns_2 (s0I : Int32) (σ : AM) : S_Md_findRuns ⊕ Option (Int32 × AM) :=
  gdT (isB s0I) <| .inr (some (s0I, σ))
noncomputable def F_Md_findRuns : S_Md_findRuns → S_Md_findRuns ⊕ Option (Int32 × AM) := fun s => match s.1 with
  | 0 => T_Md_findRuns_0 (s.2.1) (s.2.2.1) (s.2.2.2.2)
  | 1 => T_Md_findRuns_1 (s.2.1) (s.2.2.2.2)
  | _ => T_Md_findRuns_2 (s.2.2.2.1) (s.2.2.2.2)
noncomputable def L_Md_findRuns_0 (v0R : Nat) (v1I : Int32) (σ : AM) : Option (Int32 × AM) := lp F_Md_findRuns (0, v0R, v1I, 0, σ)
noncomputable def L_Md_findRuns_1 (v0R : Nat) (σ : AM) : Option (Int32 × AM) := lp F_Md_findRuns (1, v0R, 0, 0, σ)
noncomputable def L_Md_findRuns_2 (s0I : Int32) (σ : AM) : Option (Int32 × AM) := lp F_Md_findRuns (2, 0, 0, s0I, σ)
set_option maxRecDepth 20000 in
theorem E_Md_findRuns_0 (v0R : Nat) (v1I : Int32) (σ : AM) : L_Md_findRuns_0 v0R v1I σ = (bnd (M_Md_isWay v1I σ) fun r1 σ2 => if r1 = 0 then ((some ((0 : Int32), σ2))) else (gd (okO σ2 v0R 12) <| bnd (M_Md_takesLeft v0R σ2) fun _ σ4 => gd (okO σ4 v0R 12) <| letT (sI σ4 v0R 50 (0 : Int32)) fun σ7 => letT (sL σ7 v0R 51 (0 : Int64)) fun σ9 => if 0 < (aI σ9 v0R 46) then (bnd (M_Md_runsAll v0R v1I (0 : Int32) (aI σ9 v0R 46) (0 : Int32) σ9) fun _ σ12 => L_Md_findRuns_1 v0R σ12) else (L_Md_findRuns_1 v0R σ9))) := by
  unfold L_Md_findRuns_0
  rw [lp_eq]
  show lpK (lp F_Md_findRuns) (T_Md_findRuns_0 v0R v1I σ) = _
  unfold T_Md_findRuns_0
  simp only [lpK_ite, lq_inl, lq_inr, lpK_bnd, lpK_gd, lq_let]
  try rfl
set_option maxRecDepth 20000 in
theorem E_Md_findRuns_1 (v0R : Nat) (σ : AM) : L_Md_findRuns_1 v0R σ = (gd (okO σ v0R 12) <| if 0 < (aI σ v0R 46) then (L_Md_findRuns_2 ((1 : Int32)) σ) else (L_Md_findRuns_2 ((0 : Int32)) σ)) := by
  unfold L_Md_findRuns_1
  rw [lp_eq]
  show lpK (lp F_Md_findRuns) (T_Md_findRuns_1 v0R σ) = _
  unfold T_Md_findRuns_1
  simp only [lpK_ite, lq_inl, lq_inr, lpK_bnd, lpK_gd, lq_let]
  try rfl
set_option maxRecDepth 20000 in
theorem E_Md_findRuns_2 (s0I : Int32) (σ : AM) : L_Md_findRuns_2 s0I σ = (gd (isB s0I) <| (some (s0I, σ))) := by
  unfold L_Md_findRuns_2
  rw [lp_eq]
  show lpK (lp F_Md_findRuns) (T_Md_findRuns_2 s0I σ) = _
  unfold T_Md_findRuns_2
  simp only [lpK_ite, lq_inl, lq_inr, lpK_bnd, lpK_gd, lq_let]
  try rfl
noncomputable def M_Md_findRuns (v0R : Nat) (v1I : Int32) (σ : AM) : Option (Int32 × AM) := mw σ (L_Md_findRuns_0 v0R v1I σ)
def I_Md_findRuns (G : GX) (p : Program) (l : Launch) (e : Env) (s : State) (m : MethodId) (args : Array Value) (below : List Frame) (meth : Method) (c : Code) (z0 u0 n : Nat) : Prop :=
  (∀ (v0R : Nat) (v1I : Int32) (σ : AM), VX (QM eI G args s below z0 u0) G p l e s m args below meth c 83 z0 u0 2 (lpn F_Md_findRuns n (0, v0R, v1I, 0, σ)) 0 [(0, .ref v0R), (1, .int v1I)] [] σ) ∧
  (∀ (v0R : Nat) (σ : AM), VX (QM eI G args s below z0 u0) G p l e s m args below meth c 83 z0 u0 2 (lpn F_Md_findRuns n (1, v0R, 0, 0, σ)) 41 [(0, .ref v0R)] [] σ) ∧
  (∀ (s0I : Int32) (σ : AM), VX (QM eI G args s below z0 u0) G p l e s m args below meth c 83 z0 u0 2 (lpn F_Md_findRuns n (2, 0, 0, s0I, σ)) 53 [] [.int s0I] σ)
set_option maxRecDepth 20000 in
theorem s_Md_findRuns_0 {G : GX} {p : Program} {l : Launch} {e : Env} {s : State} {m : MethodId} {args : Array Value} {below : List Frame} {meth : Method} {c : Code} {z0 u0 n : Nat} (C : Cx G p s m args meth c prog_14_method_76_code 2 "BellPlateModel" ((some FieldType.boolean))) (IH : I_Md_findRuns G p l e s m args below meth c z0 u0 n) (v0R : Nat) (v1I : Int32) (σ : AM) : VX (QM eI G args s below z0 u0) G p l e s m args below meth c 83 z0 u0 2 (lpK (lpn F_Md_findRuns n) (T_Md_findRuns_0 v0R v1I σ)) 0 [(0, .ref v0R), (1, .int v1I)] [] σ := by
  unfold T_Md_findRuns_0
  refine x_iload_n C d_Md_findRuns_0 1 rfl ?_
  refine x_callSI (As := [.int v1I]) C (c_Md_isWay G l v1I σ) w2277 w2276 w2278 w134 k_Md_isWay rfl (by decide) (by decide) rfl (Nat.le_of_ble_eq_true rfl) d_Md_findRuns_1 (fun r1 σ2 => ?_)
  refine x_if_ne (tgt := 9) C d_Md_findRuns_4 (by decide) (fun _ => ?_) (fun _ => ?_)
  · refine x_iconst (v := (0 : Int32)) C d_Md_findRuns_7 (by decide) ?_
    exact x_zret C (by decide) d_Md_findRuns_8
  · refine x_aload_n C d_Md_findRuns_9 0 rfl ?_
    refine x_gd (fun h5 => ?_)
    refine x_callVV (As := []) C (c_Md_takesLeft G l v0R  σ2) (okO_iff.mp h5) rfl w2281 w95 w2279 w2282 w134 k_Md_takesLeft rfl (by decide) (by decide) rfl (Nat.le_of_ble_eq_true rfl) d_Md_findRuns_10 (fun r3 σ4 => ?_)
    refine x_aload_n C d_Md_findRuns_13 0 rfl ?_
    refine x_iconst (v := (0 : Int32)) C d_Md_findRuns_14 (by decide) ?_
    refine x_gd (fun h6 => ?_)
    refine x_putI (k := 50) C (okO_iff.mp h6) rfl j11_ok y11_ok n11_ok (by decide) rfl rfl rfl rfl w1902 d_Md_findRuns_15 ?_
    refine x_letS (fun σ7 e8 => ?_)
    refine x_aload_n C d_Md_findRuns_18 0 rfl ?_
    refine x_lconst (v := (0 : Int64)) C d_Md_findRuns_19 (by decide) ?_
    refine x_putJ (k := 51) C (by first | exact (okO_iff.mp h6) | (rw [e8]; exact (okO_iff.mp h6))) rfl j11_ok y11_ok n11_ok (by decide) rfl rfl rfl rfl w1903 d_Md_findRuns_20 ?_
    refine x_letS (fun σ9 e10 => ?_)
    refine x_aload_n C d_Md_findRuns_23 0 rfl ?_
    refine x_getI (k := 46) C (by first | exact (okO_iff.mp h6) | (rw [e10, e8]; exact (okO_iff.mp h6))) rfl j11_ok (by decide) rfl w1898 d_Md_findRuns_24 ?_
    refine x_if_le (tgt := 41) C d_Md_findRuns_27 (by decide) (fun _ => ?_) (fun _ => ?_)
    · refine x_aload_n C d_Md_findRuns_30 0 rfl ?_
      refine x_iload_n C d_Md_findRuns_31 1 rfl ?_
      refine x_iconst (v := (0 : Int32)) C d_Md_findRuns_32 (by decide) ?_
      refine x_aload_n C d_Md_findRuns_33 0 rfl ?_
      refine x_getI (k := 46) C (by first | exact (okO_iff.mp h6) | (rw [e10, e8]; exact (okO_iff.mp h6))) rfl j11_ok (by decide) rfl w1898 d_Md_findRuns_34 ?_
      refine x_iconst (v := (0 : Int32)) C d_Md_findRuns_37 (by decide) ?_
      refine x_callVV (As := [.int v1I, .int (0 : Int32), .int (aI σ9 v0R 46), .int (0 : Int32)]) C (c_Md_runsAll G l v0R v1I (0 : Int32) (aI σ9 v0R 46) (0 : Int32) σ9) (by first | exact (okO_iff.mp h6) | (rw [e10, e8]; exact (okO_iff.mp h6))) rfl w2321 w102 w2319 w2322 w134 k_Md_runsAll rfl (by decide) (by decide) rfl (Nat.le_of_ble_eq_true rfl) d_Md_findRuns_38 (fun r11 σ12 => ?_)
      refine x_lv [0] rfl ?_
      exact IH.2.1 v0R (σ12)
    · refine x_lv [0] rfl ?_
      exact IH.2.1 v0R (σ9)
set_option maxRecDepth 20000 in
theorem s_Md_findRuns_1 {G : GX} {p : Program} {l : Launch} {e : Env} {s : State} {m : MethodId} {args : Array Value} {below : List Frame} {meth : Method} {c : Code} {z0 u0 n : Nat} (C : Cx G p s m args meth c prog_14_method_76_code 2 "BellPlateModel" ((some FieldType.boolean))) (IH : I_Md_findRuns G p l e s m args below meth c z0 u0 n) (v0R : Nat) (σ : AM) : VX (QM eI G args s below z0 u0) G p l e s m args below meth c 83 z0 u0 2 (lpK (lpn F_Md_findRuns n) (T_Md_findRuns_1 v0R σ)) 41 [(0, .ref v0R)] [] σ := by
  unfold T_Md_findRuns_1
  refine x_aload_n C d_Md_findRuns_41 0 rfl ?_
  refine x_gd (fun h1 => ?_)
  refine x_getI (k := 46) C (okO_iff.mp h1) rfl j11_ok (by decide) rfl w1898 d_Md_findRuns_42 ?_
  refine x_if_le (tgt := 52) C d_Md_findRuns_45 (by decide) (fun _ => ?_) (fun _ => ?_)
  · refine x_iconst (v := (1 : Int32)) C d_Md_findRuns_48 (by decide) ?_
    refine x_goto (tgt := 53) C d_Md_findRuns_49 (by decide) ?_
    refine x_lv [] rfl ?_
    exact IH.2.2 ((1 : Int32)) (σ)
  · refine x_iconst (v := (0 : Int32)) C d_Md_findRuns_52 (by decide) ?_
    refine x_lv [] rfl ?_
    exact IH.2.2 ((0 : Int32)) (σ)
set_option maxRecDepth 20000 in
theorem s_Md_findRuns_2 {G : GX} {p : Program} {l : Launch} {e : Env} {s : State} {m : MethodId} {args : Array Value} {below : List Frame} {meth : Method} {c : Code} {z0 u0 n : Nat} (C : Cx G p s m args meth c prog_14_method_76_code 2 "BellPlateModel" ((some FieldType.boolean))) (IH : I_Md_findRuns G p l e s m args below meth c z0 u0 n) (s0I : Int32) (σ : AM) : VX (QM eI G args s below z0 u0) G p l e s m args below meth c 83 z0 u0 2 (lpK (lpn F_Md_findRuns n) (T_Md_findRuns_2 s0I σ)) 53 [] [.int s0I] σ := by
  unfold T_Md_findRuns_2
  refine x_gd (fun h1 => ?_)
  exact x_zret C (isB_narrow h1) d_Md_findRuns_53
theorem i_Md_findRuns {G : GX} {p : Program} {l : Launch} {e : Env} {s : State} {m : MethodId} {args : Array Value} {below : List Frame} {meth : Method} {c : Code} {z0 u0 : Nat} (C : Cx G p s m args meth c prog_14_method_76_code 2 "BellPlateModel" ((some FieldType.boolean))) (n : Nat) : I_Md_findRuns G p l e s m args below meth c z0 u0 n := by
  induction n with
  | zero => exact ⟨fun _ _ _ => x_none, fun _ _ => x_none, fun _ _ => x_none⟩
  | succ n IH => exact ⟨fun v0R v1I σ => s_Md_findRuns_0 C IH v0R v1I σ, fun v0R σ => s_Md_findRuns_1 C IH v0R σ, fun s0I σ => s_Md_findRuns_2 C IH s0I σ⟩
theorem c_Md_findRuns (G : GX) (l : Launch) (v0R : Nat) (v1I : Int32) (σ : AM) : CT eI G l 83 y_Md_findRuns prog_14_method_76_code 2 ((some FieldType.boolean)) [.ref v0R, .int v1I] σ (M_Md_findRuns v0R v1I σ) := by
  refine ct_of (by decide +kernel) (Nat.le_of_ble_eq_true rfl) (fun p e s m args below meth c C hin => ?_)
  refine x_lve (lv' := [(0, .ref v0R), (1, .int v1I)]) rfl ?_
  intro r σ' h
  obtain ⟨n, hn⟩ := (lp_iff _ _ _).mp h
  exact (i_Md_findRuns C n).1 v0R v1I σ r σ' hn
/-! BellPlateModel.worst(I)I -/
abbrev y_Md_worst : MethodName := ⟨"BellPlateModel", "worst", "(I)I"⟩
theorem k_Md_worst : y_Md_worst.cls ≠ "java/lang/invoke/MethodHandle" ∧ y_Md_worst.cls ≠ "java/lang/invoke/VarHandle" ∧ (parseMethodDescriptor y_Md_worst.desc).map (fun d => d.parameters.length) = some 1 := by decide +kernel
theorem d_Md_worst_0 : decode prog_14_method_77_code 0 = .ok (.aload_n 0, 1) := by decide +kernel
theorem d_Md_worst_1 : decode prog_14_method_77_code 1 = .ok (.iconst 0, 1) := by decide +kernel
theorem d_Md_worst_2 : decode prog_14_method_77_code 2 = .ok (.putfield 1, 3) := by decide +kernel
theorem d_Md_worst_5 : decode prog_14_method_77_code 5 = .ok (.aload_n 0, 1) := by decide +kernel
theorem d_Md_worst_6 : decode prog_14_method_77_code 6 = .ok (.iload_n 1, 1) := by decide +kernel
theorem d_Md_worst_7 : decode prog_14_method_77_code 7 = .ok (.invokevirtual 446, 3) := by decide +kernel
theorem d_Md_worst_10 : decode prog_14_method_77_code 10 = .ok (.ifCond .eq 10, 3) := by decide +kernel
theorem d_Md_worst_13 : decode prog_14_method_77_code 13 = .ok (.aload_n 0, 1) := by decide +kernel
theorem d_Md_worst_14 : decode prog_14_method_77_code 14 = .ok (.getfield 436, 3) := by decide +kernel
theorem d_Md_worst_17 : decode prog_14_method_77_code 17 = .ok (.goto 4, 3) := by decide +kernel
theorem d_Md_worst_20 : decode prog_14_method_77_code 20 = .ok (.iconst (-1), 1) := by decide +kernel
theorem d_Md_worst_21 : decode prog_14_method_77_code 21 = .ok (.ireturn, 1) := by decide +kernel
abbrev S_Md_worst : Type := Nat × Nat × Int32 × Int32 × AM
noncomputable def T_Md_worst_0 (v0R : Nat) (v1I : Int32) (σ : AM) : S_Md_worst ⊕ Option (Int32 × AM) :=
  gdT (okO σ v0R 12) <| letT (sI σ v0R 0 (0 : Int32)) fun σ2 => bndT (M_Md_findRuns v0R v1I σ2) fun r4 σ5 => if r4 = 0 then (.inl (1, 0, 0, ((-1) : Int32), σ5)) else (gdT (okO σ5 v0R 12) <| .inl (1, 0, 0, aI σ5 v0R 50, σ5))
noncomputable def T_Md_worst_1 (s0I : Int32) (σ : AM) : S_Md_worst ⊕ Option (Int32 × AM) :=
  .inr (some (s0I, σ))
noncomputable def F_Md_worst : S_Md_worst → S_Md_worst ⊕ Option (Int32 × AM) := fun s => match s.1 with
  | 0 => T_Md_worst_0 (s.2.1) (s.2.2.1) (s.2.2.2.2)
  | _ => T_Md_worst_1 (s.2.2.2.1) (s.2.2.2.2)
noncomputable def L_Md_worst_0 (v0R : Nat) (v1I : Int32) (σ : AM) : Option (Int32 × AM) := lp F_Md_worst (0, v0R, v1I, 0, σ)
noncomputable def L_Md_worst_1 (s0I : Int32) (σ : AM) : Option (Int32 × AM) := lp F_Md_worst (1, 0, 0, s0I, σ)
set_option maxRecDepth 20000 in
theorem E_Md_worst_0 (v0R : Nat) (v1I : Int32) (σ : AM) : L_Md_worst_0 v0R v1I σ = (gd (okO σ v0R 12) <| letT (sI σ v0R 0 (0 : Int32)) fun σ2 => bnd (M_Md_findRuns v0R v1I σ2) fun r4 σ5 => if r4 = 0 then (L_Md_worst_1 (((-1) : Int32)) σ5) else (gd (okO σ5 v0R 12) <| L_Md_worst_1 (aI σ5 v0R 50) σ5)) := by
  unfold L_Md_worst_0
  rw [lp_eq]
  show lpK (lp F_Md_worst) (T_Md_worst_0 v0R v1I σ) = _
  unfold T_Md_worst_0
  simp only [lpK_ite, lq_inl, lq_inr, lpK_bnd, lpK_gd, lq_let]
  try rfl
set_option maxRecDepth 20000 in
theorem E_Md_worst_1 (s0I : Int32) (σ : AM) : L_Md_worst_1 s0I σ = ((some (s0I, σ))) := by
  unfold L_Md_worst_1
  rw [lp_eq]
  show lpK (lp F_Md_worst) (T_Md_worst_1 s0I σ) = _
  unfold T_Md_worst_1
  simp only [lpK_ite, lq_inl, lq_inr, lpK_bnd, lpK_gd, lq_let]
  try rfl
noncomputable def M_Md_worst (v0R : Nat) (v1I : Int32) (σ : AM) : Option (Int32 × AM) := mw σ (L_Md_worst_0 v0R v1I σ)
def I_Md_worst (G : GX) (p : Program) (l : Launch) (e : Env) (s : State) (m : MethodId) (args : Array Value) (below : List Frame) (meth : Method) (c : Code) (z0 u0 n : Nat) : Prop :=
  (∀ (v0R : Nat) (v1I : Int32) (σ : AM), VX (QM eI G args s below z0 u0) G p l e s m args below meth c 84 z0 u0 2 (lpn F_Md_worst n (0, v0R, v1I, 0, σ)) 0 [(0, .ref v0R), (1, .int v1I)] [] σ) ∧
  (∀ (s0I : Int32) (σ : AM), VX (QM eI G args s below z0 u0) G p l e s m args below meth c 84 z0 u0 2 (lpn F_Md_worst n (1, 0, 0, s0I, σ)) 21 [] [.int s0I] σ)
set_option maxRecDepth 20000 in
theorem s_Md_worst_0 {G : GX} {p : Program} {l : Launch} {e : Env} {s : State} {m : MethodId} {args : Array Value} {below : List Frame} {meth : Method} {c : Code} {z0 u0 n : Nat} (C : Cx G p s m args meth c prog_14_method_77_code 2 "BellPlateModel" ((some FieldType.int))) (IH : I_Md_worst G p l e s m args below meth c z0 u0 n) (v0R : Nat) (v1I : Int32) (σ : AM) : VX (QM eI G args s below z0 u0) G p l e s m args below meth c 84 z0 u0 2 (lpK (lpn F_Md_worst n) (T_Md_worst_0 v0R v1I σ)) 0 [(0, .ref v0R), (1, .int v1I)] [] σ := by
  unfold T_Md_worst_0
  refine x_aload_n C d_Md_worst_0 0 rfl ?_
  refine x_iconst (v := (0 : Int32)) C d_Md_worst_1 (by decide) ?_
  refine x_gd (fun h1 => ?_)
  refine x_putI (k := 0) C (okO_iff.mp h1) rfl j11_ok y11_ok n11_ok (by decide) rfl rfl rfl rfl w1852 d_Md_worst_2 ?_
  refine x_letS (fun σ2 e3 => ?_)
  refine x_aload_n C d_Md_worst_5 0 rfl ?_
  refine x_iload_n C d_Md_worst_6 1 rfl ?_
  refine x_callVI (As := [.int v1I]) C (c_Md_findRuns G l v0R v1I σ2) (by first | exact (okO_iff.mp h1) | (rw [e3]; exact (okO_iff.mp h1))) rfl w2317 w101 w2315 w2318 w134 k_Md_findRuns rfl (by decide) (by decide) rfl (Nat.le_of_ble_eq_true rfl) d_Md_worst_7 (fun r4 σ5 => ?_)
  refine x_if_eq (tgt := 20) C d_Md_worst_10 (by decide) (fun _ => ?_) (fun _ => ?_)
  · refine x_iconst (v := ((-1) : Int32)) C d_Md_worst_20 (by decide) ?_
    refine x_lv [] rfl ?_
    exact IH.2 (((-1) : Int32)) (σ5)
  · refine x_aload_n C d_Md_worst_13 0 rfl ?_
    refine x_gd (fun h6 => ?_)
    refine x_getI (k := 50) C (okO_iff.mp h6) rfl j11_ok (by decide) rfl w1902 d_Md_worst_14 ?_
    refine x_goto (tgt := 21) C d_Md_worst_17 (by decide) ?_
    refine x_lv [] rfl ?_
    exact IH.2 (aI σ5 v0R 50) (σ5)
set_option maxRecDepth 20000 in
theorem s_Md_worst_1 {G : GX} {p : Program} {l : Launch} {e : Env} {s : State} {m : MethodId} {args : Array Value} {below : List Frame} {meth : Method} {c : Code} {z0 u0 n : Nat} (C : Cx G p s m args meth c prog_14_method_77_code 2 "BellPlateModel" ((some FieldType.int))) (IH : I_Md_worst G p l e s m args below meth c z0 u0 n) (s0I : Int32) (σ : AM) : VX (QM eI G args s below z0 u0) G p l e s m args below meth c 84 z0 u0 2 (lpK (lpn F_Md_worst n) (T_Md_worst_1 s0I σ)) 21 [] [.int s0I] σ := by
  unfold T_Md_worst_1
  exact x_iret C d_Md_worst_21
theorem i_Md_worst {G : GX} {p : Program} {l : Launch} {e : Env} {s : State} {m : MethodId} {args : Array Value} {below : List Frame} {meth : Method} {c : Code} {z0 u0 : Nat} (C : Cx G p s m args meth c prog_14_method_77_code 2 "BellPlateModel" ((some FieldType.int))) (n : Nat) : I_Md_worst G p l e s m args below meth c z0 u0 n := by
  induction n with
  | zero => exact ⟨fun _ _ _ => x_none, fun _ _ => x_none⟩
  | succ n IH => exact ⟨fun v0R v1I σ => s_Md_worst_0 C IH v0R v1I σ, fun s0I σ => s_Md_worst_1 C IH s0I σ⟩
theorem c_Md_worst (G : GX) (l : Launch) (v0R : Nat) (v1I : Int32) (σ : AM) : CT eI G l 84 y_Md_worst prog_14_method_77_code 2 ((some FieldType.int)) [.ref v0R, .int v1I] σ (M_Md_worst v0R v1I σ) := by
  refine ct_of (by decide +kernel) (Nat.le_of_ble_eq_true rfl) (fun p e s m args below meth c C hin => ?_)
  refine x_lve (lv' := [(0, .ref v0R), (1, .int v1I)]) rfl ?_
  intro r σ' h
  obtain ⟨n, hn⟩ := (lp_iff _ _ _).mp h
  exact (i_Md_worst C n).1 v0R v1I σ r σ' hn
/-! BellPlateModel.common(JJ)J -/
abbrev y_Md_common : MethodName := ⟨"BellPlateModel", "common", "(JJ)J"⟩
theorem k_Md_common : y_Md_common.cls ≠ "java/lang/invoke/MethodHandle" ∧ y_Md_common.cls ≠ "java/lang/invoke/VarHandle" ∧ (parseMethodDescriptor y_Md_common.desc).map (fun d => d.parameters.length) = some 2 := by decide +kernel
theorem d_Md_common_0 : decode prog_14_method_78_code 0 = .ok (.lload_n 0, 1) := by decide +kernel
theorem d_Md_common_1 : decode prog_14_method_78_code 1 = .ok (.lstore 4, 2) := by decide +kernel
theorem d_Md_common_3 : decode prog_14_method_78_code 3 = .ok (.lload_n 2, 1) := by decide +kernel
theorem d_Md_common_4 : decode prog_14_method_78_code 4 = .ok (.lstore 6, 2) := by decide +kernel
theorem d_Md_common_6 : decode prog_14_method_78_code 6 = .ok (.lload 6, 2) := by decide +kernel
theorem d_Md_common_8 : decode prog_14_method_78_code 8 = .ok (.lconst 0, 1) := by decide +kernel
theorem d_Md_common_9 : decode prog_14_method_78_code 9 = .ok (.lcmp, 1) := by decide +kernel
theorem d_Md_common_10 : decode prog_14_method_78_code 10 = .ok (.ifCond .eq 21, 3) := by decide +kernel
theorem d_Md_common_13 : decode prog_14_method_78_code 13 = .ok (.lload 4, 2) := by decide +kernel
theorem d_Md_common_15 : decode prog_14_method_78_code 15 = .ok (.lload 6, 2) := by decide +kernel
theorem d_Md_common_17 : decode prog_14_method_78_code 17 = .ok (.lrem, 1) := by decide +kernel
theorem d_Md_common_18 : decode prog_14_method_78_code 18 = .ok (.lstore 8, 2) := by decide +kernel
theorem d_Md_common_20 : decode prog_14_method_78_code 20 = .ok (.lload 6, 2) := by decide +kernel
theorem d_Md_common_22 : decode prog_14_method_78_code 22 = .ok (.lstore 4, 2) := by decide +kernel
theorem d_Md_common_24 : decode prog_14_method_78_code 24 = .ok (.lload 8, 2) := by decide +kernel
theorem d_Md_common_26 : decode prog_14_method_78_code 26 = .ok (.lstore 6, 2) := by decide +kernel
theorem d_Md_common_28 : decode prog_14_method_78_code 28 = .ok (.goto (-22), 3) := by decide +kernel
theorem d_Md_common_31 : decode prog_14_method_78_code 31 = .ok (.lload 4, 2) := by decide +kernel
theorem d_Md_common_33 : decode prog_14_method_78_code 33 = .ok (.lreturn, 1) := by decide +kernel
abbrev S_Md_common : Type := Nat × Int64 × Int64 × Int64 × Int64 × AM
noncomputable def T_Md_common_0 (v0J : Int64) (v2J : Int64) (σ : AM) : S_Md_common ⊕ Option (Int64 × AM) :=
  .inl (1, 0, 0, v0J, v2J, σ)
noncomputable def T_Md_common_1 (v4J : Int64) (v6J : Int64) (σ : AM) : S_Md_common ⊕ Option (Int64 × AM) :=
  if (lg_cmp v6J (0 : Int64)) = 0 then (.inr (some (v4J, σ))) else (gdT (nzJ v6J) <| letT (v4J - v4J / v6J * v6J) fun x2 => .inl (1, 0, 0, v6J, x2, σ))
noncomputable def F_Md_common : S_Md_common → S_Md_common ⊕ Option (Int64 × AM) := fun s => match s.1 with
  | 0 => T_Md_common_0 (s.2.1) (s.2.2.1) (s.2.2.2.2.2)
  | _ => T_Md_common_1 (s.2.2.2.1) (s.2.2.2.2.1) (s.2.2.2.2.2)
noncomputable def L_Md_common_0 (v0J : Int64) (v2J : Int64) (σ : AM) : Option (Int64 × AM) := lp F_Md_common (0, v0J, v2J, 0, 0, σ)
noncomputable def L_Md_common_1 (v4J : Int64) (v6J : Int64) (σ : AM) : Option (Int64 × AM) := lp F_Md_common (1, 0, 0, v4J, v6J, σ)
set_option maxRecDepth 20000 in
theorem E_Md_common_0 (v0J : Int64) (v2J : Int64) (σ : AM) : L_Md_common_0 v0J v2J σ = (L_Md_common_1 v0J v2J σ) := by
  unfold L_Md_common_0
  rw [lp_eq]
  show lpK (lp F_Md_common) (T_Md_common_0 v0J v2J σ) = _
  unfold T_Md_common_0
  simp only [lpK_ite, lq_inl, lq_inr, lpK_bnd, lpK_gd, lq_let]
  try rfl
set_option maxRecDepth 20000 in
theorem E_Md_common_1 (v4J : Int64) (v6J : Int64) (σ : AM) : L_Md_common_1 v4J v6J σ = (if (lg_cmp v6J (0 : Int64)) = 0 then ((some (v4J, σ))) else (gd (nzJ v6J) <| letT (v4J - v4J / v6J * v6J) fun x2 => L_Md_common_1 v6J x2 σ)) := by
  unfold L_Md_common_1
  rw [lp_eq]
  show lpK (lp F_Md_common) (T_Md_common_1 v4J v6J σ) = _
  unfold T_Md_common_1
  simp only [lpK_ite, lq_inl, lq_inr, lpK_bnd, lpK_gd, lq_let]
  try rfl
noncomputable def M_Md_common (v0J : Int64) (v2J : Int64) (σ : AM) : Option (Int64 × AM) := mw σ (L_Md_common_0 v0J v2J σ)
def I_Md_common (G : GX) (p : Program) (l : Launch) (e : Env) (s : State) (m : MethodId) (args : Array Value) (below : List Frame) (meth : Method) (c : Code) (z0 u0 n : Nat) : Prop :=
  (∀ (v0J : Int64) (v2J : Int64) (σ : AM), VX (QM eJ G args s below z0 u0) G p l e s m args below meth c 0 z0 u0 10 (lpn F_Md_common n (0, v0J, v2J, 0, 0, σ)) 0 [(0, .long v0J), (2, .long v2J)] [] σ) ∧
  (∀ (v4J : Int64) (v6J : Int64) (σ : AM), VX (QM eJ G args s below z0 u0) G p l e s m args below meth c 0 z0 u0 10 (lpn F_Md_common n (1, 0, 0, v4J, v6J, σ)) 6 [(4, .long v4J), (6, .long v6J)] [] σ)
set_option maxRecDepth 20000 in
theorem s_Md_common_0 {G : GX} {p : Program} {l : Launch} {e : Env} {s : State} {m : MethodId} {args : Array Value} {below : List Frame} {meth : Method} {c : Code} {z0 u0 n : Nat} (C : Cx G p s m args meth c prog_14_method_78_code 10 "BellPlateModel" ((some FieldType.long))) (IH : I_Md_common G p l e s m args below meth c z0 u0 n) (v0J : Int64) (v2J : Int64) (σ : AM) : VX (QM eJ G args s below z0 u0) G p l e s m args below meth c 0 z0 u0 10 (lpK (lpn F_Md_common n) (T_Md_common_0 v0J v2J σ)) 0 [(0, .long v0J), (2, .long v2J)] [] σ := by
  unfold T_Md_common_0
  refine x_lload_n C d_Md_common_0 0 rfl ?_
  refine x_lstore (lv' := [(4, .long v0J), (0, .long v0J), (2, .long v2J)]) C d_Md_common_1 (by decide) rfl ?_
  refine x_lload_n C d_Md_common_3 2 rfl ?_
  refine x_lstore (lv' := [(6, .long v2J), (4, .long v0J), (0, .long v0J), (2, .long v2J)]) C d_Md_common_4 (by decide) rfl ?_
  refine x_lv [1, 0] rfl ?_
  exact IH.2 v0J v2J (σ)
set_option maxRecDepth 20000 in
theorem s_Md_common_1 {G : GX} {p : Program} {l : Launch} {e : Env} {s : State} {m : MethodId} {args : Array Value} {below : List Frame} {meth : Method} {c : Code} {z0 u0 n : Nat} (C : Cx G p s m args meth c prog_14_method_78_code 10 "BellPlateModel" ((some FieldType.long))) (IH : I_Md_common G p l e s m args below meth c z0 u0 n) (v4J : Int64) (v6J : Int64) (σ : AM) : VX (QM eJ G args s below z0 u0) G p l e s m args below meth c 0 z0 u0 10 (lpK (lpn F_Md_common n) (T_Md_common_1 v4J v6J σ)) 6 [(4, .long v4J), (6, .long v6J)] [] σ := by
  unfold T_Md_common_1
  refine x_lload C d_Md_common_6 1 rfl ?_
  refine x_lconst (v := (0 : Int64)) C d_Md_common_8 (by decide) ?_
  refine x_lcmp C d_Md_common_9 ?_
  refine x_if_eq (tgt := 31) C d_Md_common_10 (by decide) (fun _ => ?_) (fun _ => ?_)
  · refine x_lload C d_Md_common_31 0 rfl ?_
    exact x_lret C d_Md_common_33
  · refine x_lload C d_Md_common_13 0 rfl ?_
    refine x_lload C d_Md_common_15 1 rfl ?_
    refine x_gd (fun h1 => ?_)
    refine x_lrem C d_Md_common_17 (nzJ_iff.mp h1) ?_
    refine x_letJ (fun x2 _ => ?_)
    refine x_lstore (lv' := [(8, .long x2), (4, .long v4J), (6, .long v6J)]) C d_Md_common_18 (by decide) rfl ?_
    refine x_lload C d_Md_common_20 2 rfl ?_
    refine x_lstore (lv' := [(4, .long v6J), (8, .long x2), (6, .long v6J)]) C d_Md_common_22 (by decide) rfl ?_
    refine x_lload C d_Md_common_24 1 rfl ?_
    refine x_lstore (lv' := [(6, .long x2), (4, .long v6J), (8, .long x2)]) C d_Md_common_26 (by decide) rfl ?_
    refine x_goto (tgt := 6) C d_Md_common_28 (by decide) ?_
    refine x_lv [1, 0] rfl ?_
    exact IH.2 v6J x2 (σ)
theorem i_Md_common {G : GX} {p : Program} {l : Launch} {e : Env} {s : State} {m : MethodId} {args : Array Value} {below : List Frame} {meth : Method} {c : Code} {z0 u0 : Nat} (C : Cx G p s m args meth c prog_14_method_78_code 10 "BellPlateModel" ((some FieldType.long))) (n : Nat) : I_Md_common G p l e s m args below meth c z0 u0 n := by
  induction n with
  | zero => exact ⟨fun _ _ _ => x_none, fun _ _ _ => x_none⟩
  | succ n IH => exact ⟨fun v0J v2J σ => s_Md_common_0 C IH v0J v2J σ, fun v4J v6J σ => s_Md_common_1 C IH v4J v6J σ⟩
theorem c_Md_common (G : GX) (l : Launch) (v0J : Int64) (v2J : Int64) (σ : AM) : CT eJ G l 0 y_Md_common prog_14_method_78_code 10 ((some FieldType.long)) [.long v0J, .long v2J] σ (M_Md_common v0J v2J σ) := by
  refine ct_of (by decide +kernel) (Nat.le_of_ble_eq_true rfl) (fun p e s m args below meth c C hin => ?_)
  refine x_lve (lv' := [(0, .long v0J), (2, .long v2J)]) rfl ?_
  intro r σ' h
  obtain ⟨n, hn⟩ := (lp_iff _ _ _).mp h
  exact (i_Md_common C n).1 v0J v2J σ r σ' hn
/-! BellPlateModel.lowest(JJI)I -/
abbrev y_Md_lowest : MethodName := ⟨"BellPlateModel", "lowest", "(JJI)I"⟩
theorem k_Md_lowest : y_Md_lowest.cls ≠ "java/lang/invoke/MethodHandle" ∧ y_Md_lowest.cls ≠ "java/lang/invoke/VarHandle" ∧ (parseMethodDescriptor y_Md_lowest.desc).map (fun d => d.parameters.length) = some 3 := by decide +kernel
theorem d_Md_lowest_0 : decode prog_14_method_79_code 0 = .ok (.lload_n 0, 1) := by decide +kernel
theorem d_Md_lowest_1 : decode prog_14_method_79_code 1 = .ok (.lload_n 2, 1) := by decide +kernel
theorem d_Md_lowest_2 : decode prog_14_method_79_code 2 = .ok (.invokestatic 449, 3) := by decide +kernel
theorem d_Md_lowest_5 : decode prog_14_method_79_code 5 = .ok (.lstore 5, 2) := by decide +kernel
theorem d_Md_lowest_7 : decode prog_14_method_79_code 7 = .ok (.iload 4, 2) := by decide +kernel
theorem d_Md_lowest_9 : decode prog_14_method_79_code 9 = .ok (.ifCond .ne 10, 3) := by decide +kernel
theorem d_Md_lowest_12 : decode prog_14_method_79_code 12 = .ok (.lload_n 0, 1) := by decide +kernel
theorem d_Md_lowest_13 : decode prog_14_method_79_code 13 = .ok (.lload 5, 2) := by decide +kernel
theorem d_Md_lowest_15 : decode prog_14_method_79_code 15 = .ok (.ldiv, 1) := by decide +kernel
theorem d_Md_lowest_16 : decode prog_14_method_79_code 16 = .ok (.goto 7, 3) := by decide +kernel
theorem d_Md_lowest_19 : decode prog_14_method_79_code 19 = .ok (.lload_n 2, 1) := by decide +kernel
theorem d_Md_lowest_20 : decode prog_14_method_79_code 20 = .ok (.lload 5, 2) := by decide +kernel
theorem d_Md_lowest_22 : decode prog_14_method_79_code 22 = .ok (.ldiv, 1) := by decide +kernel
theorem d_Md_lowest_23 : decode prog_14_method_79_code 23 = .ok (.l2i, 1) := by decide +kernel
theorem d_Md_lowest_24 : decode prog_14_method_79_code 24 = .ok (.ireturn, 1) := by decide +kernel
abbrev S_Md_lowest : Type := Nat × Int64 × Int64 × Int32 × Int64 × AM
noncomputable def T_Md_lowest_0 (v0J : Int64) (v2J : Int64) (v4I : Int32) (σ : AM) : S_Md_lowest ⊕ Option (Int32 × AM) :=
  bndT (M_Md_common v0J v2J σ) fun r1 σ2 => if v4I = 0 then (gdT (nzJ r1) <| .inl (1, 0, 0, 0, v0J / r1, σ2)) else (gdT (nzJ r1) <| .inl (1, 0, 0, 0, v2J / r1, σ2))
noncomputable def T_Md_lowest_1 (s0J : Int64) (σ : AM) : S_Md_lowest ⊕ Option (Int32 × AM) :=
  .inr (some ((s0J.toInt32), σ))
noncomputable def F_Md_lowest : S_Md_lowest → S_Md_lowest ⊕ Option (Int32 × AM) := fun s => match s.1 with
  | 0 => T_Md_lowest_0 (s.2.1) (s.2.2.1) (s.2.2.2.1) (s.2.2.2.2.2)
  | _ => T_Md_lowest_1 (s.2.2.2.2.1) (s.2.2.2.2.2)
noncomputable def L_Md_lowest_0 (v0J : Int64) (v2J : Int64) (v4I : Int32) (σ : AM) : Option (Int32 × AM) := lp F_Md_lowest (0, v0J, v2J, v4I, 0, σ)
noncomputable def L_Md_lowest_1 (s0J : Int64) (σ : AM) : Option (Int32 × AM) := lp F_Md_lowest (1, 0, 0, 0, s0J, σ)
set_option maxRecDepth 20000 in
theorem E_Md_lowest_0 (v0J : Int64) (v2J : Int64) (v4I : Int32) (σ : AM) : L_Md_lowest_0 v0J v2J v4I σ = (bnd (M_Md_common v0J v2J σ) fun r1 σ2 => if v4I = 0 then (gd (nzJ r1) <| L_Md_lowest_1 (v0J / r1) σ2) else (gd (nzJ r1) <| L_Md_lowest_1 (v2J / r1) σ2)) := by
  unfold L_Md_lowest_0
  rw [lp_eq]
  show lpK (lp F_Md_lowest) (T_Md_lowest_0 v0J v2J v4I σ) = _
  unfold T_Md_lowest_0
  simp only [lpK_ite, lq_inl, lq_inr, lpK_bnd, lpK_gd, lq_let]
  try rfl
set_option maxRecDepth 20000 in
theorem E_Md_lowest_1 (s0J : Int64) (σ : AM) : L_Md_lowest_1 s0J σ = ((some ((s0J.toInt32), σ))) := by
  unfold L_Md_lowest_1
  rw [lp_eq]
  show lpK (lp F_Md_lowest) (T_Md_lowest_1 s0J σ) = _
  unfold T_Md_lowest_1
  simp only [lpK_ite, lq_inl, lq_inr, lpK_bnd, lpK_gd, lq_let]
  try rfl
noncomputable def M_Md_lowest (v0J : Int64) (v2J : Int64) (v4I : Int32) (σ : AM) : Option (Int32 × AM) := mw σ (L_Md_lowest_0 v0J v2J v4I σ)
def I_Md_lowest (G : GX) (p : Program) (l : Launch) (e : Env) (s : State) (m : MethodId) (args : Array Value) (below : List Frame) (meth : Method) (c : Code) (z0 u0 n : Nat) : Prop :=
  (∀ (v0J : Int64) (v2J : Int64) (v4I : Int32) (σ : AM), VX (QM eI G args s below z0 u0) G p l e s m args below meth c 1 z0 u0 7 (lpn F_Md_lowest n (0, v0J, v2J, v4I, 0, σ)) 0 [(0, .long v0J), (2, .long v2J), (4, .int v4I)] [] σ) ∧
  (∀ (s0J : Int64) (σ : AM), VX (QM eI G args s below z0 u0) G p l e s m args below meth c 1 z0 u0 7 (lpn F_Md_lowest n (1, 0, 0, 0, s0J, σ)) 23 [] [.long s0J] σ)
set_option maxRecDepth 20000 in
theorem s_Md_lowest_0 {G : GX} {p : Program} {l : Launch} {e : Env} {s : State} {m : MethodId} {args : Array Value} {below : List Frame} {meth : Method} {c : Code} {z0 u0 n : Nat} (C : Cx G p s m args meth c prog_14_method_79_code 7 "BellPlateModel" ((some FieldType.int))) (IH : I_Md_lowest G p l e s m args below meth c z0 u0 n) (v0J : Int64) (v2J : Int64) (v4I : Int32) (σ : AM) : VX (QM eI G args s below z0 u0) G p l e s m args below meth c 1 z0 u0 7 (lpK (lpn F_Md_lowest n) (T_Md_lowest_0 v0J v2J v4I σ)) 0 [(0, .long v0J), (2, .long v2J), (4, .int v4I)] [] σ := by
  unfold T_Md_lowest_0
  refine x_lload_n C d_Md_lowest_0 0 rfl ?_
  refine x_lload_n C d_Md_lowest_1 1 rfl ?_
  refine x_callSJ (As := [.long v0J, .long v2J]) C (c_Md_common G l v0J v2J σ) w2334 w2333 w2335 w134 k_Md_common rfl (by decide) (by decide) rfl (Nat.le_of_ble_eq_true rfl) d_Md_lowest_2 (fun r1 σ2 => ?_)
  refine x_lstore (lv' := [(5, .long r1), (0, .long v0J), (2, .long v2J), (4, .int v4I)]) C d_Md_lowest_5 (by decide) rfl ?_
  refine x_iload C d_Md_lowest_7 3 rfl ?_
  refine x_if_ne (tgt := 19) C d_Md_lowest_9 (by decide) (fun _ => ?_) (fun _ => ?_)
  · refine x_lload_n C d_Md_lowest_12 1 rfl ?_
    refine x_lload C d_Md_lowest_13 0 rfl ?_
    refine x_gd (fun h3 => ?_)
    refine x_ldiv C d_Md_lowest_15 (nzJ_iff.mp h3) ?_
    refine x_goto (tgt := 23) C d_Md_lowest_16 (by decide) ?_
    refine x_lv [] rfl ?_
    exact IH.2 (v0J / r1) (σ2)
  · refine x_lload_n C d_Md_lowest_19 2 rfl ?_
    refine x_lload C d_Md_lowest_20 0 rfl ?_
    refine x_gd (fun h4 => ?_)
    refine x_ldiv C d_Md_lowest_22 (nzJ_iff.mp h4) ?_
    refine x_lv [] rfl ?_
    exact IH.2 (v2J / r1) (σ2)
set_option maxRecDepth 20000 in
theorem s_Md_lowest_1 {G : GX} {p : Program} {l : Launch} {e : Env} {s : State} {m : MethodId} {args : Array Value} {below : List Frame} {meth : Method} {c : Code} {z0 u0 n : Nat} (C : Cx G p s m args meth c prog_14_method_79_code 7 "BellPlateModel" ((some FieldType.int))) (IH : I_Md_lowest G p l e s m args below meth c z0 u0 n) (s0J : Int64) (σ : AM) : VX (QM eI G args s below z0 u0) G p l e s m args below meth c 1 z0 u0 7 (lpK (lpn F_Md_lowest n) (T_Md_lowest_1 s0J σ)) 23 [] [.long s0J] σ := by
  unfold T_Md_lowest_1
  refine x_l2i C d_Md_lowest_23 ?_
  exact x_iret C d_Md_lowest_24
theorem i_Md_lowest {G : GX} {p : Program} {l : Launch} {e : Env} {s : State} {m : MethodId} {args : Array Value} {below : List Frame} {meth : Method} {c : Code} {z0 u0 : Nat} (C : Cx G p s m args meth c prog_14_method_79_code 7 "BellPlateModel" ((some FieldType.int))) (n : Nat) : I_Md_lowest G p l e s m args below meth c z0 u0 n := by
  induction n with
  | zero => exact ⟨fun _ _ _ _ => x_none, fun _ _ => x_none⟩
  | succ n IH => exact ⟨fun v0J v2J v4I σ => s_Md_lowest_0 C IH v0J v2J v4I σ, fun s0J σ => s_Md_lowest_1 C IH s0J σ⟩
theorem c_Md_lowest (G : GX) (l : Launch) (v0J : Int64) (v2J : Int64) (v4I : Int32) (σ : AM) : CT eI G l 1 y_Md_lowest prog_14_method_79_code 7 ((some FieldType.int)) [.long v0J, .long v2J, .int v4I] σ (M_Md_lowest v0J v2J v4I σ) := by
  refine ct_of (by decide +kernel) (Nat.le_of_ble_eq_true rfl) (fun p e s m args below meth c C hin => ?_)
  refine x_lve (lv' := [(0, .long v0J), (2, .long v2J), (4, .int v4I)]) rfl ?_
  intro r σ' h
  obtain ⟨n, hn⟩ := (lp_iff _ _ _).mp h
  exact (i_Md_lowest C n).1 v0J v2J v4I σ r σ' hn
/-! BellPlateModel.isWhat(I)Z -/
abbrev y_Md_isWhat : MethodName := ⟨"BellPlateModel", "isWhat", "(I)Z"⟩
theorem k_Md_isWhat : y_Md_isWhat.cls ≠ "java/lang/invoke/MethodHandle" ∧ y_Md_isWhat.cls ≠ "java/lang/invoke/VarHandle" ∧ (parseMethodDescriptor y_Md_isWhat.desc).map (fun d => d.parameters.length) = some 1 := by decide +kernel
theorem d_Md_isWhat_0 : decode prog_14_method_80_code 0 = .ok (.iload_n 0, 1) := by decide +kernel
theorem d_Md_isWhat_1 : decode prog_14_method_80_code 1 = .ok (.iconst 0, 1) := by decide +kernel
theorem d_Md_isWhat_2 : decode prog_14_method_80_code 2 = .ok (.iconst 1, 1) := by decide +kernel
theorem d_Md_isWhat_3 : decode prog_14_method_80_code 3 = .ok (.invokestatic 350, 3) := by decide +kernel
theorem d_Md_isWhat_6 : decode prog_14_method_80_code 6 = .ok (.ireturn, 1) := by decide +kernel
abbrev S_Md_isWhat : Type := Nat × Int32 × AM
noncomputable def T_Md_isWhat_0 (v0I : Int32) (σ : AM) : S_Md_isWhat ⊕ Option (Int32 × AM) :=
  bndT (M_Md_within v0I (0 : Int32) (1 : Int32) σ) fun r1 σ2 => gdT (isB r1) <| .inr (some (r1, σ2))
noncomputable def F_Md_isWhat : S_Md_isWhat → S_Md_isWhat ⊕ Option (Int32 × AM) := fun s => match s.1 with
  | _ => T_Md_isWhat_0 (s.2.1) (s.2.2)
noncomputable def L_Md_isWhat_0 (v0I : Int32) (σ : AM) : Option (Int32 × AM) := lp F_Md_isWhat (0, v0I, σ)
set_option maxRecDepth 20000 in
theorem E_Md_isWhat_0 (v0I : Int32) (σ : AM) : L_Md_isWhat_0 v0I σ = (bnd (M_Md_within v0I (0 : Int32) (1 : Int32) σ) fun r1 σ2 => gd (isB r1) <| (some (r1, σ2))) := by
  unfold L_Md_isWhat_0
  rw [lp_eq]
  show lpK (lp F_Md_isWhat) (T_Md_isWhat_0 v0I σ) = _
  unfold T_Md_isWhat_0
  simp only [lpK_ite, lq_inl, lq_inr, lpK_bnd, lpK_gd, lq_let]
  try rfl
noncomputable def M_Md_isWhat (v0I : Int32) (σ : AM) : Option (Int32 × AM) := mw σ (L_Md_isWhat_0 v0I σ)
def I_Md_isWhat (G : GX) (p : Program) (l : Launch) (e : Env) (s : State) (m : MethodId) (args : Array Value) (below : List Frame) (meth : Method) (c : Code) (z0 u0 n : Nat) : Prop :=
  (∀ (v0I : Int32) (σ : AM), VX (QM eI G args s below z0 u0) G p l e s m args below meth c 1 z0 u0 1 (lpn F_Md_isWhat n (0, v0I, σ)) 0 [(0, .int v0I)] [] σ)
set_option maxRecDepth 20000 in
theorem s_Md_isWhat_0 {G : GX} {p : Program} {l : Launch} {e : Env} {s : State} {m : MethodId} {args : Array Value} {below : List Frame} {meth : Method} {c : Code} {z0 u0 n : Nat} (C : Cx G p s m args meth c prog_14_method_80_code 1 "BellPlateModel" ((some FieldType.boolean))) (IH : I_Md_isWhat G p l e s m args below meth c z0 u0 n) (v0I : Int32) (σ : AM) : VX (QM eI G args s below z0 u0) G p l e s m args below meth c 1 z0 u0 1 (lpK (lpn F_Md_isWhat n) (T_Md_isWhat_0 v0I σ)) 0 [(0, .int v0I)] [] σ := by
  unfold T_Md_isWhat_0
  refine x_iload_n C d_Md_isWhat_0 0 rfl ?_
  refine x_iconst (v := (0 : Int32)) C d_Md_isWhat_1 (by decide) ?_
  refine x_iconst (v := (1 : Int32)) C d_Md_isWhat_2 (by decide) ?_
  refine x_callSI (As := [.int v0I, .int (0 : Int32), .int (1 : Int32)]) C (c_Md_within G l v0I (0 : Int32) (1 : Int32) σ) w2205 w2204 w2206 w134 k_Md_within rfl (by decide) (by decide) rfl (Nat.le_of_ble_eq_true rfl) d_Md_isWhat_3 (fun r1 σ2 => ?_)
  refine x_gd (fun h3 => ?_)
  exact x_zret C (isB_narrow h3) d_Md_isWhat_6
theorem i_Md_isWhat {G : GX} {p : Program} {l : Launch} {e : Env} {s : State} {m : MethodId} {args : Array Value} {below : List Frame} {meth : Method} {c : Code} {z0 u0 : Nat} (C : Cx G p s m args meth c prog_14_method_80_code 1 "BellPlateModel" ((some FieldType.boolean))) (n : Nat) : I_Md_isWhat G p l e s m args below meth c z0 u0 n := by
  induction n with
  | zero => exact fun _ _ => x_none
  | succ n IH => exact fun v0I σ => s_Md_isWhat_0 C IH v0I σ
theorem c_Md_isWhat (G : GX) (l : Launch) (v0I : Int32) (σ : AM) : CT eI G l 1 y_Md_isWhat prog_14_method_80_code 1 ((some FieldType.boolean)) [.int v0I] σ (M_Md_isWhat v0I σ) := by
  refine ct_of (by decide +kernel) (Nat.le_of_ble_eq_true rfl) (fun p e s m args below meth c C hin => ?_)
  refine x_lve (lv' := [(0, .int v0I)]) rfl ?_
  intro r σ' h
  obtain ⟨n, hn⟩ := (lp_iff _ _ _).mp h
  exact (i_Md_isWhat C n) v0I σ r σ' hn
/-! BellPlateModel.mean(II)I -/
abbrev y_Md_mean : MethodName := ⟨"BellPlateModel", "mean", "(II)I"⟩
theorem k_Md_mean : y_Md_mean.cls ≠ "java/lang/invoke/MethodHandle" ∧ y_Md_mean.cls ≠ "java/lang/invoke/VarHandle" ∧ (parseMethodDescriptor y_Md_mean.desc).map (fun d => d.parameters.length) = some 2 := by decide +kernel
theorem d_Md_mean_0 : decode prog_14_method_81_code 0 = .ok (.aload_n 0, 1) := by decide +kernel
theorem d_Md_mean_1 : decode prog_14_method_81_code 1 = .ok (.iconst 0, 1) := by decide +kernel
theorem d_Md_mean_2 : decode prog_14_method_81_code 2 = .ok (.putfield 1, 3) := by decide +kernel
theorem d_Md_mean_5 : decode prog_14_method_81_code 5 = .ok (.iload_n 2, 1) := by decide +kernel
theorem d_Md_mean_6 : decode prog_14_method_81_code 6 = .ok (.invokestatic 453, 3) := by decide +kernel
theorem d_Md_mean_9 : decode prog_14_method_81_code 9 = .ok (.ifCond .eq 27, 3) := by decide +kernel
theorem d_Md_mean_12 : decode prog_14_method_81_code 12 = .ok (.aload_n 0, 1) := by decide +kernel
theorem d_Md_mean_13 : decode prog_14_method_81_code 13 = .ok (.iload_n 1, 1) := by decide +kernel
theorem d_Md_mean_14 : decode prog_14_method_81_code 14 = .ok (.invokevirtual 446, 3) := by decide +kernel
theorem d_Md_mean_17 : decode prog_14_method_81_code 17 = .ok (.ifCond .eq 19, 3) := by decide +kernel
theorem d_Md_mean_20 : decode prog_14_method_81_code 20 = .ok (.aload_n 0, 1) := by decide +kernel
theorem d_Md_mean_21 : decode prog_14_method_81_code 21 = .ok (.getfield 439, 3) := by decide +kernel
theorem d_Md_mean_24 : decode prog_14_method_81_code 24 = .ok (.aload_n 0, 1) := by decide +kernel
theorem d_Md_mean_25 : decode prog_14_method_81_code 25 = .ok (.getfield 375, 3) := by decide +kernel
theorem d_Md_mean_28 : decode prog_14_method_81_code 28 = .ok (.i2l, 1) := by decide +kernel
theorem d_Md_mean_29 : decode prog_14_method_81_code 29 = .ok (.iload_n 2, 1) := by decide +kernel
theorem d_Md_mean_30 : decode prog_14_method_81_code 30 = .ok (.invokestatic 456, 3) := by decide +kernel
theorem d_Md_mean_33 : decode prog_14_method_81_code 33 = .ok (.goto 4, 3) := by decide +kernel
theorem d_Md_mean_36 : decode prog_14_method_81_code 36 = .ok (.iconst (-1), 1) := by decide +kernel
theorem d_Md_mean_37 : decode prog_14_method_81_code 37 = .ok (.ireturn, 1) := by decide +kernel
abbrev S_Md_mean : Type := Nat × Nat × Int32 × Int32 × Int32 × AM
noncomputable def T_Md_mean_0 (v0R : Nat) (v1I : Int32) (v2I : Int32) (σ : AM) : S_Md_mean ⊕ Option (Int32 × AM) :=
  gdT (okO σ v0R 12) <| letT (sI σ v0R 0 (0 : Int32)) fun σ2 => bndT (M_Md_isWhat v2I σ2) fun r4 σ5 => if r4 = 0 then (.inl (1, 0, 0, 0, 0, σ5)) else (gdT (okO σ5 v0R 12) <| bndT (M_Md_findRuns v0R v1I σ5) fun r6 σ7 => if r6 = 0 then (.inl (1, 0, 0, 0, 0, σ7)) else (gdT (okO σ7 v0R 12) <| bndT (M_Md_lowest (aL σ7 v0R 51) ((aI σ7 v0R 47).toInt64) v2I σ7) fun r10 σ11 => .inl (2, 0, 0, 0, r10, σ11)))
noncomputable def T_Md_mean_1  (σ : AM) : S_Md_mean ⊕ Option (Int32 × AM) :=
  .inl (2, 0, 0, 0, ((-1) : Int32), σ)
noncomputable def T_Md_mean_2 (s0I : Int32) (σ : AM) : S_Md_mean ⊕ Option (Int32 × AM) :=
  .inr (some (s0I, σ))
noncomputable def F_Md_mean : S_Md_mean → S_Md_mean ⊕ Option (Int32 × AM) := fun s => match s.1 with
  | 0 => T_Md_mean_0 (s.2.1) (s.2.2.1) (s.2.2.2.1) (s.2.2.2.2.2)
  | 1 => T_Md_mean_1  (s.2.2.2.2.2)
  | _ => T_Md_mean_2 (s.2.2.2.2.1) (s.2.2.2.2.2)
noncomputable def L_Md_mean_0 (v0R : Nat) (v1I : Int32) (v2I : Int32) (σ : AM) : Option (Int32 × AM) := lp F_Md_mean (0, v0R, v1I, v2I, 0, σ)
noncomputable def L_Md_mean_1  (σ : AM) : Option (Int32 × AM) := lp F_Md_mean (1, 0, 0, 0, 0, σ)
noncomputable def L_Md_mean_2 (s0I : Int32) (σ : AM) : Option (Int32 × AM) := lp F_Md_mean (2, 0, 0, 0, s0I, σ)
set_option maxRecDepth 20000 in
theorem E_Md_mean_0 (v0R : Nat) (v1I : Int32) (v2I : Int32) (σ : AM) : L_Md_mean_0 v0R v1I v2I σ = (gd (okO σ v0R 12) <| letT (sI σ v0R 0 (0 : Int32)) fun σ2 => bnd (M_Md_isWhat v2I σ2) fun r4 σ5 => if r4 = 0 then (L_Md_mean_1 σ5) else (gd (okO σ5 v0R 12) <| bnd (M_Md_findRuns v0R v1I σ5) fun r6 σ7 => if r6 = 0 then (L_Md_mean_1 σ7) else (gd (okO σ7 v0R 12) <| bnd (M_Md_lowest (aL σ7 v0R 51) ((aI σ7 v0R 47).toInt64) v2I σ7) fun r10 σ11 => L_Md_mean_2 r10 σ11))) := by
  unfold L_Md_mean_0
  rw [lp_eq]
  show lpK (lp F_Md_mean) (T_Md_mean_0 v0R v1I v2I σ) = _
  unfold T_Md_mean_0
  simp only [lpK_ite, lq_inl, lq_inr, lpK_bnd, lpK_gd, lq_let]
  try rfl
set_option maxRecDepth 20000 in
theorem E_Md_mean_1  (σ : AM) : L_Md_mean_1  σ = (L_Md_mean_2 (((-1) : Int32)) σ) := by
  unfold L_Md_mean_1
  rw [lp_eq]
  show lpK (lp F_Md_mean) (T_Md_mean_1  σ) = _
  unfold T_Md_mean_1
  simp only [lpK_ite, lq_inl, lq_inr, lpK_bnd, lpK_gd, lq_let]
  try rfl
set_option maxRecDepth 20000 in
theorem E_Md_mean_2 (s0I : Int32) (σ : AM) : L_Md_mean_2 s0I σ = ((some (s0I, σ))) := by
  unfold L_Md_mean_2
  rw [lp_eq]
  show lpK (lp F_Md_mean) (T_Md_mean_2 s0I σ) = _
  unfold T_Md_mean_2
  simp only [lpK_ite, lq_inl, lq_inr, lpK_bnd, lpK_gd, lq_let]
  try rfl
noncomputable def M_Md_mean (v0R : Nat) (v1I : Int32) (v2I : Int32) (σ : AM) : Option (Int32 × AM) := mw σ (L_Md_mean_0 v0R v1I v2I σ)
def I_Md_mean (G : GX) (p : Program) (l : Launch) (e : Env) (s : State) (m : MethodId) (args : Array Value) (below : List Frame) (meth : Method) (c : Code) (z0 u0 n : Nat) : Prop :=
  (∀ (v0R : Nat) (v1I : Int32) (v2I : Int32) (σ : AM), VX (QM eI G args s below z0 u0) G p l e s m args below meth c 84 z0 u0 3 (lpn F_Md_mean n (0, v0R, v1I, v2I, 0, σ)) 0 [(0, .ref v0R), (1, .int v1I), (2, .int v2I)] [] σ) ∧
  (∀ (σ : AM), VX (QM eI G args s below z0 u0) G p l e s m args below meth c 84 z0 u0 3 (lpn F_Md_mean n (1, 0, 0, 0, 0, σ)) 36 [] [] σ) ∧
  (∀ (s0I : Int32) (σ : AM), VX (QM eI G args s below z0 u0) G p l e s m args below meth c 84 z0 u0 3 (lpn F_Md_mean n (2, 0, 0, 0, s0I, σ)) 37 [] [.int s0I] σ)
set_option maxRecDepth 20000 in
theorem s_Md_mean_0 {G : GX} {p : Program} {l : Launch} {e : Env} {s : State} {m : MethodId} {args : Array Value} {below : List Frame} {meth : Method} {c : Code} {z0 u0 n : Nat} (C : Cx G p s m args meth c prog_14_method_81_code 3 "BellPlateModel" ((some FieldType.int))) (IH : I_Md_mean G p l e s m args below meth c z0 u0 n) (v0R : Nat) (v1I : Int32) (v2I : Int32) (σ : AM) : VX (QM eI G args s below z0 u0) G p l e s m args below meth c 84 z0 u0 3 (lpK (lpn F_Md_mean n) (T_Md_mean_0 v0R v1I v2I σ)) 0 [(0, .ref v0R), (1, .int v1I), (2, .int v2I)] [] σ := by
  unfold T_Md_mean_0
  refine x_aload_n C d_Md_mean_0 0 rfl ?_
  refine x_iconst (v := (0 : Int32)) C d_Md_mean_1 (by decide) ?_
  refine x_gd (fun h1 => ?_)
  refine x_putI (k := 0) C (okO_iff.mp h1) rfl j11_ok y11_ok n11_ok (by decide) rfl rfl rfl rfl w1852 d_Md_mean_2 ?_
  refine x_letS (fun σ2 e3 => ?_)
  refine x_iload_n C d_Md_mean_5 2 rfl ?_
  refine x_callSI (As := [.int v2I]) C (c_Md_isWhat G l v2I σ2) w2328 w2327 w2329 w134 k_Md_isWhat rfl (by decide) (by decide) rfl (Nat.le_of_ble_eq_true rfl) d_Md_mean_6 (fun r4 σ5 => ?_)
  refine x_if_eq (tgt := 36) C d_Md_mean_9 (by decide) (fun _ => ?_) (fun _ => ?_)
  · refine x_lv [] rfl ?_
    exact IH.2.1  (σ5)
  · refine x_aload_n C d_Md_mean_12 0 rfl ?_
    refine x_iload_n C d_Md_mean_13 1 rfl ?_
    refine x_gd (fun h8 => ?_)
    refine x_callVI (As := [.int v1I]) C (c_Md_findRuns G l v0R v1I σ5) (okO_iff.mp h8) rfl w2317 w101 w2315 w2318 w134 k_Md_findRuns rfl (by decide) (by decide) rfl (Nat.le_of_ble_eq_true rfl) d_Md_mean_14 (fun r6 σ7 => ?_)
    refine x_if_eq (tgt := 36) C d_Md_mean_17 (by decide) (fun _ => ?_) (fun _ => ?_)
    · refine x_lv [] rfl ?_
      exact IH.2.1  (σ7)
    · refine x_aload_n C d_Md_mean_20 0 rfl ?_
      refine x_gd (fun h9 => ?_)
      refine x_getJ (k := 51) C (okO_iff.mp h9) rfl j11_ok (by decide) rfl w1903 d_Md_mean_21 ?_
      refine x_aload_n C d_Md_mean_24 0 rfl ?_
      refine x_getI (k := 47) C (okO_iff.mp h9) rfl j11_ok (by decide) rfl w1899 d_Md_mean_25 ?_
      refine x_i2l C d_Md_mean_28 ?_
      refine x_iload_n C d_Md_mean_29 2 rfl ?_
      refine x_callSI (As := [.long (aL σ7 v0R 51), .long ((aI σ7 v0R 47).toInt64), .int v2I]) C (c_Md_lowest G l (aL σ7 v0R 51) ((aI σ7 v0R 47).toInt64) v2I σ7) w2331 w2330 w2332 w134 k_Md_lowest rfl (by decide) (by decide) rfl (Nat.le_of_ble_eq_true rfl) d_Md_mean_30 (fun r10 σ11 => ?_)
      refine x_goto (tgt := 37) C d_Md_mean_33 (by decide) ?_
      refine x_lv [] rfl ?_
      exact IH.2.2 r10 (σ11)
set_option maxRecDepth 20000 in
theorem s_Md_mean_1 {G : GX} {p : Program} {l : Launch} {e : Env} {s : State} {m : MethodId} {args : Array Value} {below : List Frame} {meth : Method} {c : Code} {z0 u0 n : Nat} (C : Cx G p s m args meth c prog_14_method_81_code 3 "BellPlateModel" ((some FieldType.int))) (IH : I_Md_mean G p l e s m args below meth c z0 u0 n)  (σ : AM) : VX (QM eI G args s below z0 u0) G p l e s m args below meth c 84 z0 u0 3 (lpK (lpn F_Md_mean n) (T_Md_mean_1  σ)) 36 [] [] σ := by
  unfold T_Md_mean_1
  refine x_iconst (v := ((-1) : Int32)) C d_Md_mean_36 (by decide) ?_
  exact IH.2.2 (((-1) : Int32)) (σ)
set_option maxRecDepth 20000 in
theorem s_Md_mean_2 {G : GX} {p : Program} {l : Launch} {e : Env} {s : State} {m : MethodId} {args : Array Value} {below : List Frame} {meth : Method} {c : Code} {z0 u0 n : Nat} (C : Cx G p s m args meth c prog_14_method_81_code 3 "BellPlateModel" ((some FieldType.int))) (IH : I_Md_mean G p l e s m args below meth c z0 u0 n) (s0I : Int32) (σ : AM) : VX (QM eI G args s below z0 u0) G p l e s m args below meth c 84 z0 u0 3 (lpK (lpn F_Md_mean n) (T_Md_mean_2 s0I σ)) 37 [] [.int s0I] σ := by
  unfold T_Md_mean_2
  exact x_iret C d_Md_mean_37
theorem i_Md_mean {G : GX} {p : Program} {l : Launch} {e : Env} {s : State} {m : MethodId} {args : Array Value} {below : List Frame} {meth : Method} {c : Code} {z0 u0 : Nat} (C : Cx G p s m args meth c prog_14_method_81_code 3 "BellPlateModel" ((some FieldType.int))) (n : Nat) : I_Md_mean G p l e s m args below meth c z0 u0 n := by
  induction n with
  | zero => exact ⟨fun _ _ _ _ => x_none, fun _ => x_none, fun _ _ => x_none⟩
  | succ n IH => exact ⟨fun v0R v1I v2I σ => s_Md_mean_0 C IH v0R v1I v2I σ, fun σ => s_Md_mean_1 C IH σ, fun s0I σ => s_Md_mean_2 C IH s0I σ⟩
theorem c_Md_mean (G : GX) (l : Launch) (v0R : Nat) (v1I : Int32) (v2I : Int32) (σ : AM) : CT eI G l 84 y_Md_mean prog_14_method_81_code 3 ((some FieldType.int)) [.ref v0R, .int v1I, .int v2I] σ (M_Md_mean v0R v1I v2I σ) := by
  refine ct_of (by decide +kernel) (Nat.le_of_ble_eq_true rfl) (fun p e s m args below meth c C hin => ?_)
  refine x_lve (lv' := [(0, .ref v0R), (1, .int v1I), (2, .int v2I)]) rfl ?_
  intro r σ' h
  obtain ⟨n, hn⟩ := (lp_iff _ _ _).mp h
  exact (i_Md_mean C n).1 v0R v1I v2I σ r σ' hn
abbrev GT_Md_by_Md_fewestBy : Type := (Nat → Int32 → Int32 → AM → Option (Int32 × AM)) × (Nat → Int32 → AM → Option (Int32 × AM))
/-! BellPlateModel.by(II)I -/
abbrev y_Md_by : MethodName := ⟨"BellPlateModel", "by", "(II)I"⟩
theorem k_Md_by : y_Md_by.cls ≠ "java/lang/invoke/MethodHandle" ∧ y_Md_by.cls ≠ "java/lang/invoke/VarHandle" ∧ (parseMethodDescriptor y_Md_by.desc).map (fun d => d.parameters.length) = some 2 := by decide +kernel
theorem d_Md_by_0 : decode prog_14_method_83_code 0 = .ok (.iload_n 1, 1) := by decide +kernel
theorem d_Md_by_1 : decode prog_14_method_83_code 1 = .ok (.aload_n 0, 1) := by decide +kernel
theorem d_Md_by_2 : decode prog_14_method_83_code 2 = .ok (.getfield 134, 3) := by decide +kernel
theorem d_Md_by_5 : decode prog_14_method_83_code 5 = .ok (.iload_n 2, 1) := by decide +kernel
theorem d_Md_by_6 : decode prog_14_method_83_code 6 = .ok (.iaload, 1) := by decide +kernel
theorem d_Md_by_7 : decode prog_14_method_83_code 7 = .ok (.iand, 1) := by decide +kernel
theorem d_Md_by_8 : decode prog_14_method_83_code 8 = .ok (.istore_n 3, 1) := by decide +kernel
theorem d_Md_by_9 : decode prog_14_method_83_code 9 = .ok (.iload_n 1, 1) := by decide +kernel
theorem d_Md_by_10 : decode prog_14_method_83_code 10 = .ok (.aload_n 0, 1) := by decide +kernel
theorem d_Md_by_11 : decode prog_14_method_83_code 11 = .ok (.getfield 134, 3) := by decide +kernel
theorem d_Md_by_14 : decode prog_14_method_83_code 14 = .ok (.iload_n 2, 1) := by decide +kernel
theorem d_Md_by_15 : decode prog_14_method_83_code 15 = .ok (.iaload, 1) := by decide +kernel
theorem d_Md_by_16 : decode prog_14_method_83_code 16 = .ok (.iconst (-1), 1) := by decide +kernel
theorem d_Md_by_17 : decode prog_14_method_83_code 17 = .ok (.ixor, 1) := by decide +kernel
theorem d_Md_by_18 : decode prog_14_method_83_code 18 = .ok (.iand, 1) := by decide +kernel
theorem d_Md_by_19 : decode prog_14_method_83_code 19 = .ok (.istore 4, 2) := by decide +kernel
theorem d_Md_by_21 : decode prog_14_method_83_code 21 = .ok (.iload_n 3, 1) := by decide +kernel
theorem d_Md_by_22 : decode prog_14_method_83_code 22 = .ok (.ifCond .eq 8, 3) := by decide +kernel
theorem d_Md_by_25 : decode prog_14_method_83_code 25 = .ok (.iload 4, 2) := by decide +kernel
theorem d_Md_by_27 : decode prog_14_method_83_code 27 = .ok (.ifCond .ne 6, 3) := by decide +kernel
theorem d_Md_by_30 : decode prog_14_method_83_code 30 = .ok (.bipush 99, 2) := by decide +kernel
theorem d_Md_by_32 : decode prog_14_method_83_code 32 = .ok (.ireturn, 1) := by decide +kernel
theorem d_Md_by_33 : decode prog_14_method_83_code 33 = .ok (.aload_n 0, 1) := by decide +kernel
theorem d_Md_by_34 : decode prog_14_method_83_code 34 = .ok (.iload_n 3, 1) := by decide +kernel
theorem d_Md_by_35 : decode prog_14_method_83_code 35 = .ok (.invokevirtual 463, 3) := by decide +kernel
theorem d_Md_by_38 : decode prog_14_method_83_code 38 = .ok (.istore 5, 2) := by decide +kernel
theorem d_Md_by_40 : decode prog_14_method_83_code 40 = .ok (.aload_n 0, 1) := by decide +kernel
theorem d_Md_by_41 : decode prog_14_method_83_code 41 = .ok (.iload 4, 2) := by decide +kernel
theorem d_Md_by_43 : decode prog_14_method_83_code 43 = .ok (.invokevirtual 463, 3) := by decide +kernel
theorem d_Md_by_46 : decode prog_14_method_83_code 46 = .ok (.istore 6, 2) := by decide +kernel
theorem d_Md_by_48 : decode prog_14_method_83_code 48 = .ok (.iconst 1, 1) := by decide +kernel
theorem d_Md_by_49 : decode prog_14_method_83_code 49 = .ok (.iload 5, 2) := by decide +kernel
theorem d_Md_by_51 : decode prog_14_method_83_code 51 = .ok (.iload 6, 2) := by decide +kernel
theorem d_Md_by_53 : decode prog_14_method_83_code 53 = .ok (.if_icmp .le 8, 3) := by decide +kernel
theorem d_Md_by_56 : decode prog_14_method_83_code 56 = .ok (.iload 5, 2) := by decide +kernel
theorem d_Md_by_58 : decode prog_14_method_83_code 58 = .ok (.goto 5, 3) := by decide +kernel
theorem d_Md_by_61 : decode prog_14_method_83_code 61 = .ok (.iload 6, 2) := by decide +kernel
theorem d_Md_by_63 : decode prog_14_method_83_code 63 = .ok (.iadd, 1) := by decide +kernel
theorem d_Md_by_64 : decode prog_14_method_83_code 64 = .ok (.ireturn, 1) := by decide +kernel
/-! BellPlateModel.fewestBy(I)I -/
abbrev y_Md_fewestBy : MethodName := ⟨"BellPlateModel", "fewestBy", "(I)I"⟩
theorem k_Md_fewestBy : y_Md_fewestBy.cls ≠ "java/lang/invoke/MethodHandle" ∧ y_Md_fewestBy.cls ≠ "java/lang/invoke/VarHandle" ∧ (parseMethodDescriptor y_Md_fewestBy.desc).map (fun d => d.parameters.length) = some 1 := by decide +kernel
theorem d_Md_fewestBy_0 : decode prog_14_method_82_code 0 = .ok (.aload_n 0, 1) := by decide +kernel
theorem d_Md_fewestBy_1 : decode prog_14_method_82_code 1 = .ok (.getfield 137, 3) := by decide +kernel
theorem d_Md_fewestBy_4 : decode prog_14_method_82_code 4 = .ok (.iload_n 1, 1) := by decide +kernel
theorem d_Md_fewestBy_5 : decode prog_14_method_82_code 5 = .ok (.iaload, 1) := by decide +kernel
theorem d_Md_fewestBy_6 : decode prog_14_method_82_code 6 = .ok (.ifCond .lt 10, 3) := by decide +kernel
theorem d_Md_fewestBy_9 : decode prog_14_method_82_code 9 = .ok (.aload_n 0, 1) := by decide +kernel
theorem d_Md_fewestBy_10 : decode prog_14_method_82_code 10 = .ok (.getfield 137, 3) := by decide +kernel
theorem d_Md_fewestBy_13 : decode prog_14_method_82_code 13 = .ok (.iload_n 1, 1) := by decide +kernel
theorem d_Md_fewestBy_14 : decode prog_14_method_82_code 14 = .ok (.iaload, 1) := by decide +kernel
theorem d_Md_fewestBy_15 : decode prog_14_method_82_code 15 = .ok (.ireturn, 1) := by decide +kernel
theorem d_Md_fewestBy_16 : decode prog_14_method_82_code 16 = .ok (.iconst (-1), 1) := by decide +kernel
theorem d_Md_fewestBy_17 : decode prog_14_method_82_code 17 = .ok (.istore_n 2, 1) := by decide +kernel
theorem d_Md_fewestBy_18 : decode prog_14_method_82_code 18 = .ok (.iconst 1, 1) := by decide +kernel
theorem d_Md_fewestBy_19 : decode prog_14_method_82_code 19 = .ok (.istore_n 3, 1) := by decide +kernel
theorem d_Md_fewestBy_20 : decode prog_14_method_82_code 20 = .ok (.iconst 0, 1) := by decide +kernel
theorem d_Md_fewestBy_21 : decode prog_14_method_82_code 21 = .ok (.istore 4, 2) := by decide +kernel
theorem d_Md_fewestBy_23 : decode prog_14_method_82_code 23 = .ok (.iload 4, 2) := by decide +kernel
theorem d_Md_fewestBy_25 : decode prog_14_method_82_code 25 = .ok (.aload_n 0, 1) := by decide +kernel
theorem d_Md_fewestBy_26 : decode prog_14_method_82_code 26 = .ok (.getfield 372, 3) := by decide +kernel
theorem d_Md_fewestBy_29 : decode prog_14_method_82_code 29 = .ok (.if_icmp .ge 56, 3) := by decide +kernel
theorem d_Md_fewestBy_32 : decode prog_14_method_82_code 32 = .ok (.iload_n 1, 1) := by decide +kernel
theorem d_Md_fewestBy_33 : decode prog_14_method_82_code 33 = .ok (.iload 4, 2) := by decide +kernel
theorem d_Md_fewestBy_35 : decode prog_14_method_82_code 35 = .ok (.ishr, 1) := by decide +kernel
theorem d_Md_fewestBy_36 : decode prog_14_method_82_code 36 = .ok (.iconst 1, 1) := by decide +kernel
theorem d_Md_fewestBy_37 : decode prog_14_method_82_code 37 = .ok (.iand, 1) := by decide +kernel
theorem d_Md_fewestBy_38 : decode prog_14_method_82_code 38 = .ok (.iconst 1, 1) := by decide +kernel
theorem d_Md_fewestBy_39 : decode prog_14_method_82_code 39 = .ok (.if_icmp .ne 40, 3) := by decide +kernel
theorem d_Md_fewestBy_42 : decode prog_14_method_82_code 42 = .ok (.iload_n 2, 1) := by decide +kernel
theorem d_Md_fewestBy_43 : decode prog_14_method_82_code 43 = .ok (.ifCond .ge 8, 3) := by decide +kernel
theorem d_Md_fewestBy_46 : decode prog_14_method_82_code 46 = .ok (.iload 4, 2) := by decide +kernel
theorem d_Md_fewestBy_48 : decode prog_14_method_82_code 48 = .ok (.goto 4, 3) := by decide +kernel
theorem d_Md_fewestBy_51 : decode prog_14_method_82_code 51 = .ok (.iload_n 2, 1) := by decide +kernel
theorem d_Md_fewestBy_52 : decode prog_14_method_82_code 52 = .ok (.istore_n 2, 1) := by decide +kernel
theorem d_Md_fewestBy_53 : decode prog_14_method_82_code 53 = .ok (.iload_n 3, 1) := by decide +kernel
theorem d_Md_fewestBy_54 : decode prog_14_method_82_code 54 = .ok (.ifCond .eq 23, 3) := by decide +kernel
theorem d_Md_fewestBy_57 : decode prog_14_method_82_code 57 = .ok (.aload_n 0, 1) := by decide +kernel
theorem d_Md_fewestBy_58 : decode prog_14_method_82_code 58 = .ok (.getfield 131, 3) := by decide +kernel
theorem d_Md_fewestBy_61 : decode prog_14_method_82_code 61 = .ok (.iload 4, 2) := by decide +kernel
theorem d_Md_fewestBy_63 : decode prog_14_method_82_code 63 = .ok (.iaload, 1) := by decide +kernel
theorem d_Md_fewestBy_64 : decode prog_14_method_82_code 64 = .ok (.aload_n 0, 1) := by decide +kernel
theorem d_Md_fewestBy_65 : decode prog_14_method_82_code 65 = .ok (.getfield 131, 3) := by decide +kernel
theorem d_Md_fewestBy_68 : decode prog_14_method_82_code 68 = .ok (.iload_n 2, 1) := by decide +kernel
theorem d_Md_fewestBy_69 : decode prog_14_method_82_code 69 = .ok (.iaload, 1) := by decide +kernel
theorem d_Md_fewestBy_70 : decode prog_14_method_82_code 70 = .ok (.if_icmp .ne 7, 3) := by decide +kernel
theorem d_Md_fewestBy_73 : decode prog_14_method_82_code 73 = .ok (.iconst 1, 1) := by decide +kernel
theorem d_Md_fewestBy_74 : decode prog_14_method_82_code 74 = .ok (.goto 4, 3) := by decide +kernel
theorem d_Md_fewestBy_77 : decode prog_14_method_82_code 77 = .ok (.iconst 0, 1) := by decide +kernel
theorem d_Md_fewestBy_78 : decode prog_14_method_82_code 78 = .ok (.istore_n 3, 1) := by decide +kernel
theorem d_Md_fewestBy_79 : decode prog_14_method_82_code 79 = .ok (.iinc 4 1, 3) := by decide +kernel
theorem d_Md_fewestBy_82 : decode prog_14_method_82_code 82 = .ok (.goto (-59), 3) := by decide +kernel
theorem d_Md_fewestBy_85 : decode prog_14_method_82_code 85 = .ok (.iload_n 3, 1) := by decide +kernel
theorem d_Md_fewestBy_86 : decode prog_14_method_82_code 86 = .ok (.ifCond .eq 7, 3) := by decide +kernel
theorem d_Md_fewestBy_89 : decode prog_14_method_82_code 89 = .ok (.iconst 0, 1) := by decide +kernel
theorem d_Md_fewestBy_90 : decode prog_14_method_82_code 90 = .ok (.goto 5, 3) := by decide +kernel
theorem d_Md_fewestBy_93 : decode prog_14_method_82_code 93 = .ok (.bipush 99, 2) := by decide +kernel
theorem d_Md_fewestBy_95 : decode prog_14_method_82_code 95 = .ok (.istore 4, 2) := by decide +kernel
theorem d_Md_fewestBy_97 : decode prog_14_method_82_code 97 = .ok (.iconst 0, 1) := by decide +kernel
theorem d_Md_fewestBy_98 : decode prog_14_method_82_code 98 = .ok (.istore 5, 2) := by decide +kernel
theorem d_Md_fewestBy_100 : decode prog_14_method_82_code 100 = .ok (.iload 5, 2) := by decide +kernel
theorem d_Md_fewestBy_102 : decode prog_14_method_82_code 102 = .ok (.aload_n 0, 1) := by decide +kernel
theorem d_Md_fewestBy_103 : decode prog_14_method_82_code 103 = .ok (.invokevirtual 306, 3) := by decide +kernel
theorem d_Md_fewestBy_106 : decode prog_14_method_82_code 106 = .ok (.if_icmp .ge 38, 3) := by decide +kernel
theorem d_Md_fewestBy_109 : decode prog_14_method_82_code 109 = .ok (.iload_n 3, 1) := by decide +kernel
theorem d_Md_fewestBy_110 : decode prog_14_method_82_code 110 = .ok (.ifCond .ne 34, 3) := by decide +kernel
theorem d_Md_fewestBy_113 : decode prog_14_method_82_code 113 = .ok (.aload_n 0, 1) := by decide +kernel
theorem d_Md_fewestBy_114 : decode prog_14_method_82_code 114 = .ok (.iload_n 1, 1) := by decide +kernel
theorem d_Md_fewestBy_115 : decode prog_14_method_82_code 115 = .ok (.iload 5, 2) := by decide +kernel
theorem d_Md_fewestBy_117 : decode prog_14_method_82_code 117 = .ok (.invokevirtual 460, 3) := by decide +kernel
theorem d_Md_fewestBy_120 : decode prog_14_method_82_code 120 = .ok (.istore 6, 2) := by decide +kernel
theorem d_Md_fewestBy_122 : decode prog_14_method_82_code 122 = .ok (.iload 6, 2) := by decide +kernel
theorem d_Md_fewestBy_124 : decode prog_14_method_82_code 124 = .ok (.iload 4, 2) := by decide +kernel
theorem d_Md_fewestBy_126 : decode prog_14_method_82_code 126 = .ok (.if_icmp .ge 8, 3) := by decide +kernel
theorem d_Md_fewestBy_129 : decode prog_14_method_82_code 129 = .ok (.iload 6, 2) := by decide +kernel
theorem d_Md_fewestBy_131 : decode prog_14_method_82_code 131 = .ok (.goto 5, 3) := by decide +kernel
theorem d_Md_fewestBy_134 : decode prog_14_method_82_code 134 = .ok (.iload 4, 2) := by decide +kernel
theorem d_Md_fewestBy_136 : decode prog_14_method_82_code 136 = .ok (.istore 4, 2) := by decide +kernel
theorem d_Md_fewestBy_138 : decode prog_14_method_82_code 138 = .ok (.iinc 5 1, 3) := by decide +kernel
theorem d_Md_fewestBy_141 : decode prog_14_method_82_code 141 = .ok (.goto (-41), 3) := by decide +kernel
theorem d_Md_fewestBy_144 : decode prog_14_method_82_code 144 = .ok (.aload_n 0, 1) := by decide +kernel
theorem d_Md_fewestBy_145 : decode prog_14_method_82_code 145 = .ok (.getfield 137, 3) := by decide +kernel
theorem d_Md_fewestBy_148 : decode prog_14_method_82_code 148 = .ok (.iload_n 1, 1) := by decide +kernel
theorem d_Md_fewestBy_149 : decode prog_14_method_82_code 149 = .ok (.iload 4, 2) := by decide +kernel
theorem d_Md_fewestBy_151 : decode prog_14_method_82_code 151 = .ok (.iastore, 1) := by decide +kernel
theorem d_Md_fewestBy_152 : decode prog_14_method_82_code 152 = .ok (.iload 4, 2) := by decide +kernel
theorem d_Md_fewestBy_154 : decode prog_14_method_82_code 154 = .ok (.ireturn, 1) := by decide +kernel
def H_Md_by_Md_fewestBy (G : GX) (l : Launch) (n0 : Nat) (rec : GT_Md_by_Md_fewestBy) : Prop := (∀ (v0R : Nat) (v1I : Int32) (v2I : Int32) (σ : AM), CT eI G l (1 + n0) y_Md_by prog_14_method_83_code 7 ((some FieldType.int)) [.ref v0R, .int v1I, .int v2I] σ (rec.1 v0R v1I v2I σ)) ∧ (∀ (v0R : Nat) (v1I : Int32) (σ : AM), CT eI G l (1 + n0) y_Md_fewestBy prog_14_method_82_code 7 ((some FieldType.int)) [.ref v0R, .int v1I] σ (rec.2 v0R v1I σ))
abbrev S_Md_by : Type := Nat × Nat × Int32 × Int32 × Int32 × Int32 × AM
noncomputable def T_Md_by_0 (rec : GT_Md_by_Md_fewestBy) (v0R : Nat) (v1I : Int32) (v2I : Int32) (σ : AM) : S_Md_by ⊕ Option (Int32 × AM) :=
  gdT (okO σ v0R 12) <| gdT (okO σ (aR σ v0R 58) 101) <| gdT (inB v2I (aN σ (aR σ v0R 58))) <| letT (v1I &&& (aI σ (aR σ v0R 58) v2I.toNatClampNeg)) fun x4 => letT (v1I &&& ((aI σ (aR σ v0R 58) v2I.toNatClampNeg) ^^^ ((-1) : Int32))) fun x5 => if x4 = 0 then (.inl (1, 0, 0, 0, 0, 0, σ)) else (if x5 = 0 then (.inl (1, 0, 0, 0, 0, 0, σ)) else (bndT (rec.2 v0R x4 σ) fun r6 σ7 => gdT (okO σ7 v0R 12) <| bndT (rec.2 v0R x5 σ7) fun r8 σ9 => if r8 < r6 then (.inl (2, 0, 0, 0, (1 : Int32), r6, σ9)) else (.inl (2, 0, 0, 0, (1 : Int32), r8, σ9))))
noncomputable def T_Md_by_1 (rec : GT_Md_by_Md_fewestBy)  (σ : AM) : S_Md_by ⊕ Option (Int32 × AM) :=
  .inr (some ((99 : Int32), σ))
noncomputable def T_Md_by_2 (rec : GT_Md_by_Md_fewestBy) (s0I : Int32) (s1I : Int32) (σ : AM) : S_Md_by ⊕ Option (Int32 × AM) :=
  .inr (some ((s0I + s1I), σ))
noncomputable def F_Md_by (rec : GT_Md_by_Md_fewestBy) : S_Md_by → S_Md_by ⊕ Option (Int32 × AM) := fun s => match s.1 with
  | 0 => T_Md_by_0 rec (s.2.1) (s.2.2.1) (s.2.2.2.1) (s.2.2.2.2.2.2)
  | 1 => T_Md_by_1 rec  (s.2.2.2.2.2.2)
  | _ => T_Md_by_2 rec (s.2.2.2.2.1) (s.2.2.2.2.2.1) (s.2.2.2.2.2.2)
noncomputable def L_Md_by_0 (rec : GT_Md_by_Md_fewestBy) (v0R : Nat) (v1I : Int32) (v2I : Int32) (σ : AM) : Option (Int32 × AM) := lp (F_Md_by rec) (0, v0R, v1I, v2I, 0, 0, σ)
noncomputable def L_Md_by_1 (rec : GT_Md_by_Md_fewestBy)  (σ : AM) : Option (Int32 × AM) := lp (F_Md_by rec) (1, 0, 0, 0, 0, 0, σ)
noncomputable def L_Md_by_2 (rec : GT_Md_by_Md_fewestBy) (s0I : Int32) (s1I : Int32) (σ : AM) : Option (Int32 × AM) := lp (F_Md_by rec) (2, 0, 0, 0, s0I, s1I, σ)
set_option maxRecDepth 20000 in
theorem E_Md_by_0 (rec : GT_Md_by_Md_fewestBy) (v0R : Nat) (v1I : Int32) (v2I : Int32) (σ : AM) : L_Md_by_0 rec v0R v1I v2I σ = (gd (okO σ v0R 12) <| gd (okO σ (aR σ v0R 58) 101) <| gd (inB v2I (aN σ (aR σ v0R 58))) <| letT (v1I &&& (aI σ (aR σ v0R 58) v2I.toNatClampNeg)) fun x4 => letT (v1I &&& ((aI σ (aR σ v0R 58) v2I.toNatClampNeg) ^^^ ((-1) : Int32))) fun x5 => if x4 = 0 then (L_Md_by_1 rec σ) else (if x5 = 0 then (L_Md_by_1 rec σ) else (bnd (rec.2 v0R x4 σ) fun r6 σ7 => gd (okO σ7 v0R 12) <| bnd (rec.2 v0R x5 σ7) fun r8 σ9 => if r8 < r6 then (L_Md_by_2 rec ((1 : Int32)) r6 σ9) else (L_Md_by_2 rec ((1 : Int32)) r8 σ9)))) := by
  unfold L_Md_by_0
  rw [lp_eq]
  show lpK (lp (F_Md_by rec)) (T_Md_by_0 rec v0R v1I v2I σ) = _
  unfold T_Md_by_0
  simp only [lpK_ite, lq_inl, lq_inr, lpK_bnd, lpK_gd, lq_let]
  try rfl
set_option maxRecDepth 20000 in
theorem E_Md_by_1 (rec : GT_Md_by_Md_fewestBy)  (σ : AM) : L_Md_by_1 rec  σ = ((some ((99 : Int32), σ))) := by
  unfold L_Md_by_1
  rw [lp_eq]
  show lpK (lp (F_Md_by rec)) (T_Md_by_1 rec  σ) = _
  unfold T_Md_by_1
  simp only [lpK_ite, lq_inl, lq_inr, lpK_bnd, lpK_gd, lq_let]
  try rfl
set_option maxRecDepth 20000 in
theorem E_Md_by_2 (rec : GT_Md_by_Md_fewestBy) (s0I : Int32) (s1I : Int32) (σ : AM) : L_Md_by_2 rec s0I s1I σ = ((some ((s0I + s1I), σ))) := by
  unfold L_Md_by_2
  rw [lp_eq]
  show lpK (lp (F_Md_by rec)) (T_Md_by_2 rec s0I s1I σ) = _
  unfold T_Md_by_2
  simp only [lpK_ite, lq_inl, lq_inr, lpK_bnd, lpK_gd, lq_let]
  try rfl
noncomputable def N_Md_by (rec : GT_Md_by_Md_fewestBy) (v0R : Nat) (v1I : Int32) (v2I : Int32) (σ : AM) : Option (Int32 × AM) := mw σ (L_Md_by_0 rec v0R v1I v2I σ)
def I_Md_by (G : GX) (p : Program) (l : Launch) (e : Env) (s : State) (m : MethodId) (args : Array Value) (below : List Frame) (meth : Method) (c : Code) (n0 : Nat) (rec : GT_Md_by_Md_fewestBy) (z0 u0 n : Nat) : Prop :=
  (∀ (v0R : Nat) (v1I : Int32) (v2I : Int32) (σ : AM), VX (QM eI G args s below z0 u0) G p l e s m args below meth c (1 + n0 + 1) z0 u0 7 (lpn (F_Md_by rec) n (0, v0R, v1I, v2I, 0, 0, σ)) 0 [(0, .ref v0R), (1, .int v1I), (2, .int v2I)] [] σ) ∧
  (∀ (σ : AM), VX (QM eI G args s below z0 u0) G p l e s m args below meth c (1 + n0 + 1) z0 u0 7 (lpn (F_Md_by rec) n (1, 0, 0, 0, 0, 0, σ)) 30 [] [] σ) ∧
  (∀ (s0I : Int32) (s1I : Int32) (σ : AM), VX (QM eI G args s below z0 u0) G p l e s m args below meth c (1 + n0 + 1) z0 u0 7 (lpn (F_Md_by rec) n (2, 0, 0, 0, s0I, s1I, σ)) 63 [] [.int s1I, .int s0I] σ)
set_option maxRecDepth 20000 in
theorem s_Md_by_0 {G : GX} {p : Program} {l : Launch} {e : Env} {s : State} {m : MethodId} {args : Array Value} {below : List Frame} {meth : Method} {c : Code} {z0 u0 n : Nat} (C : Cx G p s m args meth c prog_14_method_83_code 7 "BellPlateModel" ((some FieldType.int))) {n0 : Nat} {rec : GT_Md_by_Md_fewestBy} (HR : H_Md_by_Md_fewestBy G l n0 rec) (IH : I_Md_by G p l e s m args below meth c n0 rec z0 u0 n) (v0R : Nat) (v1I : Int32) (v2I : Int32) (σ : AM) : VX (QM eI G args s below z0 u0) G p l e s m args below meth c (1 + n0 + 1) z0 u0 7 (lpK (lpn (F_Md_by rec) n) (T_Md_by_0 rec v0R v1I v2I σ)) 0 [(0, .ref v0R), (1, .int v1I), (2, .int v2I)] [] σ := by
  unfold T_Md_by_0
  refine x_iload_n C d_Md_by_0 1 rfl ?_
  refine x_aload_n C d_Md_by_1 0 rfl ?_
  refine x_gd (fun h1 => ?_)
  refine x_gd (fun h2 => ?_)
  refine x_getR (k := 58) (kv := 101) C (okO_iff.mp h1) rfl j11_ok (by decide) rfl (okO_iff.mp h2) (by decide) w1910 d_Md_by_2 ?_
  refine x_iload_n C d_Md_by_5 2 rfl ?_
  refine x_gd (fun h3 => ?_)
  refine x_aldI C (okO_iff.mp h2) (inB_iff.mp h3) d_Md_by_6 ?_
  refine x_iand C d_Md_by_7 ?_
  refine x_letI (fun x4 _ => ?_)
  refine x_istore_n (lv' := [(3, .int x4), (0, .ref v0R), (1, .int v1I), (2, .int v2I)]) C d_Md_by_8 (by decide) rfl rfl ?_
  refine x_iload_n C d_Md_by_9 2 rfl ?_
  refine x_aload_n C d_Md_by_10 1 rfl ?_
  refine x_getR (k := 58) (kv := 101) C (okO_iff.mp h1) rfl j11_ok (by decide) rfl (okO_iff.mp h2) (by decide) w1910 d_Md_by_11 ?_
  refine x_iload_n C d_Md_by_14 3 rfl ?_
  refine x_aldI C (okO_iff.mp h2) (inB_iff.mp h3) d_Md_by_15 ?_
  refine x_iconst (v := ((-1) : Int32)) C d_Md_by_16 (by decide) ?_
  refine x_ixor C d_Md_by_17 ?_
  refine x_iand C d_Md_by_18 ?_
  refine x_letI (fun x5 _ => ?_)
  refine x_istore (lv' := [(4, .int x5), (3, .int x4), (0, .ref v0R), (1, .int v1I), (2, .int v2I)]) C d_Md_by_19 (by decide) rfl ?_
  refine x_iload_n C d_Md_by_21 1 rfl ?_
  refine x_if_eq (tgt := 30) C d_Md_by_22 (by decide) (fun _ => ?_) (fun _ => ?_)
  · refine x_lv [] rfl ?_
    exact IH.2.1  (σ)
  · refine x_iload C d_Md_by_25 0 rfl ?_
    refine x_if_ne (tgt := 33) C d_Md_by_27 (by decide) (fun _ => ?_) (fun _ => ?_)
    · refine x_lv [] rfl ?_
      exact IH.2.1  (σ)
    · refine x_aload_n C d_Md_by_33 2 rfl ?_
      refine x_iload_n C d_Md_by_34 1 rfl ?_
      refine x_callVI (As := [.int x4]) C (HR.2 v0R x4 σ) (okO_iff.mp h1) rfl w2358 w106 w2356 w2359 w134 k_Md_fewestBy rfl (by omega) (by decide) rfl (Nat.le_of_ble_eq_true rfl) d_Md_by_35 (fun r6 σ7 => ?_)
      refine x_istore (lv' := [(5, .int r6), (4, .int x5), (3, .int x4), (0, .ref v0R), (1, .int v1I), (2, .int v2I)]) C d_Md_by_38 (by decide) rfl ?_
      refine x_aload_n C d_Md_by_40 3 rfl ?_
      refine x_iload C d_Md_by_41 1 rfl ?_
      refine x_gd (fun h10 => ?_)
      refine x_callVI (As := [.int x5]) C (HR.2 v0R x5 σ7) (okO_iff.mp h10) rfl w2358 w106 w2356 w2359 w134 k_Md_fewestBy rfl (by omega) (by decide) rfl (Nat.le_of_ble_eq_true rfl) d_Md_by_43 (fun r8 σ9 => ?_)
      refine x_istore (lv' := [(6, .int r8), (5, .int r6), (4, .int x5), (3, .int x4), (0, .ref v0R), (1, .int v1I), (2, .int v2I)]) C d_Md_by_46 (by decide) rfl ?_
      refine x_iconst (v := (1 : Int32)) C d_Md_by_48 (by decide) ?_
      refine x_iload C d_Md_by_49 1 rfl ?_
      refine x_iload C d_Md_by_51 0 rfl ?_
      refine x_icmp_le (tgt := 61) C d_Md_by_53 (by decide) (fun _ => ?_) (fun _ => ?_)
      · refine x_iload C d_Md_by_56 1 rfl ?_
        refine x_goto (tgt := 63) C d_Md_by_58 (by decide) ?_
        refine x_lv [] rfl ?_
        exact IH.2.2 ((1 : Int32)) r6 (σ9)
      · refine x_iload C d_Md_by_61 0 rfl ?_
        refine x_lv [] rfl ?_
        exact IH.2.2 ((1 : Int32)) r8 (σ9)
set_option maxRecDepth 20000 in
theorem s_Md_by_1 {G : GX} {p : Program} {l : Launch} {e : Env} {s : State} {m : MethodId} {args : Array Value} {below : List Frame} {meth : Method} {c : Code} {z0 u0 n : Nat} (C : Cx G p s m args meth c prog_14_method_83_code 7 "BellPlateModel" ((some FieldType.int))) {n0 : Nat} {rec : GT_Md_by_Md_fewestBy} (HR : H_Md_by_Md_fewestBy G l n0 rec) (IH : I_Md_by G p l e s m args below meth c n0 rec z0 u0 n)  (σ : AM) : VX (QM eI G args s below z0 u0) G p l e s m args below meth c (1 + n0 + 1) z0 u0 7 (lpK (lpn (F_Md_by rec) n) (T_Md_by_1 rec  σ)) 30 [] [] σ := by
  unfold T_Md_by_1
  refine x_bipush (v := (99 : Int32)) C d_Md_by_30 (by decide) ?_
  exact x_iret C d_Md_by_32
set_option maxRecDepth 20000 in
theorem s_Md_by_2 {G : GX} {p : Program} {l : Launch} {e : Env} {s : State} {m : MethodId} {args : Array Value} {below : List Frame} {meth : Method} {c : Code} {z0 u0 n : Nat} (C : Cx G p s m args meth c prog_14_method_83_code 7 "BellPlateModel" ((some FieldType.int))) {n0 : Nat} {rec : GT_Md_by_Md_fewestBy} (HR : H_Md_by_Md_fewestBy G l n0 rec) (IH : I_Md_by G p l e s m args below meth c n0 rec z0 u0 n) (s0I : Int32) (s1I : Int32) (σ : AM) : VX (QM eI G args s below z0 u0) G p l e s m args below meth c (1 + n0 + 1) z0 u0 7 (lpK (lpn (F_Md_by rec) n) (T_Md_by_2 rec s0I s1I σ)) 63 [] [.int s1I, .int s0I] σ := by
  unfold T_Md_by_2
  refine x_iadd C d_Md_by_63 ?_
  exact x_iret C d_Md_by_64
theorem i_Md_by {G : GX} {p : Program} {l : Launch} {e : Env} {s : State} {m : MethodId} {args : Array Value} {below : List Frame} {meth : Method} {c : Code} {z0 u0 : Nat} (C : Cx G p s m args meth c prog_14_method_83_code 7 "BellPlateModel" ((some FieldType.int))) {n0 : Nat} {rec : GT_Md_by_Md_fewestBy} (HR : H_Md_by_Md_fewestBy G l n0 rec) (n : Nat) : I_Md_by G p l e s m args below meth c n0 rec z0 u0 n := by
  induction n with
  | zero => exact ⟨fun _ _ _ _ => x_none, fun _ => x_none, fun _ _ _ => x_none⟩
  | succ n IH => exact ⟨fun v0R v1I v2I σ => s_Md_by_0 C HR IH v0R v1I v2I σ, fun σ => s_Md_by_1 C HR IH σ, fun s0I s1I σ => s_Md_by_2 C HR IH s0I s1I σ⟩
theorem n_Md_by (G : GX) (l : Launch) (n0 : Nat) (rec : GT_Md_by_Md_fewestBy) (HR : H_Md_by_Md_fewestBy G l n0 rec) (v0R : Nat) (v1I : Int32) (v2I : Int32) (σ : AM) : CT eI G l (1 + (n0 + 1)) y_Md_by prog_14_method_83_code 7 ((some FieldType.int)) [.ref v0R, .int v1I, .int v2I] σ (N_Md_by rec v0R v1I v2I σ) := by
  refine ct_of (by decide +kernel) (Nat.le_of_ble_eq_true rfl) (fun p e s m args below meth c C hin => ?_)
  refine x_lve (lv' := [(0, .ref v0R), (1, .int v1I), (2, .int v2I)]) rfl ?_
  intro r σ' h
  obtain ⟨n, hn⟩ := (lp_iff _ _ _).mp h
  exact (i_Md_by C HR n).1 v0R v1I v2I σ r σ' hn
abbrev S_Md_fewestBy : Type := Nat × Nat × Int32 × Int32 × Int32 × Int32 × Int32 × Int32 × AM
noncomputable def T_Md_fewestBy_0 (rec : GT_Md_by_Md_fewestBy) (v0R : Nat) (v1I : Int32) (σ : AM) : S_Md_fewestBy ⊕ Option (Int32 × AM) :=
  gdT (okO σ v0R 12) <| gdT (okO σ (aR σ v0R 59) 101) <| gdT (inB v1I (aN σ (aR σ v0R 59))) <| if (aI σ (aR σ v0R 59) v1I.toNatClampNeg) < 0 then (.inl (1, v0R, v1I, ((-1) : Int32), (1 : Int32), (0 : Int32), 0, 0, σ)) else (.inr (some ((aI σ (aR σ v0R 59) v1I.toNatClampNeg), σ)))
noncomputable def T_Md_fewestBy_1 (rec : GT_Md_by_Md_fewestBy) (v0R : Nat) (v1I : Int32) (v2I : Int32) (v3I : Int32) (v4I : Int32) (σ : AM) : S_Md_fewestBy ⊕ Option (Int32 × AM) :=
  gdT (okO σ v0R 12) <| if v4I < (aI σ v0R 46) then (if ((v1I >>> (v4I &&& 31)) &&& (1 : Int32)) = (1 : Int32) then (if v2I < 0 then (.inl (2, v0R, v1I, 0, v3I, v4I, 0, v4I, σ)) else (.inl (2, v0R, v1I, 0, v3I, v4I, 0, v2I, σ))) else (.inl (5, v0R, v1I, v2I, v3I, v4I, 0, 0, σ))) else (if v3I = 0 then (.inl (6, v0R, v1I, 0, v3I, 0, 0, (99 : Int32), σ)) else (.inl (6, v0R, v1I, 0, v3I, 0, 0, (0 : Int32), σ)))
noncomputable def T_Md_fewestBy_2 (rec : GT_Md_by_Md_fewestBy) (v0R : Nat) (v1I : Int32) (v3I : Int32) (v4I : Int32) (s0I : Int32) (σ : AM) : S_Md_fewestBy ⊕ Option (Int32 × AM) :=
  if v3I = 0 then (.inl (3, v0R, v1I, s0I, 0, v4I, 0, 0, σ)) else (gdT (okO σ v0R 12) <| gdT (okO σ (aR σ v0R 57) 101) <| gdT (inB v4I (aN σ (aR σ v0R 57))) <| gdT (inB s0I (aN σ (aR σ v0R 57))) <| if (aI σ (aR σ v0R 57) v4I.toNatClampNeg) = (aI σ (aR σ v0R 57) s0I.toNatClampNeg) then (.inl (4, v0R, v1I, s0I, 0, v4I, 0, (1 : Int32), σ)) else (.inl (3, v0R, v1I, s0I, 0, v4I, 0, 0, σ)))
noncomputable def T_Md_fewestBy_3 (rec : GT_Md_by_Md_fewestBy) (v0R : Nat) (v1I : Int32) (v2I : Int32) (v4I : Int32) (σ : AM) : S_Md_fewestBy ⊕ Option (Int32 × AM) :=
  .inl (4, v0R, v1I, v2I, 0, v4I, 0, (0 : Int32), σ)
noncomputable def T_Md_fewestBy_4 (rec : GT_Md_by_Md_fewestBy) (v0R : Nat) (v1I : Int32) (v2I : Int32) (v4I : Int32) (s0I : Int32) (σ : AM) : S_Md_fewestBy ⊕ Option (Int32 × AM) :=
  .inl (5, v0R, v1I, v2I, s0I, v4I, 0, 0, σ)
noncomputable def T_Md_fewestBy_5 (rec : GT_Md_by_Md_fewestBy) (v0R : Nat) (v1I : Int32) (v2I : Int32) (v3I : Int32) (v4I : Int32) (σ : AM) : S_Md_fewestBy ⊕ Option (Int32 × AM) :=
  .inl (1, v0R, v1I, v2I, v3I, v4I + (1 : Int32), 0, 0, σ)
noncomputable def T_Md_fewestBy_6 (rec : GT_Md_by_Md_fewestBy) (v0R : Nat) (v1I : Int32) (v3I : Int32) (s0I : Int32) (σ : AM) : S_Md_fewestBy ⊕ Option (Int32 × AM) :=
  .inl (7, v0R, v1I, 0, v3I, s0I, (0 : Int32), 0, σ)
noncomputable def T_Md_fewestBy_7 (rec : GT_Md_by_Md_fewestBy) (v0R : Nat) (v1I : Int32) (v3I : Int32) (v4I : Int32) (v5I : Int32) (σ : AM) : S_Md_fewestBy ⊕ Option (Int32 × AM) :=
  gdT (okO σ v0R 12) <| bndT (M_Md_sets v0R σ) fun r1 σ2 => if v5I < r1 then (if v3I = 0 then (gdT (okO σ2 v0R 12) <| bndT (rec.1 v0R v1I v5I σ2) fun r4 σ5 => if r4 < v4I then (.inl (8, v0R, v1I, 0, v3I, 0, v5I, r4, σ5)) else (.inl (8, v0R, v1I, 0, v3I, 0, v5I, v4I, σ5))) else (.inl (9, v0R, v1I, 0, 0, v4I, 0, 0, σ2))) else (.inl (9, v0R, v1I, 0, 0, v4I, 0, 0, σ2))
noncomputable def T_Md_fewestBy_8 (rec : GT_Md_by_Md_fewestBy) (v0R : Nat) (v1I : Int32) (v3I : Int32) (v5I : Int32) (s0I : Int32) (σ : AM) : S_Md_fewestBy ⊕ Option (Int32 × AM) :=
  .inl (7, v0R, v1I, 0, v3I, s0I, v5I + (1 : Int32), 0, σ)
noncomputable def T_Md_fewestBy_9 (rec : GT_Md_by_Md_fewestBy) (v0R : Nat) (v1I : Int32) (v4I : Int32) (σ : AM) : S_Md_fewestBy ⊕ Option (Int32 × AM) :=
  gdT (okO σ v0R 12) <| gdT (okO σ (aR σ v0R 59) 101) <| gdT (inB v1I (aN σ (aR σ v0R 59))) <| letT (sI σ (aR σ v0R 59) v1I.toNatClampNeg v4I) fun σ4 => .inr (some (v4I, σ4))
noncomputable def F_Md_fewestBy (rec : GT_Md_by_Md_fewestBy) : S_Md_fewestBy → S_Md_fewestBy ⊕ Option (Int32 × AM) := fun s => match s.1 with
  | 0 => T_Md_fewestBy_0 rec (s.2.1) (s.2.2.1) (s.2.2.2.2.2.2.2.2)
  | 1 => T_Md_fewestBy_1 rec (s.2.1) (s.2.2.1) (s.2.2.2.1) (s.2.2.2.2.1) (s.2.2.2.2.2.1) (s.2.2.2.2.2.2.2.2)
  | 2 => T_Md_fewestBy_2 rec (s.2.1) (s.2.2.1) (s.2.2.2.2.1) (s.2.2.2.2.2.1) (s.2.2.2.2.2.2.2.1) (s.2.2.2.2.2.2.2.2)
  | 3 => T_Md_fewestBy_3 rec (s.2.1) (s.2.2.1) (s.2.2.2.1) (s.2.2.2.2.2.1) (s.2.2.2.2.2.2.2.2)
  | 4 => T_Md_fewestBy_4 rec (s.2.1) (s.2.2.1) (s.2.2.2.1) (s.2.2.2.2.2.1) (s.2.2.2.2.2.2.2.1) (s.2.2.2.2.2.2.2.2)
  | 5 => T_Md_fewestBy_5 rec (s.2.1) (s.2.2.1) (s.2.2.2.1) (s.2.2.2.2.1) (s.2.2.2.2.2.1) (s.2.2.2.2.2.2.2.2)
  | 6 => T_Md_fewestBy_6 rec (s.2.1) (s.2.2.1) (s.2.2.2.2.1) (s.2.2.2.2.2.2.2.1) (s.2.2.2.2.2.2.2.2)
  | 7 => T_Md_fewestBy_7 rec (s.2.1) (s.2.2.1) (s.2.2.2.2.1) (s.2.2.2.2.2.1) (s.2.2.2.2.2.2.1) (s.2.2.2.2.2.2.2.2)
  | 8 => T_Md_fewestBy_8 rec (s.2.1) (s.2.2.1) (s.2.2.2.2.1) (s.2.2.2.2.2.2.1) (s.2.2.2.2.2.2.2.1) (s.2.2.2.2.2.2.2.2)
  | _ => T_Md_fewestBy_9 rec (s.2.1) (s.2.2.1) (s.2.2.2.2.2.1) (s.2.2.2.2.2.2.2.2)
noncomputable def L_Md_fewestBy_0 (rec : GT_Md_by_Md_fewestBy) (v0R : Nat) (v1I : Int32) (σ : AM) : Option (Int32 × AM) := lp (F_Md_fewestBy rec) (0, v0R, v1I, 0, 0, 0, 0, 0, σ)
noncomputable def L_Md_fewestBy_1 (rec : GT_Md_by_Md_fewestBy) (v0R : Nat) (v1I : Int32) (v2I : Int32) (v3I : Int32) (v4I : Int32) (σ : AM) : Option (Int32 × AM) := lp (F_Md_fewestBy rec) (1, v0R, v1I, v2I, v3I, v4I, 0, 0, σ)
noncomputable def L_Md_fewestBy_2 (rec : GT_Md_by_Md_fewestBy) (v0R : Nat) (v1I : Int32) (v3I : Int32) (v4I : Int32) (s0I : Int32) (σ : AM) : Option (Int32 × AM) := lp (F_Md_fewestBy rec) (2, v0R, v1I, 0, v3I, v4I, 0, s0I, σ)
noncomputable def L_Md_fewestBy_3 (rec : GT_Md_by_Md_fewestBy) (v0R : Nat) (v1I : Int32) (v2I : Int32) (v4I : Int32) (σ : AM) : Option (Int32 × AM) := lp (F_Md_fewestBy rec) (3, v0R, v1I, v2I, 0, v4I, 0, 0, σ)
noncomputable def L_Md_fewestBy_4 (rec : GT_Md_by_Md_fewestBy) (v0R : Nat) (v1I : Int32) (v2I : Int32) (v4I : Int32) (s0I : Int32) (σ : AM) : Option (Int32 × AM) := lp (F_Md_fewestBy rec) (4, v0R, v1I, v2I, 0, v4I, 0, s0I, σ)
noncomputable def L_Md_fewestBy_5 (rec : GT_Md_by_Md_fewestBy) (v0R : Nat) (v1I : Int32) (v2I : Int32) (v3I : Int32) (v4I : Int32) (σ : AM) : Option (Int32 × AM) := lp (F_Md_fewestBy rec) (5, v0R, v1I, v2I, v3I, v4I, 0, 0, σ)
noncomputable def L_Md_fewestBy_6 (rec : GT_Md_by_Md_fewestBy) (v0R : Nat) (v1I : Int32) (v3I : Int32) (s0I : Int32) (σ : AM) : Option (Int32 × AM) := lp (F_Md_fewestBy rec) (6, v0R, v1I, 0, v3I, 0, 0, s0I, σ)
noncomputable def L_Md_fewestBy_7 (rec : GT_Md_by_Md_fewestBy) (v0R : Nat) (v1I : Int32) (v3I : Int32) (v4I : Int32) (v5I : Int32) (σ : AM) : Option (Int32 × AM) := lp (F_Md_fewestBy rec) (7, v0R, v1I, 0, v3I, v4I, v5I, 0, σ)
noncomputable def L_Md_fewestBy_8 (rec : GT_Md_by_Md_fewestBy) (v0R : Nat) (v1I : Int32) (v3I : Int32) (v5I : Int32) (s0I : Int32) (σ : AM) : Option (Int32 × AM) := lp (F_Md_fewestBy rec) (8, v0R, v1I, 0, v3I, 0, v5I, s0I, σ)
noncomputable def L_Md_fewestBy_9 (rec : GT_Md_by_Md_fewestBy) (v0R : Nat) (v1I : Int32) (v4I : Int32) (σ : AM) : Option (Int32 × AM) := lp (F_Md_fewestBy rec) (9, v0R, v1I, 0, 0, v4I, 0, 0, σ)
set_option maxRecDepth 20000 in
theorem E_Md_fewestBy_0 (rec : GT_Md_by_Md_fewestBy) (v0R : Nat) (v1I : Int32) (σ : AM) : L_Md_fewestBy_0 rec v0R v1I σ = (gd (okO σ v0R 12) <| gd (okO σ (aR σ v0R 59) 101) <| gd (inB v1I (aN σ (aR σ v0R 59))) <| if (aI σ (aR σ v0R 59) v1I.toNatClampNeg) < 0 then (L_Md_fewestBy_1 rec v0R v1I (((-1) : Int32)) ((1 : Int32)) ((0 : Int32)) σ) else ((some ((aI σ (aR σ v0R 59) v1I.toNatClampNeg), σ)))) := by
  unfold L_Md_fewestBy_0
  rw [lp_eq]
  show lpK (lp (F_Md_fewestBy rec)) (T_Md_fewestBy_0 rec v0R v1I σ) = _
  unfold T_Md_fewestBy_0
  simp only [lpK_ite, lq_inl, lq_inr, lpK_bnd, lpK_gd, lq_let]
  try rfl
set_option maxRecDepth 20000 in
theorem E_Md_fewestBy_1 (rec : GT_Md_by_Md_fewestBy) (v0R : Nat) (v1I : Int32) (v2I : Int32) (v3I : Int32) (v4I : Int32) (σ : AM) : L_Md_fewestBy_1 rec v0R v1I v2I v3I v4I σ = (gd (okO σ v0R 12) <| if v4I < (aI σ v0R 46) then (if ((v1I >>> (v4I &&& 31)) &&& (1 : Int32)) = (1 : Int32) then (if v2I < 0 then (L_Md_fewestBy_2 rec v0R v1I v3I v4I v4I σ) else (L_Md_fewestBy_2 rec v0R v1I v3I v4I v2I σ)) else (L_Md_fewestBy_5 rec v0R v1I v2I v3I v4I σ)) else (if v3I = 0 then (L_Md_fewestBy_6 rec v0R v1I v3I ((99 : Int32)) σ) else (L_Md_fewestBy_6 rec v0R v1I v3I ((0 : Int32)) σ))) := by
  unfold L_Md_fewestBy_1
  rw [lp_eq]
  show lpK (lp (F_Md_fewestBy rec)) (T_Md_fewestBy_1 rec v0R v1I v2I v3I v4I σ) = _
  unfold T_Md_fewestBy_1
  simp only [lpK_ite, lq_inl, lq_inr, lpK_bnd, lpK_gd, lq_let]
  try rfl
set_option maxRecDepth 20000 in
theorem E_Md_fewestBy_2 (rec : GT_Md_by_Md_fewestBy) (v0R : Nat) (v1I : Int32) (v3I : Int32) (v4I : Int32) (s0I : Int32) (σ : AM) : L_Md_fewestBy_2 rec v0R v1I v3I v4I s0I σ = (if v3I = 0 then (L_Md_fewestBy_3 rec v0R v1I s0I v4I σ) else (gd (okO σ v0R 12) <| gd (okO σ (aR σ v0R 57) 101) <| gd (inB v4I (aN σ (aR σ v0R 57))) <| gd (inB s0I (aN σ (aR σ v0R 57))) <| if (aI σ (aR σ v0R 57) v4I.toNatClampNeg) = (aI σ (aR σ v0R 57) s0I.toNatClampNeg) then (L_Md_fewestBy_4 rec v0R v1I s0I v4I ((1 : Int32)) σ) else (L_Md_fewestBy_3 rec v0R v1I s0I v4I σ))) := by
  unfold L_Md_fewestBy_2
  rw [lp_eq]
  show lpK (lp (F_Md_fewestBy rec)) (T_Md_fewestBy_2 rec v0R v1I v3I v4I s0I σ) = _
  unfold T_Md_fewestBy_2
  simp only [lpK_ite, lq_inl, lq_inr, lpK_bnd, lpK_gd, lq_let]
  try rfl
set_option maxRecDepth 20000 in
theorem E_Md_fewestBy_3 (rec : GT_Md_by_Md_fewestBy) (v0R : Nat) (v1I : Int32) (v2I : Int32) (v4I : Int32) (σ : AM) : L_Md_fewestBy_3 rec v0R v1I v2I v4I σ = (L_Md_fewestBy_4 rec v0R v1I v2I v4I ((0 : Int32)) σ) := by
  unfold L_Md_fewestBy_3
  rw [lp_eq]
  show lpK (lp (F_Md_fewestBy rec)) (T_Md_fewestBy_3 rec v0R v1I v2I v4I σ) = _
  unfold T_Md_fewestBy_3
  simp only [lpK_ite, lq_inl, lq_inr, lpK_bnd, lpK_gd, lq_let]
  try rfl
set_option maxRecDepth 20000 in
theorem E_Md_fewestBy_4 (rec : GT_Md_by_Md_fewestBy) (v0R : Nat) (v1I : Int32) (v2I : Int32) (v4I : Int32) (s0I : Int32) (σ : AM) : L_Md_fewestBy_4 rec v0R v1I v2I v4I s0I σ = (L_Md_fewestBy_5 rec v0R v1I v2I s0I v4I σ) := by
  unfold L_Md_fewestBy_4
  rw [lp_eq]
  show lpK (lp (F_Md_fewestBy rec)) (T_Md_fewestBy_4 rec v0R v1I v2I v4I s0I σ) = _
  unfold T_Md_fewestBy_4
  simp only [lpK_ite, lq_inl, lq_inr, lpK_bnd, lpK_gd, lq_let]
  try rfl
set_option maxRecDepth 20000 in
theorem E_Md_fewestBy_5 (rec : GT_Md_by_Md_fewestBy) (v0R : Nat) (v1I : Int32) (v2I : Int32) (v3I : Int32) (v4I : Int32) (σ : AM) : L_Md_fewestBy_5 rec v0R v1I v2I v3I v4I σ = (L_Md_fewestBy_1 rec v0R v1I v2I v3I (v4I + (1 : Int32)) σ) := by
  unfold L_Md_fewestBy_5
  rw [lp_eq]
  show lpK (lp (F_Md_fewestBy rec)) (T_Md_fewestBy_5 rec v0R v1I v2I v3I v4I σ) = _
  unfold T_Md_fewestBy_5
  simp only [lpK_ite, lq_inl, lq_inr, lpK_bnd, lpK_gd, lq_let]
  try rfl
set_option maxRecDepth 20000 in
theorem E_Md_fewestBy_6 (rec : GT_Md_by_Md_fewestBy) (v0R : Nat) (v1I : Int32) (v3I : Int32) (s0I : Int32) (σ : AM) : L_Md_fewestBy_6 rec v0R v1I v3I s0I σ = (L_Md_fewestBy_7 rec v0R v1I v3I s0I ((0 : Int32)) σ) := by
  unfold L_Md_fewestBy_6
  rw [lp_eq]
  show lpK (lp (F_Md_fewestBy rec)) (T_Md_fewestBy_6 rec v0R v1I v3I s0I σ) = _
  unfold T_Md_fewestBy_6
  simp only [lpK_ite, lq_inl, lq_inr, lpK_bnd, lpK_gd, lq_let]
  try rfl
set_option maxRecDepth 20000 in
theorem E_Md_fewestBy_7 (rec : GT_Md_by_Md_fewestBy) (v0R : Nat) (v1I : Int32) (v3I : Int32) (v4I : Int32) (v5I : Int32) (σ : AM) : L_Md_fewestBy_7 rec v0R v1I v3I v4I v5I σ = (gd (okO σ v0R 12) <| bnd (M_Md_sets v0R σ) fun r1 σ2 => if v5I < r1 then (if v3I = 0 then (gd (okO σ2 v0R 12) <| bnd (rec.1 v0R v1I v5I σ2) fun r4 σ5 => if r4 < v4I then (L_Md_fewestBy_8 rec v0R v1I v3I v5I r4 σ5) else (L_Md_fewestBy_8 rec v0R v1I v3I v5I v4I σ5)) else (L_Md_fewestBy_9 rec v0R v1I v4I σ2)) else (L_Md_fewestBy_9 rec v0R v1I v4I σ2)) := by
  unfold L_Md_fewestBy_7
  rw [lp_eq]
  show lpK (lp (F_Md_fewestBy rec)) (T_Md_fewestBy_7 rec v0R v1I v3I v4I v5I σ) = _
  unfold T_Md_fewestBy_7
  simp only [lpK_ite, lq_inl, lq_inr, lpK_bnd, lpK_gd, lq_let]
  try rfl
set_option maxRecDepth 20000 in
theorem E_Md_fewestBy_8 (rec : GT_Md_by_Md_fewestBy) (v0R : Nat) (v1I : Int32) (v3I : Int32) (v5I : Int32) (s0I : Int32) (σ : AM) : L_Md_fewestBy_8 rec v0R v1I v3I v5I s0I σ = (L_Md_fewestBy_7 rec v0R v1I v3I s0I (v5I + (1 : Int32)) σ) := by
  unfold L_Md_fewestBy_8
  rw [lp_eq]
  show lpK (lp (F_Md_fewestBy rec)) (T_Md_fewestBy_8 rec v0R v1I v3I v5I s0I σ) = _
  unfold T_Md_fewestBy_8
  simp only [lpK_ite, lq_inl, lq_inr, lpK_bnd, lpK_gd, lq_let]
  try rfl
set_option maxRecDepth 20000 in
theorem E_Md_fewestBy_9 (rec : GT_Md_by_Md_fewestBy) (v0R : Nat) (v1I : Int32) (v4I : Int32) (σ : AM) : L_Md_fewestBy_9 rec v0R v1I v4I σ = (gd (okO σ v0R 12) <| gd (okO σ (aR σ v0R 59) 101) <| gd (inB v1I (aN σ (aR σ v0R 59))) <| letT (sI σ (aR σ v0R 59) v1I.toNatClampNeg v4I) fun σ4 => (some (v4I, σ4))) := by
  unfold L_Md_fewestBy_9
  rw [lp_eq]
  show lpK (lp (F_Md_fewestBy rec)) (T_Md_fewestBy_9 rec v0R v1I v4I σ) = _
  unfold T_Md_fewestBy_9
  simp only [lpK_ite, lq_inl, lq_inr, lpK_bnd, lpK_gd, lq_let]
  try rfl
noncomputable def N_Md_fewestBy (rec : GT_Md_by_Md_fewestBy) (v0R : Nat) (v1I : Int32) (σ : AM) : Option (Int32 × AM) := mw σ (L_Md_fewestBy_0 rec v0R v1I σ)
def I_Md_fewestBy (G : GX) (p : Program) (l : Launch) (e : Env) (s : State) (m : MethodId) (args : Array Value) (below : List Frame) (meth : Method) (c : Code) (n0 : Nat) (rec : GT_Md_by_Md_fewestBy) (z0 u0 n : Nat) : Prop :=
  (∀ (v0R : Nat) (v1I : Int32) (σ : AM), VX (QM eI G args s below z0 u0) G p l e s m args below meth c (1 + n0 + 1) z0 u0 7 (lpn (F_Md_fewestBy rec) n (0, v0R, v1I, 0, 0, 0, 0, 0, σ)) 0 [(0, .ref v0R), (1, .int v1I)] [] σ) ∧
  (∀ (v0R : Nat) (v1I : Int32) (v2I : Int32) (v3I : Int32) (v4I : Int32) (σ : AM), VX (QM eI G args s below z0 u0) G p l e s m args below meth c (1 + n0 + 1) z0 u0 7 (lpn (F_Md_fewestBy rec) n (1, v0R, v1I, v2I, v3I, v4I, 0, 0, σ)) 23 [(0, .ref v0R), (1, .int v1I), (2, .int v2I), (3, .int v3I), (4, .int v4I)] [] σ) ∧
  (∀ (v0R : Nat) (v1I : Int32) (v3I : Int32) (v4I : Int32) (s0I : Int32) (σ : AM), VX (QM eI G args s below z0 u0) G p l e s m args below meth c (1 + n0 + 1) z0 u0 7 (lpn (F_Md_fewestBy rec) n (2, v0R, v1I, 0, v3I, v4I, 0, s0I, σ)) 52 [(0, .ref v0R), (1, .int v1I), (3, .int v3I), (4, .int v4I)] [.int s0I] σ) ∧
  (∀ (v0R : Nat) (v1I : Int32) (v2I : Int32) (v4I : Int32) (σ : AM), VX (QM eI G args s below z0 u0) G p l e s m args below meth c (1 + n0 + 1) z0 u0 7 (lpn (F_Md_fewestBy rec) n (3, v0R, v1I, v2I, 0, v4I, 0, 0, σ)) 77 [(0, .ref v0R), (1, .int v1I), (2, .int v2I), (4, .int v4I)] [] σ) ∧
  (∀ (v0R : Nat) (v1I : Int32) (v2I : Int32) (v4I : Int32) (s0I : Int32) (σ : AM), VX (QM eI G args s below z0 u0) G p l e s m args below meth c (1 + n0 + 1) z0 u0 7 (lpn (F_Md_fewestBy rec) n (4, v0R, v1I, v2I, 0, v4I, 0, s0I, σ)) 78 [(0, .ref v0R), (1, .int v1I), (2, .int v2I), (4, .int v4I)] [.int s0I] σ) ∧
  (∀ (v0R : Nat) (v1I : Int32) (v2I : Int32) (v3I : Int32) (v4I : Int32) (σ : AM), VX (QM eI G args s below z0 u0) G p l e s m args below meth c (1 + n0 + 1) z0 u0 7 (lpn (F_Md_fewestBy rec) n (5, v0R, v1I, v2I, v3I, v4I, 0, 0, σ)) 79 [(0, .ref v0R), (1, .int v1I), (2, .int v2I), (3, .int v3I), (4, .int v4I)] [] σ) ∧
  (∀ (v0R : Nat) (v1I : Int32) (v3I : Int32) (s0I : Int32) (σ : AM), VX (QM eI G args s below z0 u0) G p l e s m args below meth c (1 + n0 + 1) z0 u0 7 (lpn (F_Md_fewestBy rec) n (6, v0R, v1I, 0, v3I, 0, 0, s0I, σ)) 95 [(0, .ref v0R), (1, .int v1I), (3, .int v3I)] [.int s0I] σ) ∧
  (∀ (v0R : Nat) (v1I : Int32) (v3I : Int32) (v4I : Int32) (v5I : Int32) (σ : AM), VX (QM eI G args s below z0 u0) G p l e s m args below meth c (1 + n0 + 1) z0 u0 7 (lpn (F_Md_fewestBy rec) n (7, v0R, v1I, 0, v3I, v4I, v5I, 0, σ)) 100 [(0, .ref v0R), (1, .int v1I), (3, .int v3I), (4, .int v4I), (5, .int v5I)] [] σ) ∧
  (∀ (v0R : Nat) (v1I : Int32) (v3I : Int32) (v5I : Int32) (s0I : Int32) (σ : AM), VX (QM eI G args s below z0 u0) G p l e s m args below meth c (1 + n0 + 1) z0 u0 7 (lpn (F_Md_fewestBy rec) n (8, v0R, v1I, 0, v3I, 0, v5I, s0I, σ)) 136 [(0, .ref v0R), (1, .int v1I), (3, .int v3I), (5, .int v5I)] [.int s0I] σ) ∧
  (∀ (v0R : Nat) (v1I : Int32) (v4I : Int32) (σ : AM), VX (QM eI G args s below z0 u0) G p l e s m args below meth c (1 + n0 + 1) z0 u0 7 (lpn (F_Md_fewestBy rec) n (9, v0R, v1I, 0, 0, v4I, 0, 0, σ)) 144 [(0, .ref v0R), (1, .int v1I), (4, .int v4I)] [] σ)
set_option maxRecDepth 20000 in
theorem s_Md_fewestBy_0 {G : GX} {p : Program} {l : Launch} {e : Env} {s : State} {m : MethodId} {args : Array Value} {below : List Frame} {meth : Method} {c : Code} {z0 u0 n : Nat} (C : Cx G p s m args meth c prog_14_method_82_code 7 "BellPlateModel" ((some FieldType.int))) {n0 : Nat} {rec : GT_Md_by_Md_fewestBy} (HR : H_Md_by_Md_fewestBy G l n0 rec) (IH : I_Md_fewestBy G p l e s m args below meth c n0 rec z0 u0 n) (v0R : Nat) (v1I : Int32) (σ : AM) : VX (QM eI G args s below z0 u0) G p l e s m args below meth c (1 + n0 + 1) z0 u0 7 (lpK (lpn (F_Md_fewestBy rec) n) (T_Md_fewestBy_0 rec v0R v1I σ)) 0 [(0, .ref v0R), (1, .int v1I)] [] σ := by
  unfold T_Md_fewestBy_0
  refine x_aload_n C d_Md_fewestBy_0 0 rfl ?_
  refine x_gd (fun h1 => ?_)
  refine x_gd (fun h2 => ?_)
  refine x_getR (k := 59) (kv := 101) C (okO_iff.mp h1) rfl j11_ok (by decide) rfl (okO_iff.mp h2) (by decide) w1911 d_Md_fewestBy_1 ?_
  refine x_iload_n C d_Md_fewestBy_4 1 rfl ?_
  refine x_gd (fun h3 => ?_)
  refine x_aldI C (okO_iff.mp h2) (inB_iff.mp h3) d_Md_fewestBy_5 ?_
  refine x_if_lt (tgt := 16) C d_Md_fewestBy_6 (by decide) (fun _ => ?_) (fun _ => ?_)
  · refine x_iconst (v := ((-1) : Int32)) C d_Md_fewestBy_16 (by decide) ?_
    refine x_istore_n (lv' := [(2, .int ((-1) : Int32)), (0, .ref v0R), (1, .int v1I)]) C d_Md_fewestBy_17 (by decide) rfl rfl ?_
    refine x_iconst (v := (1 : Int32)) C d_Md_fewestBy_18 (by decide) ?_
    refine x_istore_n (lv' := [(3, .int (1 : Int32)), (2, .int ((-1) : Int32)), (0, .ref v0R), (1, .int v1I)]) C d_Md_fewestBy_19 (by decide) rfl rfl ?_
    refine x_iconst (v := (0 : Int32)) C d_Md_fewestBy_20 (by decide) ?_
    refine x_istore (lv' := [(4, .int (0 : Int32)), (3, .int (1 : Int32)), (2, .int ((-1) : Int32)), (0, .ref v0R), (1, .int v1I)]) C d_Md_fewestBy_21 (by decide) rfl ?_
    refine x_lv [3, 4, 2, 1, 0] rfl ?_
    exact IH.2.1 v0R v1I (((-1) : Int32)) ((1 : Int32)) ((0 : Int32)) (σ)
  · refine x_aload_n C d_Md_fewestBy_9 0 rfl ?_
    refine x_getR (k := 59) (kv := 101) C (okO_iff.mp h1) rfl j11_ok (by decide) rfl (okO_iff.mp h2) (by decide) w1911 d_Md_fewestBy_10 ?_
    refine x_iload_n C d_Md_fewestBy_13 1 rfl ?_
    refine x_aldI C (okO_iff.mp h2) (inB_iff.mp h3) d_Md_fewestBy_14 ?_
    exact x_iret C d_Md_fewestBy_15
set_option maxRecDepth 20000 in
theorem s_Md_fewestBy_1 {G : GX} {p : Program} {l : Launch} {e : Env} {s : State} {m : MethodId} {args : Array Value} {below : List Frame} {meth : Method} {c : Code} {z0 u0 n : Nat} (C : Cx G p s m args meth c prog_14_method_82_code 7 "BellPlateModel" ((some FieldType.int))) {n0 : Nat} {rec : GT_Md_by_Md_fewestBy} (HR : H_Md_by_Md_fewestBy G l n0 rec) (IH : I_Md_fewestBy G p l e s m args below meth c n0 rec z0 u0 n) (v0R : Nat) (v1I : Int32) (v2I : Int32) (v3I : Int32) (v4I : Int32) (σ : AM) : VX (QM eI G args s below z0 u0) G p l e s m args below meth c (1 + n0 + 1) z0 u0 7 (lpK (lpn (F_Md_fewestBy rec) n) (T_Md_fewestBy_1 rec v0R v1I v2I v3I v4I σ)) 23 [(0, .ref v0R), (1, .int v1I), (2, .int v2I), (3, .int v3I), (4, .int v4I)] [] σ := by
  unfold T_Md_fewestBy_1
  refine x_iload C d_Md_fewestBy_23 4 rfl ?_
  refine x_aload_n C d_Md_fewestBy_25 0 rfl ?_
  refine x_gd (fun h1 => ?_)
  refine x_getI (k := 46) C (okO_iff.mp h1) rfl j11_ok (by decide) rfl w1898 d_Md_fewestBy_26 ?_
  refine x_icmp_ge (tgt := 85) C d_Md_fewestBy_29 (by decide) (fun _ => ?_) (fun _ => ?_)
  · refine x_iload_n C d_Md_fewestBy_32 1 rfl ?_
    refine x_iload C d_Md_fewestBy_33 4 rfl ?_
    refine x_ishr C d_Md_fewestBy_35 ?_
    refine x_iconst (v := (1 : Int32)) C d_Md_fewestBy_36 (by decide) ?_
    refine x_iand C d_Md_fewestBy_37 ?_
    refine x_iconst (v := (1 : Int32)) C d_Md_fewestBy_38 (by decide) ?_
    refine x_icmp_ne (tgt := 79) C d_Md_fewestBy_39 (by decide) (fun _ => ?_) (fun _ => ?_)
    · refine x_iload_n C d_Md_fewestBy_42 2 rfl ?_
      refine x_if_ge (tgt := 51) C d_Md_fewestBy_43 (by decide) (fun _ => ?_) (fun _ => ?_)
      · refine x_iload C d_Md_fewestBy_46 4 rfl ?_
        refine x_goto (tgt := 52) C d_Md_fewestBy_48 (by decide) ?_
        refine x_lv [0, 1, 3, 4] rfl ?_
        exact IH.2.2.1 v0R v1I v3I v4I v4I (σ)
      · refine x_iload_n C d_Md_fewestBy_51 2 rfl ?_
        refine x_lv [0, 1, 3, 4] rfl ?_
        exact IH.2.2.1 v0R v1I v3I v4I v2I (σ)
    · exact IH.2.2.2.2.2.1 v0R v1I v2I v3I v4I (σ)
  · refine x_iload_n C d_Md_fewestBy_85 3 rfl ?_
    refine x_if_eq (tgt := 93) C d_Md_fewestBy_86 (by decide) (fun _ => ?_) (fun _ => ?_)
    · refine x_bipush (v := (99 : Int32)) C d_Md_fewestBy_93 (by decide) ?_
      refine x_lv [0, 1, 3] rfl ?_
      exact IH.2.2.2.2.2.2.1 v0R v1I v3I ((99 : Int32)) (σ)
    · refine x_iconst (v := (0 : Int32)) C d_Md_fewestBy_89 (by decide) ?_
      refine x_goto (tgt := 95) C d_Md_fewestBy_90 (by decide) ?_
      refine x_lv [0, 1, 3] rfl ?_
      exact IH.2.2.2.2.2.2.1 v0R v1I v3I ((0 : Int32)) (σ)
set_option maxRecDepth 20000 in
theorem s_Md_fewestBy_2 {G : GX} {p : Program} {l : Launch} {e : Env} {s : State} {m : MethodId} {args : Array Value} {below : List Frame} {meth : Method} {c : Code} {z0 u0 n : Nat} (C : Cx G p s m args meth c prog_14_method_82_code 7 "BellPlateModel" ((some FieldType.int))) {n0 : Nat} {rec : GT_Md_by_Md_fewestBy} (HR : H_Md_by_Md_fewestBy G l n0 rec) (IH : I_Md_fewestBy G p l e s m args below meth c n0 rec z0 u0 n) (v0R : Nat) (v1I : Int32) (v3I : Int32) (v4I : Int32) (s0I : Int32) (σ : AM) : VX (QM eI G args s below z0 u0) G p l e s m args below meth c (1 + n0 + 1) z0 u0 7 (lpK (lpn (F_Md_fewestBy rec) n) (T_Md_fewestBy_2 rec v0R v1I v3I v4I s0I σ)) 52 [(0, .ref v0R), (1, .int v1I), (3, .int v3I), (4, .int v4I)] [.int s0I] σ := by
  unfold T_Md_fewestBy_2
  refine x_istore_n (lv' := [(2, .int s0I), (0, .ref v0R), (1, .int v1I), (3, .int v3I), (4, .int v4I)]) C d_Md_fewestBy_52 (by decide) rfl rfl ?_
  refine x_iload_n C d_Md_fewestBy_53 3 rfl ?_
  refine x_if_eq (tgt := 77) C d_Md_fewestBy_54 (by decide) (fun _ => ?_) (fun _ => ?_)
  · refine x_lv [1, 2, 0, 4] rfl ?_
    exact IH.2.2.2.1 v0R v1I s0I v4I (σ)
  · refine x_aload_n C d_Md_fewestBy_57 1 rfl ?_
    refine x_gd (fun h1 => ?_)
    refine x_gd (fun h2 => ?_)
    refine x_getR (k := 57) (kv := 101) C (okO_iff.mp h1) rfl j11_ok (by decide) rfl (okO_iff.mp h2) (by decide) w1909 d_Md_fewestBy_58 ?_
    refine x_iload C d_Md_fewestBy_61 4 rfl ?_
    refine x_gd (fun h3 => ?_)
    refine x_aldI C (okO_iff.mp h2) (inB_iff.mp h3) d_Md_fewestBy_63 ?_
    refine x_aload_n C d_Md_fewestBy_64 1 rfl ?_
    refine x_getR (k := 57) (kv := 101) C (okO_iff.mp h1) rfl j11_ok (by decide) rfl (okO_iff.mp h2) (by decide) w1909 d_Md_fewestBy_65 ?_
    refine x_iload_n C d_Md_fewestBy_68 0 rfl ?_
    refine x_gd (fun h4 => ?_)
    refine x_aldI C (okO_iff.mp h2) (inB_iff.mp h4) d_Md_fewestBy_69 ?_
    refine x_icmp_ne (tgt := 77) C d_Md_fewestBy_70 (by decide) (fun _ => ?_) (fun _ => ?_)
    · refine x_iconst (v := (1 : Int32)) C d_Md_fewestBy_73 (by decide) ?_
      refine x_goto (tgt := 78) C d_Md_fewestBy_74 (by decide) ?_
      refine x_lv [1, 2, 0, 4] rfl ?_
      exact IH.2.2.2.2.1 v0R v1I s0I v4I ((1 : Int32)) (σ)
    · refine x_lv [1, 2, 0, 4] rfl ?_
      exact IH.2.2.2.1 v0R v1I s0I v4I (σ)
set_option maxRecDepth 20000 in
theorem s_Md_fewestBy_3 {G : GX} {p : Program} {l : Launch} {e : Env} {s : State} {m : MethodId} {args : Array Value} {below : List Frame} {meth : Method} {c : Code} {z0 u0 n : Nat} (C : Cx G p s m args meth c prog_14_method_82_code 7 "BellPlateModel" ((some FieldType.int))) {n0 : Nat} {rec : GT_Md_by_Md_fewestBy} (HR : H_Md_by_Md_fewestBy G l n0 rec) (IH : I_Md_fewestBy G p l e s m args below meth c n0 rec z0 u0 n) (v0R : Nat) (v1I : Int32) (v2I : Int32) (v4I : Int32) (σ : AM) : VX (QM eI G args s below z0 u0) G p l e s m args below meth c (1 + n0 + 1) z0 u0 7 (lpK (lpn (F_Md_fewestBy rec) n) (T_Md_fewestBy_3 rec v0R v1I v2I v4I σ)) 77 [(0, .ref v0R), (1, .int v1I), (2, .int v2I), (4, .int v4I)] [] σ := by
  unfold T_Md_fewestBy_3
  refine x_iconst (v := (0 : Int32)) C d_Md_fewestBy_77 (by decide) ?_
  exact IH.2.2.2.2.1 v0R v1I v2I v4I ((0 : Int32)) (σ)
set_option maxRecDepth 20000 in
theorem s_Md_fewestBy_4 {G : GX} {p : Program} {l : Launch} {e : Env} {s : State} {m : MethodId} {args : Array Value} {below : List Frame} {meth : Method} {c : Code} {z0 u0 n : Nat} (C : Cx G p s m args meth c prog_14_method_82_code 7 "BellPlateModel" ((some FieldType.int))) {n0 : Nat} {rec : GT_Md_by_Md_fewestBy} (HR : H_Md_by_Md_fewestBy G l n0 rec) (IH : I_Md_fewestBy G p l e s m args below meth c n0 rec z0 u0 n) (v0R : Nat) (v1I : Int32) (v2I : Int32) (v4I : Int32) (s0I : Int32) (σ : AM) : VX (QM eI G args s below z0 u0) G p l e s m args below meth c (1 + n0 + 1) z0 u0 7 (lpK (lpn (F_Md_fewestBy rec) n) (T_Md_fewestBy_4 rec v0R v1I v2I v4I s0I σ)) 78 [(0, .ref v0R), (1, .int v1I), (2, .int v2I), (4, .int v4I)] [.int s0I] σ := by
  unfold T_Md_fewestBy_4
  refine x_istore_n (lv' := [(3, .int s0I), (0, .ref v0R), (1, .int v1I), (2, .int v2I), (4, .int v4I)]) C d_Md_fewestBy_78 (by decide) rfl rfl ?_
  refine x_lv [1, 2, 3, 0, 4] rfl ?_
  exact IH.2.2.2.2.2.1 v0R v1I v2I s0I v4I (σ)
set_option maxRecDepth 20000 in
theorem s_Md_fewestBy_5 {G : GX} {p : Program} {l : Launch} {e : Env} {s : State} {m : MethodId} {args : Array Value} {below : List Frame} {meth : Method} {c : Code} {z0 u0 n : Nat} (C : Cx G p s m args meth c prog_14_method_82_code 7 "BellPlateModel" ((some FieldType.int))) {n0 : Nat} {rec : GT_Md_by_Md_fewestBy} (HR : H_Md_by_Md_fewestBy G l n0 rec) (IH : I_Md_fewestBy G p l e s m args below meth c n0 rec z0 u0 n) (v0R : Nat) (v1I : Int32) (v2I : Int32) (v3I : Int32) (v4I : Int32) (σ : AM) : VX (QM eI G args s below z0 u0) G p l e s m args below meth c (1 + n0 + 1) z0 u0 7 (lpK (lpn (F_Md_fewestBy rec) n) (T_Md_fewestBy_5 rec v0R v1I v2I v3I v4I σ)) 79 [(0, .ref v0R), (1, .int v1I), (2, .int v2I), (3, .int v3I), (4, .int v4I)] [] σ := by
  unfold T_Md_fewestBy_5
  refine x_iinc (v := v4I + (1 : Int32)) (lv' := [(4, .int (v4I + (1 : Int32))), (0, .ref v0R), (1, .int v1I), (2, .int v2I), (3, .int v3I)]) C d_Md_fewestBy_79 4 rfl rfl (by decide) rfl ?_
  refine x_goto (tgt := 23) C d_Md_fewestBy_82 (by decide) ?_
  refine x_lv [1, 2, 3, 4, 0] rfl ?_
  exact IH.2.1 v0R v1I v2I v3I (v4I + (1 : Int32)) (σ)
set_option maxRecDepth 20000 in
theorem s_Md_fewestBy_6 {G : GX} {p : Program} {l : Launch} {e : Env} {s : State} {m : MethodId} {args : Array Value} {below : List Frame} {meth : Method} {c : Code} {z0 u0 n : Nat} (C : Cx G p s m args meth c prog_14_method_82_code 7 "BellPlateModel" ((some FieldType.int))) {n0 : Nat} {rec : GT_Md_by_Md_fewestBy} (HR : H_Md_by_Md_fewestBy G l n0 rec) (IH : I_Md_fewestBy G p l e s m args below meth c n0 rec z0 u0 n) (v0R : Nat) (v1I : Int32) (v3I : Int32) (s0I : Int32) (σ : AM) : VX (QM eI G args s below z0 u0) G p l e s m args below meth c (1 + n0 + 1) z0 u0 7 (lpK (lpn (F_Md_fewestBy rec) n) (T_Md_fewestBy_6 rec v0R v1I v3I s0I σ)) 95 [(0, .ref v0R), (1, .int v1I), (3, .int v3I)] [.int s0I] σ := by
  unfold T_Md_fewestBy_6
  refine x_istore (lv' := [(4, .int s0I), (0, .ref v0R), (1, .int v1I), (3, .int v3I)]) C d_Md_fewestBy_95 (by decide) rfl ?_
  refine x_iconst (v := (0 : Int32)) C d_Md_fewestBy_97 (by decide) ?_
  refine x_istore (lv' := [(5, .int (0 : Int32)), (4, .int s0I), (0, .ref v0R), (1, .int v1I), (3, .int v3I)]) C d_Md_fewestBy_98 (by decide) rfl ?_
  refine x_lv [2, 3, 4, 1, 0] rfl ?_
  exact IH.2.2.2.2.2.2.2.1 v0R v1I v3I s0I ((0 : Int32)) (σ)
set_option maxRecDepth 20000 in
theorem s_Md_fewestBy_7 {G : GX} {p : Program} {l : Launch} {e : Env} {s : State} {m : MethodId} {args : Array Value} {below : List Frame} {meth : Method} {c : Code} {z0 u0 n : Nat} (C : Cx G p s m args meth c prog_14_method_82_code 7 "BellPlateModel" ((some FieldType.int))) {n0 : Nat} {rec : GT_Md_by_Md_fewestBy} (HR : H_Md_by_Md_fewestBy G l n0 rec) (IH : I_Md_fewestBy G p l e s m args below meth c n0 rec z0 u0 n) (v0R : Nat) (v1I : Int32) (v3I : Int32) (v4I : Int32) (v5I : Int32) (σ : AM) : VX (QM eI G args s below z0 u0) G p l e s m args below meth c (1 + n0 + 1) z0 u0 7 (lpK (lpn (F_Md_fewestBy rec) n) (T_Md_fewestBy_7 rec v0R v1I v3I v4I v5I σ)) 100 [(0, .ref v0R), (1, .int v1I), (3, .int v3I), (4, .int v4I), (5, .int v5I)] [] σ := by
  unfold T_Md_fewestBy_7
  refine x_iload C d_Md_fewestBy_100 4 rfl ?_
  refine x_aload_n C d_Md_fewestBy_102 0 rfl ?_
  refine x_gd (fun h3 => ?_)
  refine x_callVI (As := []) C (c_Md_sets G l v0R  σ) (okO_iff.mp h3) rfl w1826 w58 w1824 w1827 w134 k_Md_sets rfl (by omega) (by decide) rfl (Nat.le_of_ble_eq_true rfl) d_Md_fewestBy_103 (fun r1 σ2 => ?_)
  refine x_icmp_ge (tgt := 144) C d_Md_fewestBy_106 (by decide) (fun _ => ?_) (fun _ => ?_)
  · refine x_iload_n C d_Md_fewestBy_109 2 rfl ?_
    refine x_if_ne (tgt := 144) C d_Md_fewestBy_110 (by decide) (fun _ => ?_) (fun _ => ?_)
    · refine x_aload_n C d_Md_fewestBy_113 0 rfl ?_
      refine x_iload_n C d_Md_fewestBy_114 1 rfl ?_
      refine x_iload C d_Md_fewestBy_115 4 rfl ?_
      refine x_gd (fun h6 => ?_)
      refine x_callVI (As := [.int v1I, .int v5I]) C (HR.1 v0R v1I v5I σ2) (okO_iff.mp h6) rfl w2362 w107 w2360 w2363 w134 k_Md_by rfl (by omega) (by decide) rfl (Nat.le_of_ble_eq_true rfl) d_Md_fewestBy_117 (fun r4 σ5 => ?_)
      refine x_istore (lv' := [(6, .int r4), (0, .ref v0R), (1, .int v1I), (3, .int v3I), (4, .int v4I), (5, .int v5I)]) C d_Md_fewestBy_120 (by decide) rfl ?_
      refine x_iload C d_Md_fewestBy_122 0 rfl ?_
      refine x_iload C d_Md_fewestBy_124 4 rfl ?_
      refine x_icmp_ge (tgt := 134) C d_Md_fewestBy_126 (by decide) (fun _ => ?_) (fun _ => ?_)
      · refine x_iload C d_Md_fewestBy_129 0 rfl ?_
        refine x_goto (tgt := 136) C d_Md_fewestBy_131 (by decide) ?_
        refine x_lv [1, 2, 3, 5] rfl ?_
        exact IH.2.2.2.2.2.2.2.2.1 v0R v1I v3I v5I r4 (σ5)
      · refine x_iload C d_Md_fewestBy_134 4 rfl ?_
        refine x_lv [1, 2, 3, 5] rfl ?_
        exact IH.2.2.2.2.2.2.2.2.1 v0R v1I v3I v5I v4I (σ5)
    · refine x_lv [0, 1, 3] rfl ?_
      exact IH.2.2.2.2.2.2.2.2.2 v0R v1I v4I (σ2)
  · refine x_lv [0, 1, 3] rfl ?_
    exact IH.2.2.2.2.2.2.2.2.2 v0R v1I v4I (σ2)
set_option maxRecDepth 20000 in
theorem s_Md_fewestBy_8 {G : GX} {p : Program} {l : Launch} {e : Env} {s : State} {m : MethodId} {args : Array Value} {below : List Frame} {meth : Method} {c : Code} {z0 u0 n : Nat} (C : Cx G p s m args meth c prog_14_method_82_code 7 "BellPlateModel" ((some FieldType.int))) {n0 : Nat} {rec : GT_Md_by_Md_fewestBy} (HR : H_Md_by_Md_fewestBy G l n0 rec) (IH : I_Md_fewestBy G p l e s m args below meth c n0 rec z0 u0 n) (v0R : Nat) (v1I : Int32) (v3I : Int32) (v5I : Int32) (s0I : Int32) (σ : AM) : VX (QM eI G args s below z0 u0) G p l e s m args below meth c (1 + n0 + 1) z0 u0 7 (lpK (lpn (F_Md_fewestBy rec) n) (T_Md_fewestBy_8 rec v0R v1I v3I v5I s0I σ)) 136 [(0, .ref v0R), (1, .int v1I), (3, .int v3I), (5, .int v5I)] [.int s0I] σ := by
  unfold T_Md_fewestBy_8
  refine x_istore (lv' := [(4, .int s0I), (0, .ref v0R), (1, .int v1I), (3, .int v3I), (5, .int v5I)]) C d_Md_fewestBy_136 (by decide) rfl ?_
  refine x_iinc (v := v5I + (1 : Int32)) (lv' := [(5, .int (v5I + (1 : Int32))), (4, .int s0I), (0, .ref v0R), (1, .int v1I), (3, .int v3I)]) C d_Md_fewestBy_138 4 rfl rfl (by decide) rfl ?_
  refine x_goto (tgt := 100) C d_Md_fewestBy_141 (by decide) ?_
  refine x_lv [2, 3, 4, 1, 0] rfl ?_
  exact IH.2.2.2.2.2.2.2.1 v0R v1I v3I s0I (v5I + (1 : Int32)) (σ)
set_option maxRecDepth 20000 in
theorem s_Md_fewestBy_9 {G : GX} {p : Program} {l : Launch} {e : Env} {s : State} {m : MethodId} {args : Array Value} {below : List Frame} {meth : Method} {c : Code} {z0 u0 n : Nat} (C : Cx G p s m args meth c prog_14_method_82_code 7 "BellPlateModel" ((some FieldType.int))) {n0 : Nat} {rec : GT_Md_by_Md_fewestBy} (HR : H_Md_by_Md_fewestBy G l n0 rec) (IH : I_Md_fewestBy G p l e s m args below meth c n0 rec z0 u0 n) (v0R : Nat) (v1I : Int32) (v4I : Int32) (σ : AM) : VX (QM eI G args s below z0 u0) G p l e s m args below meth c (1 + n0 + 1) z0 u0 7 (lpK (lpn (F_Md_fewestBy rec) n) (T_Md_fewestBy_9 rec v0R v1I v4I σ)) 144 [(0, .ref v0R), (1, .int v1I), (4, .int v4I)] [] σ := by
  unfold T_Md_fewestBy_9
  refine x_aload_n C d_Md_fewestBy_144 0 rfl ?_
  refine x_gd (fun h1 => ?_)
  refine x_gd (fun h2 => ?_)
  refine x_getR (k := 59) (kv := 101) C (okO_iff.mp h1) rfl j11_ok (by decide) rfl (okO_iff.mp h2) (by decide) w1911 d_Md_fewestBy_145 ?_
  refine x_iload_n C d_Md_fewestBy_148 1 rfl ?_
  refine x_iload C d_Md_fewestBy_149 2 rfl ?_
  refine x_gd (fun h3 => ?_)
  refine x_astI C (okO_iff.mp h2) (inB_iff.mp h3) d_Md_fewestBy_151 ?_
  refine x_letS (fun σ4 e5 => ?_)
  refine x_iload C d_Md_fewestBy_152 2 rfl ?_
  exact x_iret C d_Md_fewestBy_154
theorem i_Md_fewestBy {G : GX} {p : Program} {l : Launch} {e : Env} {s : State} {m : MethodId} {args : Array Value} {below : List Frame} {meth : Method} {c : Code} {z0 u0 : Nat} (C : Cx G p s m args meth c prog_14_method_82_code 7 "BellPlateModel" ((some FieldType.int))) {n0 : Nat} {rec : GT_Md_by_Md_fewestBy} (HR : H_Md_by_Md_fewestBy G l n0 rec) (n : Nat) : I_Md_fewestBy G p l e s m args below meth c n0 rec z0 u0 n := by
  induction n with
  | zero => exact ⟨fun _ _ _ => x_none, fun _ _ _ _ _ _ => x_none, fun _ _ _ _ _ _ => x_none, fun _ _ _ _ _ => x_none, fun _ _ _ _ _ _ => x_none, fun _ _ _ _ _ _ => x_none, fun _ _ _ _ _ => x_none, fun _ _ _ _ _ _ => x_none, fun _ _ _ _ _ _ => x_none, fun _ _ _ _ => x_none⟩
  | succ n IH => exact ⟨fun v0R v1I σ => s_Md_fewestBy_0 C HR IH v0R v1I σ, fun v0R v1I v2I v3I v4I σ => s_Md_fewestBy_1 C HR IH v0R v1I v2I v3I v4I σ, fun v0R v1I v3I v4I s0I σ => s_Md_fewestBy_2 C HR IH v0R v1I v3I v4I s0I σ, fun v0R v1I v2I v4I σ => s_Md_fewestBy_3 C HR IH v0R v1I v2I v4I σ, fun v0R v1I v2I v4I s0I σ => s_Md_fewestBy_4 C HR IH v0R v1I v2I v4I s0I σ, fun v0R v1I v2I v3I v4I σ => s_Md_fewestBy_5 C HR IH v0R v1I v2I v3I v4I σ, fun v0R v1I v3I s0I σ => s_Md_fewestBy_6 C HR IH v0R v1I v3I s0I σ, fun v0R v1I v3I v4I v5I σ => s_Md_fewestBy_7 C HR IH v0R v1I v3I v4I v5I σ, fun v0R v1I v3I v5I s0I σ => s_Md_fewestBy_8 C HR IH v0R v1I v3I v5I s0I σ, fun v0R v1I v4I σ => s_Md_fewestBy_9 C HR IH v0R v1I v4I σ⟩
theorem n_Md_fewestBy (G : GX) (l : Launch) (n0 : Nat) (rec : GT_Md_by_Md_fewestBy) (HR : H_Md_by_Md_fewestBy G l n0 rec) (v0R : Nat) (v1I : Int32) (σ : AM) : CT eI G l (1 + (n0 + 1)) y_Md_fewestBy prog_14_method_82_code 7 ((some FieldType.int)) [.ref v0R, .int v1I] σ (N_Md_fewestBy rec v0R v1I σ) := by
  refine ct_of (by decide +kernel) (Nat.le_of_ble_eq_true rfl) (fun p e s m args below meth c C hin => ?_)
  refine x_lve (lv' := [(0, .ref v0R), (1, .int v1I)]) rfl ?_
  intro r σ' h
  obtain ⟨n, hn⟩ := (lp_iff _ _ _).mp h
  exact (i_Md_fewestBy C HR n).1 v0R v1I σ r σ' hn
noncomputable def Q_Md_by_Md_fewestBy : Nat → GT_Md_by_Md_fewestBy
  | 0 => (fun _ _ _ _ => none, fun _ _ _ => none)
  | n + 1 => (fun v0R v1I v2I σ => N_Md_by (Q_Md_by_Md_fewestBy n) v0R v1I v2I σ, fun v0R v1I σ => N_Md_fewestBy (Q_Md_by_Md_fewestBy n) v0R v1I σ)
theorem q_Md_by_Md_fewestBy (G : GX) (l : Launch) (n : Nat) : H_Md_by_Md_fewestBy G l n (Q_Md_by_Md_fewestBy n) := by
  induction n with
  | zero => exact ⟨fun _ _ _ _ r σ' h => absurd (show none = some (r, σ') from h) (fun q => by cases q), fun _ _ _ r σ' h => absurd (show none = some (r, σ') from h) (fun q => by cases q)⟩
  | succ n ih => exact ⟨fun v0R v1I v2I σ => n_Md_by G l n (Q_Md_by_Md_fewestBy n) ih v0R v1I v2I σ, fun v0R v1I σ => n_Md_fewestBy G l n (Q_Md_by_Md_fewestBy n) ih v0R v1I σ⟩
noncomputable def M_Md_by (v0R : Nat) (v1I : Int32) (v2I : Int32) (σ : AM) : Option (Int32 × AM) := (Q_Md_by_Md_fewestBy 80).1 v0R v1I v2I σ
theorem c_Md_by (G : GX) (l : Launch) (v0R : Nat) (v1I : Int32) (v2I : Int32) (σ : AM) : CT eI G l 81 y_Md_by prog_14_method_83_code 7 ((some FieldType.int)) [.ref v0R, .int v1I, .int v2I] σ (M_Md_by v0R v1I v2I σ) := (q_Md_by_Md_fewestBy G l 80).1 v0R v1I v2I σ
noncomputable def M_Md_fewestBy (v0R : Nat) (v1I : Int32) (σ : AM) : Option (Int32 × AM) := (Q_Md_by_Md_fewestBy 80).2 v0R v1I σ
theorem c_Md_fewestBy (G : GX) (l : Launch) (v0R : Nat) (v1I : Int32) (σ : AM) : CT eI G l 81 y_Md_fewestBy prog_14_method_82_code 7 ((some FieldType.int)) [.ref v0R, .int v1I] σ (M_Md_fewestBy v0R v1I σ) := (q_Md_by_Md_fewestBy G l 80).2 v0R v1I σ

/-! BellPlateModel.findFewest(I)I -/
abbrev y_Md_findFewest : MethodName := ⟨"BellPlateModel", "findFewest", "(I)I"⟩
theorem k_Md_findFewest : y_Md_findFewest.cls ≠ "java/lang/invoke/MethodHandle" ∧ y_Md_findFewest.cls ≠ "java/lang/invoke/VarHandle" ∧ (parseMethodDescriptor y_Md_findFewest.desc).map (fun d => d.parameters.length) = some 1 := by decide +kernel
theorem d_Md_findFewest_0 : decode prog_14_method_84_code 0 = .ok (.iconst 0, 1) := by decide +kernel
theorem d_Md_findFewest_1 : decode prog_14_method_84_code 1 = .ok (.istore_n 2, 1) := by decide +kernel
theorem d_Md_findFewest_2 : decode prog_14_method_84_code 2 = .ok (.iload_n 2, 1) := by decide +kernel
theorem d_Md_findFewest_3 : decode prog_14_method_84_code 3 = .ok (.aload_n 0, 1) := by decide +kernel
theorem d_Md_findFewest_4 : decode prog_14_method_84_code 4 = .ok (.invokevirtual 306, 3) := by decide +kernel
theorem d_Md_findFewest_7 : decode prog_14_method_84_code 7 = .ok (.if_icmp .ge 66, 3) := by decide +kernel
theorem d_Md_findFewest_10 : decode prog_14_method_84_code 10 = .ok (.aload_n 0, 1) := by decide +kernel
theorem d_Md_findFewest_11 : decode prog_14_method_84_code 11 = .ok (.getfield 134, 3) := by decide +kernel
theorem d_Md_findFewest_14 : decode prog_14_method_84_code 14 = .ok (.iload_n 2, 1) := by decide +kernel
theorem d_Md_findFewest_15 : decode prog_14_method_84_code 15 = .ok (.iconst 0, 1) := by decide +kernel
theorem d_Md_findFewest_16 : decode prog_14_method_84_code 16 = .ok (.iastore, 1) := by decide +kernel
theorem d_Md_findFewest_17 : decode prog_14_method_84_code 17 = .ok (.iconst 0, 1) := by decide +kernel
theorem d_Md_findFewest_18 : decode prog_14_method_84_code 18 = .ok (.istore_n 3, 1) := by decide +kernel
theorem d_Md_findFewest_19 : decode prog_14_method_84_code 19 = .ok (.iload_n 3, 1) := by decide +kernel
theorem d_Md_findFewest_20 : decode prog_14_method_84_code 20 = .ok (.aload_n 0, 1) := by decide +kernel
theorem d_Md_findFewest_21 : decode prog_14_method_84_code 21 = .ok (.getfield 372, 3) := by decide +kernel
theorem d_Md_findFewest_24 : decode prog_14_method_84_code 24 = .ok (.if_icmp .ge 43, 3) := by decide +kernel
theorem d_Md_findFewest_27 : decode prog_14_method_84_code 27 = .ok (.aload_n 0, 1) := by decide +kernel
theorem d_Md_findFewest_28 : decode prog_14_method_84_code 28 = .ok (.getfield 134, 3) := by decide +kernel
theorem d_Md_findFewest_31 : decode prog_14_method_84_code 31 = .ok (.iload_n 2, 1) := by decide +kernel
theorem d_Md_findFewest_32 : decode prog_14_method_84_code 32 = .ok (.dup2, 1) := by decide +kernel
theorem d_Md_findFewest_33 : decode prog_14_method_84_code 33 = .ok (.iaload, 1) := by decide +kernel
theorem d_Md_findFewest_34 : decode prog_14_method_84_code 34 = .ok (.aload_n 0, 1) := by decide +kernel
theorem d_Md_findFewest_35 : decode prog_14_method_84_code 35 = .ok (.getfield 82, 3) := by decide +kernel
theorem d_Md_findFewest_38 : decode prog_14_method_84_code 38 = .ok (.aload_n 0, 1) := by decide +kernel
theorem d_Md_findFewest_39 : decode prog_14_method_84_code 39 = .ok (.getfield 116, 3) := by decide +kernel
theorem d_Md_findFewest_42 : decode prog_14_method_84_code 42 = .ok (.iload_n 3, 1) := by decide +kernel
theorem d_Md_findFewest_43 : decode prog_14_method_84_code 43 = .ok (.iaload, 1) := by decide +kernel
theorem d_Md_findFewest_44 : decode prog_14_method_84_code 44 = .ok (.laload, 1) := by decide +kernel
theorem d_Md_findFewest_45 : decode prog_14_method_84_code 45 = .ok (.iload_n 2, 1) := by decide +kernel
theorem d_Md_findFewest_46 : decode prog_14_method_84_code 46 = .ok (.invokestatic 357, 3) := by decide +kernel
theorem d_Md_findFewest_49 : decode prog_14_method_84_code 49 = .ok (.ifCond .eq 9, 3) := by decide +kernel
theorem d_Md_findFewest_52 : decode prog_14_method_84_code 52 = .ok (.iconst 1, 1) := by decide +kernel
theorem d_Md_findFewest_53 : decode prog_14_method_84_code 53 = .ok (.iload_n 3, 1) := by decide +kernel
theorem d_Md_findFewest_54 : decode prog_14_method_84_code 54 = .ok (.ishl, 1) := by decide +kernel
theorem d_Md_findFewest_55 : decode prog_14_method_84_code 55 = .ok (.goto 4, 3) := by decide +kernel
theorem d_Md_findFewest_58 : decode prog_14_method_84_code 58 = .ok (.iconst 0, 1) := by decide +kernel
theorem d_Md_findFewest_59 : decode prog_14_method_84_code 59 = .ok (.ior, 1) := by decide +kernel
theorem d_Md_findFewest_60 : decode prog_14_method_84_code 60 = .ok (.iastore, 1) := by decide +kernel
theorem d_Md_findFewest_61 : decode prog_14_method_84_code 61 = .ok (.iinc 3 1, 3) := by decide +kernel
theorem d_Md_findFewest_64 : decode prog_14_method_84_code 64 = .ok (.goto (-45), 3) := by decide +kernel
theorem d_Md_findFewest_67 : decode prog_14_method_84_code 67 = .ok (.iinc 2 1, 3) := by decide +kernel
theorem d_Md_findFewest_70 : decode prog_14_method_84_code 70 = .ok (.goto (-68), 3) := by decide +kernel
theorem d_Md_findFewest_73 : decode prog_14_method_84_code 73 = .ok (.iconst 1, 1) := by decide +kernel
theorem d_Md_findFewest_74 : decode prog_14_method_84_code 74 = .ok (.aload_n 0, 1) := by decide +kernel
theorem d_Md_findFewest_75 : decode prog_14_method_84_code 75 = .ok (.getfield 372, 3) := by decide +kernel
theorem d_Md_findFewest_78 : decode prog_14_method_84_code 78 = .ok (.ishl, 1) := by decide +kernel
theorem d_Md_findFewest_79 : decode prog_14_method_84_code 79 = .ok (.iconst 1, 1) := by decide +kernel
theorem d_Md_findFewest_80 : decode prog_14_method_84_code 80 = .ok (.isub, 1) := by decide +kernel
theorem d_Md_findFewest_81 : decode prog_14_method_84_code 81 = .ok (.istore_n 2, 1) := by decide +kernel
theorem d_Md_findFewest_82 : decode prog_14_method_84_code 82 = .ok (.iconst 0, 1) := by decide +kernel
theorem d_Md_findFewest_83 : decode prog_14_method_84_code 83 = .ok (.istore_n 3, 1) := by decide +kernel
theorem d_Md_findFewest_84 : decode prog_14_method_84_code 84 = .ok (.iload_n 3, 1) := by decide +kernel
theorem d_Md_findFewest_85 : decode prog_14_method_84_code 85 = .ok (.iload_n 2, 1) := by decide +kernel
theorem d_Md_findFewest_86 : decode prog_14_method_84_code 86 = .ok (.if_icmp .gt 16, 3) := by decide +kernel
theorem d_Md_findFewest_89 : decode prog_14_method_84_code 89 = .ok (.aload_n 0, 1) := by decide +kernel
theorem d_Md_findFewest_90 : decode prog_14_method_84_code 90 = .ok (.getfield 137, 3) := by decide +kernel
theorem d_Md_findFewest_93 : decode prog_14_method_84_code 93 = .ok (.iload_n 3, 1) := by decide +kernel
theorem d_Md_findFewest_94 : decode prog_14_method_84_code 94 = .ok (.iconst (-1), 1) := by decide +kernel
theorem d_Md_findFewest_95 : decode prog_14_method_84_code 95 = .ok (.iastore, 1) := by decide +kernel
theorem d_Md_findFewest_96 : decode prog_14_method_84_code 96 = .ok (.iinc 3 1, 3) := by decide +kernel
theorem d_Md_findFewest_99 : decode prog_14_method_84_code 99 = .ok (.goto (-15), 3) := by decide +kernel
theorem d_Md_findFewest_102 : decode prog_14_method_84_code 102 = .ok (.aload_n 0, 1) := by decide +kernel
theorem d_Md_findFewest_103 : decode prog_14_method_84_code 103 = .ok (.iload_n 2, 1) := by decide +kernel
theorem d_Md_findFewest_104 : decode prog_14_method_84_code 104 = .ok (.invokevirtual 463, 3) := by decide +kernel
theorem d_Md_findFewest_107 : decode prog_14_method_84_code 107 = .ok (.istore_n 3, 1) := by decide +kernel
theorem d_Md_findFewest_108 : decode prog_14_method_84_code 108 = .ok (.iload_n 1, 1) := by decide +kernel
theorem d_Md_findFewest_109 : decode prog_14_method_84_code 109 = .ok (.ifCond .eq 7, 3) := by decide +kernel
theorem d_Md_findFewest_112 : decode prog_14_method_84_code 112 = .ok (.iload_n 3, 1) := by decide +kernel
theorem d_Md_findFewest_113 : decode prog_14_method_84_code 113 = .ok (.ifCond .ne 13, 3) := by decide +kernel
theorem d_Md_findFewest_116 : decode prog_14_method_84_code 116 = .ok (.iload_n 1, 1) := by decide +kernel
theorem d_Md_findFewest_117 : decode prog_14_method_84_code 117 = .ok (.ifCond .ne 7, 3) := by decide +kernel
theorem d_Md_findFewest_120 : decode prog_14_method_84_code 120 = .ok (.iload_n 3, 1) := by decide +kernel
theorem d_Md_findFewest_121 : decode prog_14_method_84_code 121 = .ok (.goto 4, 3) := by decide +kernel
theorem d_Md_findFewest_124 : decode prog_14_method_84_code 124 = .ok (.iconst (-1), 1) := by decide +kernel
theorem d_Md_findFewest_125 : decode prog_14_method_84_code 125 = .ok (.ireturn, 1) := by decide +kernel
theorem d_Md_findFewest_126 : decode prog_14_method_84_code 126 = .ok (.iconst 0, 1) := by decide +kernel
theorem d_Md_findFewest_127 : decode prog_14_method_84_code 127 = .ok (.istore 4, 2) := by decide +kernel
theorem d_Md_findFewest_129 : decode prog_14_method_84_code 129 = .ok (.aload_n 0, 1) := by decide +kernel
theorem d_Md_findFewest_130 : decode prog_14_method_84_code 130 = .ok (.iload_n 2, 1) := by decide +kernel
theorem d_Md_findFewest_131 : decode prog_14_method_84_code 131 = .ok (.iload 4, 2) := by decide +kernel
theorem d_Md_findFewest_133 : decode prog_14_method_84_code 133 = .ok (.invokevirtual 460, 3) := by decide +kernel
theorem d_Md_findFewest_136 : decode prog_14_method_84_code 136 = .ok (.iload_n 3, 1) := by decide +kernel
theorem d_Md_findFewest_137 : decode prog_14_method_84_code 137 = .ok (.if_icmp .eq 9, 3) := by decide +kernel
theorem d_Md_findFewest_140 : decode prog_14_method_84_code 140 = .ok (.iinc 4 1, 3) := by decide +kernel
theorem d_Md_findFewest_143 : decode prog_14_method_84_code 143 = .ok (.goto (-14), 3) := by decide +kernel
theorem d_Md_findFewest_146 : decode prog_14_method_84_code 146 = .ok (.iload 4, 2) := by decide +kernel
theorem d_Md_findFewest_148 : decode prog_14_method_84_code 148 = .ok (.ireturn, 1) := by decide +kernel
abbrev S_Md_findFewest : Type := Nat × Nat × Int32 × Int32 × Int32 × Int32 × Int32 × Nat × Int32 × Int32 × Int32 × AM
noncomputable def T_Md_findFewest_0 (v0R : Nat) (v1I : Int32) (σ : AM) : S_Md_findFewest ⊕ Option (Int32 × AM) :=
  .inl (1, v0R, v1I, (0 : Int32), 0, 0, 0, 0, 0, 0, 0, σ)
noncomputable def T_Md_findFewest_1 (v0R : Nat) (v1I : Int32) (v2I : Int32) (σ : AM) : S_Md_findFewest ⊕ Option (Int32 × AM) :=
  gdT (okO σ v0R 12) <| bndT (M_Md_sets v0R σ) fun r1 σ2 => if v2I < r1 then (gdT (okO σ2 v0R 12) <| gdT (okO σ2 (aR σ2 v0R 58) 101) <| gdT (inB v2I (aN σ2 (aR σ2 v0R 58))) <| letT (sI σ2 (aR σ2 v0R 58) v2I.toNatClampNeg (0 : Int32)) fun σ7 => .inl (2, v0R, v1I, v2I, (0 : Int32), 0, 0, 0, 0, 0, 0, σ7)) else (gdT (okO σ2 v0R 12) <| letT (((1 : Int32) <<< ((aI σ2 v0R 46) &&& 31)) - (1 : Int32)) fun x10 => .inl (4, v0R, v1I, x10, (0 : Int32), 0, 0, 0, 0, 0, 0, σ2))
noncomputable def T_Md_findFewest_2 (v0R : Nat) (v1I : Int32) (v2I : Int32) (v3I : Int32) (σ : AM) : S_Md_findFewest ⊕ Option (Int32 × AM) :=
  gdT (okO σ v0R 12) <| if v3I < (aI σ v0R 46) then (gdT (okO σ (aR σ v0R 58) 101) <| gdT (inB v2I (aN σ (aR σ v0R 58))) <| gdT (okO σ (aR σ v0R 30) 102) <| gdT (okO σ (aR σ v0R 45) 101) <| gdT (inB v3I (aN σ (aR σ v0R 45))) <| gdT (inB (aI σ (aR σ v0R 45) v3I.toNatClampNeg) (aN σ (aR σ v0R 30))) <| bndT (M_Md_doesRing (aL σ (aR σ v0R 30) (aI σ (aR σ v0R 45) v3I.toNatClampNeg).toNatClampNeg) v2I σ) fun r8 σ9 => if r8 = 0 then (.inl (3, v0R, v1I, v2I, v3I, 0, 0, aR σ v0R 58, v2I, aI σ (aR σ v0R 58) v2I.toNatClampNeg, (0 : Int32), σ9)) else (.inl (3, v0R, v1I, v2I, v3I, 0, 0, aR σ v0R 58, v2I, aI σ (aR σ v0R 58) v2I.toNatClampNeg, (1 : Int32) <<< (v3I &&& 31), σ9))) else (.inl (1, v0R, v1I, v2I + (1 : Int32), 0, 0, 0, 0, 0, 0, 0, σ))
noncomputable def T_Md_findFewest_3 (v0R : Nat) (v1I : Int32) (v2I : Int32) (v3I : Int32) (s0R : Nat) (s1I : Int32) (s2I : Int32) (s3I : Int32) (σ : AM) : S_Md_findFewest ⊕ Option (Int32 × AM) :=
  gdT (okO σ s0R 101) <| gdT (inB s1I (aN σ s0R)) <| letT (sI σ s0R s1I.toNatClampNeg (s2I ||| s3I)) fun σ3 => .inl (2, v0R, v1I, v2I, v3I + (1 : Int32), 0, 0, 0, 0, 0, 0, σ3)
noncomputable def T_Md_findFewest_4 (v0R : Nat) (v1I : Int32) (v2I : Int32) (v3I : Int32) (σ : AM) : S_Md_findFewest ⊕ Option (Int32 × AM) :=
  if v2I < v3I then (gdT (okO σ v0R 12) <| bndT (M_Md_fewestBy v0R v2I σ) fun r1 σ2 => if v1I = 0 then (.inl (5, 0, v1I, 0, r1, 0, 0, 0, 0, 0, 0, σ2)) else (if r1 = 0 then (.inl (5, 0, v1I, 0, r1, 0, 0, 0, 0, 0, 0, σ2)) else (.inl (7, v0R, 0, v2I, r1, (0 : Int32), 0, 0, 0, 0, 0, σ2)))) else (gdT (okO σ v0R 12) <| gdT (okO σ (aR σ v0R 59) 101) <| gdT (inB v3I (aN σ (aR σ v0R 59))) <| letT (sI σ (aR σ v0R 59) v3I.toNatClampNeg ((-1) : Int32)) fun σ7 => .inl (4, v0R, v1I, v2I, v3I + (1 : Int32), 0, 0, 0, 0, 0, 0, σ7))
noncomputable def T_Md_findFewest_5 (v1I : Int32) (v3I : Int32) (σ : AM) : S_Md_findFewest ⊕ Option (Int32 × AM) :=
  if v1I = 0 then (.inl (6, 0, 0, 0, 0, 0, v3I, 0, 0, 0, 0, σ)) else (.inl (6, 0, 0, 0, 0, 0, ((-1) : Int32), 0, 0, 0, 0, σ))
noncomputable def T_Md_findFewest_6 (s0I : Int32) (σ : AM) : S_Md_findFewest ⊕ Option (Int32 × AM) :=
  .inr (some (s0I, σ))
noncomputable def T_Md_findFewest_7 (v0R : Nat) (v2I : Int32) (v3I : Int32) (v4I : Int32) (σ : AM) : S_Md_findFewest ⊕ Option (Int32 × AM) :=
  gdT (okO σ v0R 12) <| bndT (M_Md_by v0R v2I v4I σ) fun r1 σ2 => if r1 = v3I then (.inr (some (v4I, σ2))) else (.inl (7, v0R, 0, v2I, v3I, v4I + (1 : Int32), 0, 0, 0, 0, 0, σ2))
noncomputable def F_Md_findFewest : S_Md_findFewest → S_Md_findFewest ⊕ Option (Int32 × AM) := fun s => match s.1 with
  | 0 => T_Md_findFewest_0 (s.2.1) (s.2.2.1) (s.2.2.2.2.2.2.2.2.2.2.2)
  | 1 => T_Md_findFewest_1 (s.2.1) (s.2.2.1) (s.2.2.2.1) (s.2.2.2.2.2.2.2.2.2.2.2)
  | 2 => T_Md_findFewest_2 (s.2.1) (s.2.2.1) (s.2.2.2.1) (s.2.2.2.2.1) (s.2.2.2.2.2.2.2.2.2.2.2)
  | 3 => T_Md_findFewest_3 (s.2.1) (s.2.2.1) (s.2.2.2.1) (s.2.2.2.2.1) (s.2.2.2.2.2.2.2.1) (s.2.2.2.2.2.2.2.2.1) (s.2.2.2.2.2.2.2.2.2.1) (s.2.2.2.2.2.2.2.2.2.2.1) (s.2.2.2.2.2.2.2.2.2.2.2)
  | 4 => T_Md_findFewest_4 (s.2.1) (s.2.2.1) (s.2.2.2.1) (s.2.2.2.2.1) (s.2.2.2.2.2.2.2.2.2.2.2)
  | 5 => T_Md_findFewest_5 (s.2.2.1) (s.2.2.2.2.1) (s.2.2.2.2.2.2.2.2.2.2.2)
  | 6 => T_Md_findFewest_6 (s.2.2.2.2.2.2.1) (s.2.2.2.2.2.2.2.2.2.2.2)
  | _ => T_Md_findFewest_7 (s.2.1) (s.2.2.2.1) (s.2.2.2.2.1) (s.2.2.2.2.2.1) (s.2.2.2.2.2.2.2.2.2.2.2)
noncomputable def L_Md_findFewest_0 (v0R : Nat) (v1I : Int32) (σ : AM) : Option (Int32 × AM) := lp F_Md_findFewest (0, v0R, v1I, 0, 0, 0, 0, 0, 0, 0, 0, σ)
noncomputable def L_Md_findFewest_1 (v0R : Nat) (v1I : Int32) (v2I : Int32) (σ : AM) : Option (Int32 × AM) := lp F_Md_findFewest (1, v0R, v1I, v2I, 0, 0, 0, 0, 0, 0, 0, σ)
noncomputable def L_Md_findFewest_2 (v0R : Nat) (v1I : Int32) (v2I : Int32) (v3I : Int32) (σ : AM) : Option (Int32 × AM) := lp F_Md_findFewest (2, v0R, v1I, v2I, v3I, 0, 0, 0, 0, 0, 0, σ)
noncomputable def L_Md_findFewest_3 (v0R : Nat) (v1I : Int32) (v2I : Int32) (v3I : Int32) (s0R : Nat) (s1I : Int32) (s2I : Int32) (s3I : Int32) (σ : AM) : Option (Int32 × AM) := lp F_Md_findFewest (3, v0R, v1I, v2I, v3I, 0, 0, s0R, s1I, s2I, s3I, σ)
noncomputable def L_Md_findFewest_4 (v0R : Nat) (v1I : Int32) (v2I : Int32) (v3I : Int32) (σ : AM) : Option (Int32 × AM) := lp F_Md_findFewest (4, v0R, v1I, v2I, v3I, 0, 0, 0, 0, 0, 0, σ)
noncomputable def L_Md_findFewest_5 (v1I : Int32) (v3I : Int32) (σ : AM) : Option (Int32 × AM) := lp F_Md_findFewest (5, 0, v1I, 0, v3I, 0, 0, 0, 0, 0, 0, σ)
noncomputable def L_Md_findFewest_6 (s0I : Int32) (σ : AM) : Option (Int32 × AM) := lp F_Md_findFewest (6, 0, 0, 0, 0, 0, s0I, 0, 0, 0, 0, σ)
noncomputable def L_Md_findFewest_7 (v0R : Nat) (v2I : Int32) (v3I : Int32) (v4I : Int32) (σ : AM) : Option (Int32 × AM) := lp F_Md_findFewest (7, v0R, 0, v2I, v3I, v4I, 0, 0, 0, 0, 0, σ)
set_option maxRecDepth 20000 in
theorem E_Md_findFewest_0 (v0R : Nat) (v1I : Int32) (σ : AM) : L_Md_findFewest_0 v0R v1I σ = (L_Md_findFewest_1 v0R v1I ((0 : Int32)) σ) := by
  unfold L_Md_findFewest_0
  rw [lp_eq]
  show lpK (lp F_Md_findFewest) (T_Md_findFewest_0 v0R v1I σ) = _
  unfold T_Md_findFewest_0
  simp only [lpK_ite, lq_inl, lq_inr, lpK_bnd, lpK_gd, lq_let]
  try rfl
set_option maxRecDepth 20000 in
theorem E_Md_findFewest_1 (v0R : Nat) (v1I : Int32) (v2I : Int32) (σ : AM) : L_Md_findFewest_1 v0R v1I v2I σ = (gd (okO σ v0R 12) <| bnd (M_Md_sets v0R σ) fun r1 σ2 => if v2I < r1 then (gd (okO σ2 v0R 12) <| gd (okO σ2 (aR σ2 v0R 58) 101) <| gd (inB v2I (aN σ2 (aR σ2 v0R 58))) <| letT (sI σ2 (aR σ2 v0R 58) v2I.toNatClampNeg (0 : Int32)) fun σ7 => L_Md_findFewest_2 v0R v1I v2I ((0 : Int32)) σ7) else (gd (okO σ2 v0R 12) <| letT (((1 : Int32) <<< ((aI σ2 v0R 46) &&& 31)) - (1 : Int32)) fun x10 => L_Md_findFewest_4 v0R v1I x10 ((0 : Int32)) σ2)) := by
  unfold L_Md_findFewest_1
  rw [lp_eq]
  show lpK (lp F_Md_findFewest) (T_Md_findFewest_1 v0R v1I v2I σ) = _
  unfold T_Md_findFewest_1
  simp only [lpK_ite, lq_inl, lq_inr, lpK_bnd, lpK_gd, lq_let]
  try rfl
set_option maxRecDepth 20000 in
theorem E_Md_findFewest_2 (v0R : Nat) (v1I : Int32) (v2I : Int32) (v3I : Int32) (σ : AM) : L_Md_findFewest_2 v0R v1I v2I v3I σ = (gd (okO σ v0R 12) <| if v3I < (aI σ v0R 46) then (gd (okO σ (aR σ v0R 58) 101) <| gd (inB v2I (aN σ (aR σ v0R 58))) <| gd (okO σ (aR σ v0R 30) 102) <| gd (okO σ (aR σ v0R 45) 101) <| gd (inB v3I (aN σ (aR σ v0R 45))) <| gd (inB (aI σ (aR σ v0R 45) v3I.toNatClampNeg) (aN σ (aR σ v0R 30))) <| bnd (M_Md_doesRing (aL σ (aR σ v0R 30) (aI σ (aR σ v0R 45) v3I.toNatClampNeg).toNatClampNeg) v2I σ) fun r8 σ9 => if r8 = 0 then (L_Md_findFewest_3 v0R v1I v2I v3I (aR σ v0R 58) v2I (aI σ (aR σ v0R 58) v2I.toNatClampNeg) ((0 : Int32)) σ9) else (L_Md_findFewest_3 v0R v1I v2I v3I (aR σ v0R 58) v2I (aI σ (aR σ v0R 58) v2I.toNatClampNeg) ((1 : Int32) <<< (v3I &&& 31)) σ9)) else (L_Md_findFewest_1 v0R v1I (v2I + (1 : Int32)) σ)) := by
  unfold L_Md_findFewest_2
  rw [lp_eq]
  show lpK (lp F_Md_findFewest) (T_Md_findFewest_2 v0R v1I v2I v3I σ) = _
  unfold T_Md_findFewest_2
  simp only [lpK_ite, lq_inl, lq_inr, lpK_bnd, lpK_gd, lq_let]
  try rfl
set_option maxRecDepth 20000 in
theorem E_Md_findFewest_3 (v0R : Nat) (v1I : Int32) (v2I : Int32) (v3I : Int32) (s0R : Nat) (s1I : Int32) (s2I : Int32) (s3I : Int32) (σ : AM) : L_Md_findFewest_3 v0R v1I v2I v3I s0R s1I s2I s3I σ = (gd (okO σ s0R 101) <| gd (inB s1I (aN σ s0R)) <| letT (sI σ s0R s1I.toNatClampNeg (s2I ||| s3I)) fun σ3 => L_Md_findFewest_2 v0R v1I v2I (v3I + (1 : Int32)) σ3) := by
  unfold L_Md_findFewest_3
  rw [lp_eq]
  show lpK (lp F_Md_findFewest) (T_Md_findFewest_3 v0R v1I v2I v3I s0R s1I s2I s3I σ) = _
  unfold T_Md_findFewest_3
  simp only [lpK_ite, lq_inl, lq_inr, lpK_bnd, lpK_gd, lq_let]
  try rfl
set_option maxRecDepth 20000 in
theorem E_Md_findFewest_4 (v0R : Nat) (v1I : Int32) (v2I : Int32) (v3I : Int32) (σ : AM) : L_Md_findFewest_4 v0R v1I v2I v3I σ = (if v2I < v3I then (gd (okO σ v0R 12) <| bnd (M_Md_fewestBy v0R v2I σ) fun r1 σ2 => if v1I = 0 then (L_Md_findFewest_5 v1I r1 σ2) else (if r1 = 0 then (L_Md_findFewest_5 v1I r1 σ2) else (L_Md_findFewest_7 v0R v2I r1 ((0 : Int32)) σ2))) else (gd (okO σ v0R 12) <| gd (okO σ (aR σ v0R 59) 101) <| gd (inB v3I (aN σ (aR σ v0R 59))) <| letT (sI σ (aR σ v0R 59) v3I.toNatClampNeg ((-1) : Int32)) fun σ7 => L_Md_findFewest_4 v0R v1I v2I (v3I + (1 : Int32)) σ7)) := by
  unfold L_Md_findFewest_4
  rw [lp_eq]
  show lpK (lp F_Md_findFewest) (T_Md_findFewest_4 v0R v1I v2I v3I σ) = _
  unfold T_Md_findFewest_4
  simp only [lpK_ite, lq_inl, lq_inr, lpK_bnd, lpK_gd, lq_let]
  try rfl
set_option maxRecDepth 20000 in
theorem E_Md_findFewest_5 (v1I : Int32) (v3I : Int32) (σ : AM) : L_Md_findFewest_5 v1I v3I σ = (if v1I = 0 then (L_Md_findFewest_6 v3I σ) else (L_Md_findFewest_6 (((-1) : Int32)) σ)) := by
  unfold L_Md_findFewest_5
  rw [lp_eq]
  show lpK (lp F_Md_findFewest) (T_Md_findFewest_5 v1I v3I σ) = _
  unfold T_Md_findFewest_5
  simp only [lpK_ite, lq_inl, lq_inr, lpK_bnd, lpK_gd, lq_let]
  try rfl
set_option maxRecDepth 20000 in
theorem E_Md_findFewest_6 (s0I : Int32) (σ : AM) : L_Md_findFewest_6 s0I σ = ((some (s0I, σ))) := by
  unfold L_Md_findFewest_6
  rw [lp_eq]
  show lpK (lp F_Md_findFewest) (T_Md_findFewest_6 s0I σ) = _
  unfold T_Md_findFewest_6
  simp only [lpK_ite, lq_inl, lq_inr, lpK_bnd, lpK_gd, lq_let]
  try rfl
set_option maxRecDepth 20000 in
theorem E_Md_findFewest_7 (v0R : Nat) (v2I : Int32) (v3I : Int32) (v4I : Int32) (σ : AM) : L_Md_findFewest_7 v0R v2I v3I v4I σ = (gd (okO σ v0R 12) <| bnd (M_Md_by v0R v2I v4I σ) fun r1 σ2 => if r1 = v3I then ((some (v4I, σ2))) else (L_Md_findFewest_7 v0R v2I v3I (v4I + (1 : Int32)) σ2)) := by
  unfold L_Md_findFewest_7
  rw [lp_eq]
  show lpK (lp F_Md_findFewest) (T_Md_findFewest_7 v0R v2I v3I v4I σ) = _
  unfold T_Md_findFewest_7
  simp only [lpK_ite, lq_inl, lq_inr, lpK_bnd, lpK_gd, lq_let]
  try rfl
noncomputable def M_Md_findFewest (v0R : Nat) (v1I : Int32) (σ : AM) : Option (Int32 × AM) := mw σ (L_Md_findFewest_0 v0R v1I σ)
def I_Md_findFewest (G : GX) (p : Program) (l : Launch) (e : Env) (s : State) (m : MethodId) (args : Array Value) (below : List Frame) (meth : Method) (c : Code) (z0 u0 n : Nat) : Prop :=
  (∀ (v0R : Nat) (v1I : Int32) (σ : AM), VX (QM eI G args s below z0 u0) G p l e s m args below meth c 82 z0 u0 5 (lpn F_Md_findFewest n (0, v0R, v1I, 0, 0, 0, 0, 0, 0, 0, 0, σ)) 0 [(0, .ref v0R), (1, .int v1I)] [] σ) ∧
  (∀ (v0R : Nat) (v1I : Int32) (v2I : Int32) (σ : AM), VX (QM eI G args s below z0 u0) G p l e s m args below meth c 82 z0 u0 5 (lpn F_Md_findFewest n (1, v0R, v1I, v2I, 0, 0, 0, 0, 0, 0, 0, σ)) 2 [(0, .ref v0R), (1, .int v1I), (2, .int v2I)] [] σ) ∧
  (∀ (v0R : Nat) (v1I : Int32) (v2I : Int32) (v3I : Int32) (σ : AM), VX (QM eI G args s below z0 u0) G p l e s m args below meth c 82 z0 u0 5 (lpn F_Md_findFewest n (2, v0R, v1I, v2I, v3I, 0, 0, 0, 0, 0, 0, σ)) 19 [(0, .ref v0R), (1, .int v1I), (2, .int v2I), (3, .int v3I)] [] σ) ∧
  (∀ (v0R : Nat) (v1I : Int32) (v2I : Int32) (v3I : Int32) (s0R : Nat) (s1I : Int32) (s2I : Int32) (s3I : Int32) (σ : AM), VX (QM eI G args s below z0 u0) G p l e s m args below meth c 82 z0 u0 5 (lpn F_Md_findFewest n (3, v0R, v1I, v2I, v3I, 0, 0, s0R, s1I, s2I, s3I, σ)) 59 [(0, .ref v0R), (1, .int v1I), (2, .int v2I), (3, .int v3I)] [.int s3I, .int s2I, .int s1I, .ref s0R] σ) ∧
  (∀ (v0R : Nat) (v1I : Int32) (v2I : Int32) (v3I : Int32) (σ : AM), VX (QM eI G args s below z0 u0) G p l e s m args below meth c 82 z0 u0 5 (lpn F_Md_findFewest n (4, v0R, v1I, v2I, v3I, 0, 0, 0, 0, 0, 0, σ)) 84 [(0, .ref v0R), (1, .int v1I), (2, .int v2I), (3, .int v3I)] [] σ) ∧
  (∀ (v1I : Int32) (v3I : Int32) (σ : AM), VX (QM eI G args s below z0 u0) G p l e s m args below meth c 82 z0 u0 5 (lpn F_Md_findFewest n (5, 0, v1I, 0, v3I, 0, 0, 0, 0, 0, 0, σ)) 116 [(1, .int v1I), (3, .int v3I)] [] σ) ∧
  (∀ (s0I : Int32) (σ : AM), VX (QM eI G args s below z0 u0) G p l e s m args below meth c 82 z0 u0 5 (lpn F_Md_findFewest n (6, 0, 0, 0, 0, 0, s0I, 0, 0, 0, 0, σ)) 125 [] [.int s0I] σ) ∧
  (∀ (v0R : Nat) (v2I : Int32) (v3I : Int32) (v4I : Int32) (σ : AM), VX (QM eI G args s below z0 u0) G p l e s m args below meth c 82 z0 u0 5 (lpn F_Md_findFewest n (7, v0R, 0, v2I, v3I, v4I, 0, 0, 0, 0, 0, σ)) 129 [(0, .ref v0R), (2, .int v2I), (3, .int v3I), (4, .int v4I)] [] σ)
set_option maxRecDepth 20000 in
theorem s_Md_findFewest_0 {G : GX} {p : Program} {l : Launch} {e : Env} {s : State} {m : MethodId} {args : Array Value} {below : List Frame} {meth : Method} {c : Code} {z0 u0 n : Nat} (C : Cx G p s m args meth c prog_14_method_84_code 5 "BellPlateModel" ((some FieldType.int))) (IH : I_Md_findFewest G p l e s m args below meth c z0 u0 n) (v0R : Nat) (v1I : Int32) (σ : AM) : VX (QM eI G args s below z0 u0) G p l e s m args below meth c 82 z0 u0 5 (lpK (lpn F_Md_findFewest n) (T_Md_findFewest_0 v0R v1I σ)) 0 [(0, .ref v0R), (1, .int v1I)] [] σ := by
  unfold T_Md_findFewest_0
  refine x_iconst (v := (0 : Int32)) C d_Md_findFewest_0 (by decide) ?_
  refine x_istore_n (lv' := [(2, .int (0 : Int32)), (0, .ref v0R), (1, .int v1I)]) C d_Md_findFewest_1 (by decide) rfl rfl ?_
  refine x_lv [1, 2, 0] rfl ?_
  exact IH.2.1 v0R v1I ((0 : Int32)) (σ)
set_option maxRecDepth 20000 in
theorem s_Md_findFewest_1 {G : GX} {p : Program} {l : Launch} {e : Env} {s : State} {m : MethodId} {args : Array Value} {below : List Frame} {meth : Method} {c : Code} {z0 u0 n : Nat} (C : Cx G p s m args meth c prog_14_method_84_code 5 "BellPlateModel" ((some FieldType.int))) (IH : I_Md_findFewest G p l e s m args below meth c z0 u0 n) (v0R : Nat) (v1I : Int32) (v2I : Int32) (σ : AM) : VX (QM eI G args s below z0 u0) G p l e s m args below meth c 82 z0 u0 5 (lpK (lpn F_Md_findFewest n) (T_Md_findFewest_1 v0R v1I v2I σ)) 2 [(0, .ref v0R), (1, .int v1I), (2, .int v2I)] [] σ := by
  unfold T_Md_findFewest_1
  refine x_iload_n C d_Md_findFewest_2 2 rfl ?_
  refine x_aload_n C d_Md_findFewest_3 0 rfl ?_
  refine x_gd (fun h3 => ?_)
  refine x_callVI (As := []) C (c_Md_sets G l v0R  σ) (okO_iff.mp h3) rfl w1826 w58 w1824 w1827 w134 k_Md_sets rfl (by decide) (by decide) rfl (Nat.le_of_ble_eq_true rfl) d_Md_findFewest_4 (fun r1 σ2 => ?_)
  refine x_icmp_ge (tgt := 73) C d_Md_findFewest_7 (by decide) (fun _ => ?_) (fun _ => ?_)
  · refine x_aload_n C d_Md_findFewest_10 0 rfl ?_
    refine x_gd (fun h4 => ?_)
    refine x_gd (fun h5 => ?_)
    refine x_getR (k := 58) (kv := 101) C (okO_iff.mp h4) rfl j11_ok (by decide) rfl (okO_iff.mp h5) (by decide) w1910 d_Md_findFewest_11 ?_
    refine x_iload_n C d_Md_findFewest_14 2 rfl ?_
    refine x_iconst (v := (0 : Int32)) C d_Md_findFewest_15 (by decide) ?_
    refine x_gd (fun h6 => ?_)
    refine x_astI C (okO_iff.mp h5) (inB_iff.mp h6) d_Md_findFewest_16 ?_
    refine x_letS (fun σ7 e8 => ?_)
    refine x_iconst (v := (0 : Int32)) C d_Md_findFewest_17 (by decide) ?_
    refine x_istore_n (lv' := [(3, .int (0 : Int32)), (0, .ref v0R), (1, .int v1I), (2, .int v2I)]) C d_Md_findFewest_18 (by decide) rfl rfl ?_
    refine x_lv [1, 2, 3, 0] rfl ?_
    exact IH.2.2.1 v0R v1I v2I ((0 : Int32)) (σ7)
  · refine x_iconst (v := (1 : Int32)) C d_Md_findFewest_73 (by decide) ?_
    refine x_aload_n C d_Md_findFewest_74 0 rfl ?_
    refine x_gd (fun h9 => ?_)
    refine x_getI (k := 46) C (okO_iff.mp h9) rfl j11_ok (by decide) rfl w1898 d_Md_findFewest_75 ?_
    refine x_ishl C d_Md_findFewest_78 ?_
    refine x_iconst (v := (1 : Int32)) C d_Md_findFewest_79 (by decide) ?_
    refine x_isub C d_Md_findFewest_80 ?_
    refine x_letI (fun x10 _ => ?_)
    refine x_istore_n (lv' := [(2, .int x10), (0, .ref v0R), (1, .int v1I)]) C d_Md_findFewest_81 (by decide) rfl rfl ?_
    refine x_iconst (v := (0 : Int32)) C d_Md_findFewest_82 (by decide) ?_
    refine x_istore_n (lv' := [(3, .int (0 : Int32)), (2, .int x10), (0, .ref v0R), (1, .int v1I)]) C d_Md_findFewest_83 (by decide) rfl rfl ?_
    refine x_lv [2, 3, 1, 0] rfl ?_
    exact IH.2.2.2.2.1 v0R v1I x10 ((0 : Int32)) (σ2)
set_option maxRecDepth 20000 in
theorem s_Md_findFewest_2 {G : GX} {p : Program} {l : Launch} {e : Env} {s : State} {m : MethodId} {args : Array Value} {below : List Frame} {meth : Method} {c : Code} {z0 u0 n : Nat} (C : Cx G p s m args meth c prog_14_method_84_code 5 "BellPlateModel" ((some FieldType.int))) (IH : I_Md_findFewest G p l e s m args below meth c z0 u0 n) (v0R : Nat) (v1I : Int32) (v2I : Int32) (v3I : Int32) (σ : AM) : VX (QM eI G args s below z0 u0) G p l e s m args below meth c 82 z0 u0 5 (lpK (lpn F_Md_findFewest n) (T_Md_findFewest_2 v0R v1I v2I v3I σ)) 19 [(0, .ref v0R), (1, .int v1I), (2, .int v2I), (3, .int v3I)] [] σ := by
  unfold T_Md_findFewest_2
  refine x_iload_n C d_Md_findFewest_19 3 rfl ?_
  refine x_aload_n C d_Md_findFewest_20 0 rfl ?_
  refine x_gd (fun h1 => ?_)
  refine x_getI (k := 46) C (okO_iff.mp h1) rfl j11_ok (by decide) rfl w1898 d_Md_findFewest_21 ?_
  refine x_icmp_ge (tgt := 67) C d_Md_findFewest_24 (by decide) (fun _ => ?_) (fun _ => ?_)
  · refine x_aload_n C d_Md_findFewest_27 0 rfl ?_
    refine x_gd (fun h2 => ?_)
    refine x_getR (k := 58) (kv := 101) C (okO_iff.mp h1) rfl j11_ok (by decide) rfl (okO_iff.mp h2) (by decide) w1910 d_Md_findFewest_28 ?_
    refine x_iload_n C d_Md_findFewest_31 2 rfl ?_
    refine x_dup2 C d_Md_findFewest_32 rfl rfl ?_
    refine x_gd (fun h3 => ?_)
    refine x_aldI C (okO_iff.mp h2) (inB_iff.mp h3) d_Md_findFewest_33 ?_
    refine x_aload_n C d_Md_findFewest_34 0 rfl ?_
    refine x_gd (fun h4 => ?_)
    refine x_getR (k := 30) (kv := 102) C (okO_iff.mp h1) rfl j11_ok (by decide) rfl (okO_iff.mp h4) (by decide) w1882 d_Md_findFewest_35 ?_
    refine x_aload_n C d_Md_findFewest_38 0 rfl ?_
    refine x_gd (fun h5 => ?_)
    refine x_getR (k := 45) (kv := 101) C (okO_iff.mp h1) rfl j11_ok (by decide) rfl (okO_iff.mp h5) (by decide) w1897 d_Md_findFewest_39 ?_
    refine x_iload_n C d_Md_findFewest_42 3 rfl ?_
    refine x_gd (fun h6 => ?_)
    refine x_aldI C (okO_iff.mp h5) (inB_iff.mp h6) d_Md_findFewest_43 ?_
    refine x_gd (fun h7 => ?_)
    refine x_aldJ C (okO_iff.mp h4) (inB_iff.mp h7) d_Md_findFewest_44 ?_
    refine x_iload_n C d_Md_findFewest_45 2 rfl ?_
    refine x_callSI (As := [.long (aL σ (aR σ v0R 30) (aI σ (aR σ v0R 45) v3I.toNatClampNeg).toNatClampNeg), .int v2I]) C (c_Md_doesRing G l (aL σ (aR σ v0R 30) (aI σ (aR σ v0R 45) v3I.toNatClampNeg).toNatClampNeg) v2I σ) w2235 w2234 w2236 w134 k_Md_doesRing rfl (by decide) (by decide) rfl (Nat.le_of_ble_eq_true rfl) d_Md_findFewest_46 (fun r8 σ9 => ?_)
    refine x_if_eq (tgt := 58) C d_Md_findFewest_49 (by decide) (fun _ => ?_) (fun _ => ?_)
    · refine x_iconst (v := (0 : Int32)) C d_Md_findFewest_58 (by decide) ?_
      exact IH.2.2.2.1 v0R v1I v2I v3I (aR σ v0R 58) v2I (aI σ (aR σ v0R 58) v2I.toNatClampNeg) ((0 : Int32)) (σ9)
    · refine x_iconst (v := (1 : Int32)) C d_Md_findFewest_52 (by decide) ?_
      refine x_iload_n C d_Md_findFewest_53 3 rfl ?_
      refine x_ishl C d_Md_findFewest_54 ?_
      refine x_goto (tgt := 59) C d_Md_findFewest_55 (by decide) ?_
      exact IH.2.2.2.1 v0R v1I v2I v3I (aR σ v0R 58) v2I (aI σ (aR σ v0R 58) v2I.toNatClampNeg) ((1 : Int32) <<< (v3I &&& 31)) (σ9)
  · refine x_iinc (v := v2I + (1 : Int32)) (lv' := [(2, .int (v2I + (1 : Int32))), (0, .ref v0R), (1, .int v1I), (3, .int v3I)]) C d_Md_findFewest_67 2 rfl rfl (by decide) rfl ?_
    refine x_goto (tgt := 2) C d_Md_findFewest_70 (by decide) ?_
    refine x_lv [1, 2, 0] rfl ?_
    exact IH.2.1 v0R v1I (v2I + (1 : Int32)) (σ)
set_option maxRecDepth 20000 in
theorem s_Md_findFewest_3 {G : GX} {p : Program} {l : Launch} {e : Env} {s : State} {m : MethodId} {args : Array Value} {below : List Frame} {meth : Method} {c : Code} {z0 u0 n : Nat} (C : Cx G p s m args meth c prog_14_method_84_code 5 "BellPlateModel" ((some FieldType.int))) (IH : I_Md_findFewest G p l e s m args below meth c z0 u0 n) (v0R : Nat) (v1I : Int32) (v2I : Int32) (v3I : Int32) (s0R : Nat) (s1I : Int32) (s2I : Int32) (s3I : Int32) (σ : AM) : VX (QM eI G args s below z0 u0) G p l e s m args below meth c 82 z0 u0 5 (lpK (lpn F_Md_findFewest n) (T_Md_findFewest_3 v0R v1I v2I v3I s0R s1I s2I s3I σ)) 59 [(0, .ref v0R), (1, .int v1I), (2, .int v2I), (3, .int v3I)] [.int s3I, .int s2I, .int s1I, .ref s0R] σ := by
  unfold T_Md_findFewest_3
  refine x_ior C d_Md_findFewest_59 ?_
  refine x_gd (fun h1 => ?_)
  refine x_gd (fun h2 => ?_)
  refine x_astI C (okO_iff.mp h1) (inB_iff.mp h2) d_Md_findFewest_60 ?_
  refine x_letS (fun σ3 e4 => ?_)
  refine x_iinc (v := v3I + (1 : Int32)) (lv' := [(3, .int (v3I + (1 : Int32))), (0, .ref v0R), (1, .int v1I), (2, .int v2I)]) C d_Md_findFewest_61 3 rfl rfl (by decide) rfl ?_
  refine x_goto (tgt := 19) C d_Md_findFewest_64 (by decide) ?_
  refine x_lv [1, 2, 3, 0] rfl ?_
  exact IH.2.2.1 v0R v1I v2I (v3I + (1 : Int32)) (σ3)
set_option maxRecDepth 20000 in
theorem s_Md_findFewest_4 {G : GX} {p : Program} {l : Launch} {e : Env} {s : State} {m : MethodId} {args : Array Value} {below : List Frame} {meth : Method} {c : Code} {z0 u0 n : Nat} (C : Cx G p s m args meth c prog_14_method_84_code 5 "BellPlateModel" ((some FieldType.int))) (IH : I_Md_findFewest G p l e s m args below meth c z0 u0 n) (v0R : Nat) (v1I : Int32) (v2I : Int32) (v3I : Int32) (σ : AM) : VX (QM eI G args s below z0 u0) G p l e s m args below meth c 82 z0 u0 5 (lpK (lpn F_Md_findFewest n) (T_Md_findFewest_4 v0R v1I v2I v3I σ)) 84 [(0, .ref v0R), (1, .int v1I), (2, .int v2I), (3, .int v3I)] [] σ := by
  unfold T_Md_findFewest_4
  refine x_iload_n C d_Md_findFewest_84 3 rfl ?_
  refine x_iload_n C d_Md_findFewest_85 2 rfl ?_
  refine x_icmp_gt (tgt := 102) C d_Md_findFewest_86 (by decide) (fun _ => ?_) (fun _ => ?_)
  · refine x_aload_n C d_Md_findFewest_102 0 rfl ?_
    refine x_iload_n C d_Md_findFewest_103 2 rfl ?_
    refine x_gd (fun h3 => ?_)
    refine x_callVI (As := [.int v2I]) C (c_Md_fewestBy G l v0R v2I σ) (okO_iff.mp h3) rfl w2358 w106 w2356 w2359 w134 k_Md_fewestBy rfl (by decide) (by decide) rfl (Nat.le_of_ble_eq_true rfl) d_Md_findFewest_104 (fun r1 σ2 => ?_)
    refine x_istore_n (lv' := [(3, .int r1), (0, .ref v0R), (1, .int v1I), (2, .int v2I)]) C d_Md_findFewest_107 (by decide) rfl rfl ?_
    refine x_iload_n C d_Md_findFewest_108 2 rfl ?_
    refine x_if_eq (tgt := 116) C d_Md_findFewest_109 (by decide) (fun _ => ?_) (fun _ => ?_)
    · refine x_lv [2, 0] rfl ?_
      exact IH.2.2.2.2.2.1 v1I r1 (σ2)
    · refine x_iload_n C d_Md_findFewest_112 0 rfl ?_
      refine x_if_ne (tgt := 126) C d_Md_findFewest_113 (by decide) (fun _ => ?_) (fun _ => ?_)
      · refine x_lv [2, 0] rfl ?_
        exact IH.2.2.2.2.2.1 v1I r1 (σ2)
      · refine x_iconst (v := (0 : Int32)) C d_Md_findFewest_126 (by decide) ?_
        refine x_istore (lv' := [(4, .int (0 : Int32)), (3, .int r1), (0, .ref v0R), (1, .int v1I), (2, .int v2I)]) C d_Md_findFewest_127 (by decide) rfl ?_
        refine x_lv [2, 4, 1, 0] rfl ?_
        exact IH.2.2.2.2.2.2.2 v0R v2I r1 ((0 : Int32)) (σ2)
  · refine x_aload_n C d_Md_findFewest_89 0 rfl ?_
    refine x_gd (fun h4 => ?_)
    refine x_gd (fun h5 => ?_)
    refine x_getR (k := 59) (kv := 101) C (okO_iff.mp h4) rfl j11_ok (by decide) rfl (okO_iff.mp h5) (by decide) w1911 d_Md_findFewest_90 ?_
    refine x_iload_n C d_Md_findFewest_93 3 rfl ?_
    refine x_iconst (v := ((-1) : Int32)) C d_Md_findFewest_94 (by decide) ?_
    refine x_gd (fun h6 => ?_)
    refine x_astI C (okO_iff.mp h5) (inB_iff.mp h6) d_Md_findFewest_95 ?_
    refine x_letS (fun σ7 e8 => ?_)
    refine x_iinc (v := v3I + (1 : Int32)) (lv' := [(3, .int (v3I + (1 : Int32))), (0, .ref v0R), (1, .int v1I), (2, .int v2I)]) C d_Md_findFewest_96 3 rfl rfl (by decide) rfl ?_
    refine x_goto (tgt := 84) C d_Md_findFewest_99 (by decide) ?_
    refine x_lv [1, 2, 3, 0] rfl ?_
    exact IH.2.2.2.2.1 v0R v1I v2I (v3I + (1 : Int32)) (σ7)
set_option maxRecDepth 20000 in
theorem s_Md_findFewest_5 {G : GX} {p : Program} {l : Launch} {e : Env} {s : State} {m : MethodId} {args : Array Value} {below : List Frame} {meth : Method} {c : Code} {z0 u0 n : Nat} (C : Cx G p s m args meth c prog_14_method_84_code 5 "BellPlateModel" ((some FieldType.int))) (IH : I_Md_findFewest G p l e s m args below meth c z0 u0 n) (v1I : Int32) (v3I : Int32) (σ : AM) : VX (QM eI G args s below z0 u0) G p l e s m args below meth c 82 z0 u0 5 (lpK (lpn F_Md_findFewest n) (T_Md_findFewest_5 v1I v3I σ)) 116 [(1, .int v1I), (3, .int v3I)] [] σ := by
  unfold T_Md_findFewest_5
  refine x_iload_n C d_Md_findFewest_116 0 rfl ?_
  refine x_if_ne (tgt := 124) C d_Md_findFewest_117 (by decide) (fun _ => ?_) (fun _ => ?_)
  · refine x_iload_n C d_Md_findFewest_120 1 rfl ?_
    refine x_goto (tgt := 125) C d_Md_findFewest_121 (by decide) ?_
    refine x_lv [] rfl ?_
    exact IH.2.2.2.2.2.2.1 v3I (σ)
  · refine x_iconst (v := ((-1) : Int32)) C d_Md_findFewest_124 (by decide) ?_
    refine x_lv [] rfl ?_
    exact IH.2.2.2.2.2.2.1 (((-1) : Int32)) (σ)
set_option maxRecDepth 20000 in
theorem s_Md_findFewest_6 {G : GX} {p : Program} {l : Launch} {e : Env} {s : State} {m : MethodId} {args : Array Value} {below : List Frame} {meth : Method} {c : Code} {z0 u0 n : Nat} (C : Cx G p s m args meth c prog_14_method_84_code 5 "BellPlateModel" ((some FieldType.int))) (IH : I_Md_findFewest G p l e s m args below meth c z0 u0 n) (s0I : Int32) (σ : AM) : VX (QM eI G args s below z0 u0) G p l e s m args below meth c 82 z0 u0 5 (lpK (lpn F_Md_findFewest n) (T_Md_findFewest_6 s0I σ)) 125 [] [.int s0I] σ := by
  unfold T_Md_findFewest_6
  exact x_iret C d_Md_findFewest_125
set_option maxRecDepth 20000 in
theorem s_Md_findFewest_7 {G : GX} {p : Program} {l : Launch} {e : Env} {s : State} {m : MethodId} {args : Array Value} {below : List Frame} {meth : Method} {c : Code} {z0 u0 n : Nat} (C : Cx G p s m args meth c prog_14_method_84_code 5 "BellPlateModel" ((some FieldType.int))) (IH : I_Md_findFewest G p l e s m args below meth c z0 u0 n) (v0R : Nat) (v2I : Int32) (v3I : Int32) (v4I : Int32) (σ : AM) : VX (QM eI G args s below z0 u0) G p l e s m args below meth c 82 z0 u0 5 (lpK (lpn F_Md_findFewest n) (T_Md_findFewest_7 v0R v2I v3I v4I σ)) 129 [(0, .ref v0R), (2, .int v2I), (3, .int v3I), (4, .int v4I)] [] σ := by
  unfold T_Md_findFewest_7
  refine x_aload_n C d_Md_findFewest_129 0 rfl ?_
  refine x_iload_n C d_Md_findFewest_130 1 rfl ?_
  refine x_iload C d_Md_findFewest_131 3 rfl ?_
  refine x_gd (fun h3 => ?_)
  refine x_callVI (As := [.int v2I, .int v4I]) C (c_Md_by G l v0R v2I v4I σ) (okO_iff.mp h3) rfl w2362 w107 w2360 w2363 w134 k_Md_by rfl (by decide) (by decide) rfl (Nat.le_of_ble_eq_true rfl) d_Md_findFewest_133 (fun r1 σ2 => ?_)
  refine x_iload_n C d_Md_findFewest_136 2 rfl ?_
  refine x_icmp_eq (tgt := 146) C d_Md_findFewest_137 (by decide) (fun _ => ?_) (fun _ => ?_)
  · refine x_iload C d_Md_findFewest_146 3 rfl ?_
    exact x_iret C d_Md_findFewest_148
  · refine x_iinc (v := v4I + (1 : Int32)) (lv' := [(4, .int (v4I + (1 : Int32))), (0, .ref v0R), (2, .int v2I), (3, .int v3I)]) C d_Md_findFewest_140 3 rfl rfl (by decide) rfl ?_
    refine x_goto (tgt := 129) C d_Md_findFewest_143 (by decide) ?_
    refine x_lv [1, 2, 3, 0] rfl ?_
    exact IH.2.2.2.2.2.2.2 v0R v2I v3I (v4I + (1 : Int32)) (σ2)
theorem i_Md_findFewest {G : GX} {p : Program} {l : Launch} {e : Env} {s : State} {m : MethodId} {args : Array Value} {below : List Frame} {meth : Method} {c : Code} {z0 u0 : Nat} (C : Cx G p s m args meth c prog_14_method_84_code 5 "BellPlateModel" ((some FieldType.int))) (n : Nat) : I_Md_findFewest G p l e s m args below meth c z0 u0 n := by
  induction n with
  | zero => exact ⟨fun _ _ _ => x_none, fun _ _ _ _ => x_none, fun _ _ _ _ _ => x_none, fun _ _ _ _ _ _ _ _ _ => x_none, fun _ _ _ _ _ => x_none, fun _ _ _ => x_none, fun _ _ => x_none, fun _ _ _ _ _ => x_none⟩
  | succ n IH => exact ⟨fun v0R v1I σ => s_Md_findFewest_0 C IH v0R v1I σ, fun v0R v1I v2I σ => s_Md_findFewest_1 C IH v0R v1I v2I σ, fun v0R v1I v2I v3I σ => s_Md_findFewest_2 C IH v0R v1I v2I v3I σ, fun v0R v1I v2I v3I s0R s1I s2I s3I σ => s_Md_findFewest_3 C IH v0R v1I v2I v3I s0R s1I s2I s3I σ, fun v0R v1I v2I v3I σ => s_Md_findFewest_4 C IH v0R v1I v2I v3I σ, fun v1I v3I σ => s_Md_findFewest_5 C IH v1I v3I σ, fun s0I σ => s_Md_findFewest_6 C IH s0I σ, fun v0R v2I v3I v4I σ => s_Md_findFewest_7 C IH v0R v2I v3I v4I σ⟩
theorem c_Md_findFewest (G : GX) (l : Launch) (v0R : Nat) (v1I : Int32) (σ : AM) : CT eI G l 82 y_Md_findFewest prog_14_method_84_code 5 ((some FieldType.int)) [.ref v0R, .int v1I] σ (M_Md_findFewest v0R v1I σ) := by
  refine ct_of (by decide +kernel) (Nat.le_of_ble_eq_true rfl) (fun p e s m args below meth c C hin => ?_)
  refine x_lve (lv' := [(0, .ref v0R), (1, .int v1I)]) rfl ?_
  intro r σ' h
  obtain ⟨n, hn⟩ := (lp_iff _ _ _).mp h
  exact (i_Md_findFewest C n).1 v0R v1I σ r σ' hn
/-! BellPlateModel.isQuestion(II)Z -/
abbrev y_Md_isQuestion : MethodName := ⟨"BellPlateModel", "isQuestion", "(II)Z"⟩
theorem k_Md_isQuestion : y_Md_isQuestion.cls ≠ "java/lang/invoke/MethodHandle" ∧ y_Md_isQuestion.cls ≠ "java/lang/invoke/VarHandle" ∧ (parseMethodDescriptor y_Md_isQuestion.desc).map (fun d => d.parameters.length) = some 2 := by decide +kernel
theorem d_Md_isQuestion_0 : decode prog_14_method_86_code 0 = .ok (.iload_n 1, 1) := by decide +kernel
theorem d_Md_isQuestion_1 : decode prog_14_method_86_code 1 = .ok (.tableswitch 86 0 4 #[35, 37, 43, 86, 35], 35) := by decide +kernel
theorem d_Md_isQuestion_36 : decode prog_14_method_86_code 36 = .ok (.iconst 1, 1) := by decide +kernel
theorem d_Md_isQuestion_37 : decode prog_14_method_86_code 37 = .ok (.ireturn, 1) := by decide +kernel
theorem d_Md_isQuestion_38 : decode prog_14_method_86_code 38 = .ok (.aload_n 0, 1) := by decide +kernel
theorem d_Md_isQuestion_39 : decode prog_14_method_86_code 39 = .ok (.iload_n 2, 1) := by decide +kernel
theorem d_Md_isQuestion_40 : decode prog_14_method_86_code 40 = .ok (.invokevirtual 393, 3) := by decide +kernel
theorem d_Md_isQuestion_43 : decode prog_14_method_86_code 43 = .ok (.ireturn, 1) := by decide +kernel
theorem d_Md_isQuestion_44 : decode prog_14_method_86_code 44 = .ok (.iload_n 2, 1) := by decide +kernel
theorem d_Md_isQuestion_45 : decode prog_14_method_86_code 45 = .ok (.ifCond .lt 40, 3) := by decide +kernel
theorem d_Md_isQuestion_48 : decode prog_14_method_86_code 48 = .ok (.aload_n 0, 1) := by decide +kernel
theorem d_Md_isQuestion_49 : decode prog_14_method_86_code 49 = .ok (.iload_n 2, 1) := by decide +kernel
theorem d_Md_isQuestion_50 : decode prog_14_method_86_code 50 = .ok (.bipush 6, 2) := by decide +kernel
theorem d_Md_isQuestion_52 : decode prog_14_method_86_code 52 = .ok (.idiv, 1) := by decide +kernel
theorem d_Md_isQuestion_53 : decode prog_14_method_86_code 53 = .ok (.invokevirtual 393, 3) := by decide +kernel
theorem d_Md_isQuestion_56 : decode prog_14_method_86_code 56 = .ok (.ifCond .eq 29, 3) := by decide +kernel
theorem d_Md_isQuestion_59 : decode prog_14_method_86_code 59 = .ok (.aload_n 0, 1) := by decide +kernel
theorem d_Md_isQuestion_60 : decode prog_14_method_86_code 60 = .ok (.iload_n 2, 1) := by decide +kernel
theorem d_Md_isQuestion_61 : decode prog_14_method_86_code 61 = .ok (.bipush 6, 2) := by decide +kernel
theorem d_Md_isQuestion_63 : decode prog_14_method_86_code 63 = .ok (.irem, 1) := by decide +kernel
theorem d_Md_isQuestion_64 : decode prog_14_method_86_code 64 = .ok (.invokevirtual 393, 3) := by decide +kernel
theorem d_Md_isQuestion_67 : decode prog_14_method_86_code 67 = .ok (.ifCond .eq 18, 3) := by decide +kernel
theorem d_Md_isQuestion_70 : decode prog_14_method_86_code 70 = .ok (.iload_n 2, 1) := by decide +kernel
theorem d_Md_isQuestion_71 : decode prog_14_method_86_code 71 = .ok (.bipush 6, 2) := by decide +kernel
theorem d_Md_isQuestion_73 : decode prog_14_method_86_code 73 = .ok (.idiv, 1) := by decide +kernel
theorem d_Md_isQuestion_74 : decode prog_14_method_86_code 74 = .ok (.iload_n 2, 1) := by decide +kernel
theorem d_Md_isQuestion_75 : decode prog_14_method_86_code 75 = .ok (.bipush 6, 2) := by decide +kernel
theorem d_Md_isQuestion_77 : decode prog_14_method_86_code 77 = .ok (.irem, 1) := by decide +kernel
theorem d_Md_isQuestion_78 : decode prog_14_method_86_code 78 = .ok (.if_icmp .eq 7, 3) := by decide +kernel
theorem d_Md_isQuestion_81 : decode prog_14_method_86_code 81 = .ok (.iconst 1, 1) := by decide +kernel
theorem d_Md_isQuestion_82 : decode prog_14_method_86_code 82 = .ok (.goto 4, 3) := by decide +kernel
theorem d_Md_isQuestion_85 : decode prog_14_method_86_code 85 = .ok (.iconst 0, 1) := by decide +kernel
theorem d_Md_isQuestion_86 : decode prog_14_method_86_code 86 = .ok (.ireturn, 1) := by decide +kernel
theorem d_Md_isQuestion_87 : decode prog_14_method_86_code 87 = .ok (.iload_n 1, 1) := by decide +kernel
theorem d_Md_isQuestion_88 : decode prog_14_method_86_code 88 = .ok (.iconst 3, 1) := by decide +kernel
theorem d_Md_isQuestion_89 : decode prog_14_method_86_code 89 = .ok (.if_icmp .ne 15, 3) := by decide +kernel
theorem d_Md_isQuestion_92 : decode prog_14_method_86_code 92 = .ok (.aload_n 0, 1) := by decide +kernel
theorem d_Md_isQuestion_93 : decode prog_14_method_86_code 93 = .ok (.iload_n 2, 1) := by decide +kernel
theorem d_Md_isQuestion_94 : decode prog_14_method_86_code 94 = .ok (.invokevirtual 340, 3) := by decide +kernel
theorem d_Md_isQuestion_97 : decode prog_14_method_86_code 97 = .ok (.ifCond .eq 7, 3) := by decide +kernel
theorem d_Md_isQuestion_100 : decode prog_14_method_86_code 100 = .ok (.iconst 1, 1) := by decide +kernel
theorem d_Md_isQuestion_101 : decode prog_14_method_86_code 101 = .ok (.goto 4, 3) := by decide +kernel
theorem d_Md_isQuestion_104 : decode prog_14_method_86_code 104 = .ok (.iconst 0, 1) := by decide +kernel
theorem d_Md_isQuestion_105 : decode prog_14_method_86_code 105 = .ok (.ireturn, 1) := by decide +kernel
abbrev S_Md_isQuestion : Type := Nat × Nat × Int32 × Int32 × Int32 × AM
noncomputable def T_Md_isQuestion_0 (v0R : Nat) (v1I : Int32) (v2I : Int32) (σ : AM) : S_Md_isQuestion ⊕ Option (Int32 × AM) :=
  if v1I = (0 : Int32) then (.inr (some ((1 : Int32), σ))) else (if v1I = (1 : Int32) then (gdT (okO σ v0R 12) <| bndT (M_Md_isThing v0R v2I σ) fun r3 σ4 => gdT (isB r3) <| .inr (some (r3, σ4))) else (if v1I = (2 : Int32) then (if v2I < 0 then (.inl (1, 0, 0, 0, 0, σ)) else (gdT (okO σ v0R 12) <| bndT (M_Md_isThing v0R (v2I / (6 : Int32)) σ) fun r8 σ9 => if r8 = 0 then (.inl (1, 0, 0, 0, 0, σ9)) else (gdT (okO σ9 v0R 12) <| bndT (M_Md_isThing v0R (v2I - v2I / (6 : Int32) * (6 : Int32)) σ9) fun r11 σ12 => if r11 = 0 then (.inl (1, 0, 0, 0, 0, σ12)) else (if (v2I / (6 : Int32)) = (v2I - v2I / (6 : Int32) * (6 : Int32)) then (.inl (1, 0, 0, 0, 0, σ12)) else (.inl (2, 0, 0, 0, (1 : Int32), σ12)))))) else (if v1I = (3 : Int32) then (if v1I = (3 : Int32) then (gdT (okO σ v0R 12) <| bndT (M_Md_isSet v0R v2I σ) fun r15 σ16 => if r15 = 0 then (.inl (3, 0, 0, 0, 0, σ16)) else (.inl (4, 0, 0, 0, (1 : Int32), σ16))) else (.inl (3, 0, 0, 0, 0, σ))) else (if v1I = (4 : Int32) then (.inr (some ((1 : Int32), σ))) else (if v1I = (3 : Int32) then (gdT (okO σ v0R 12) <| bndT (M_Md_isSet v0R v2I σ) fun r19 σ20 => if r19 = 0 then (.inl (3, 0, 0, 0, 0, σ20)) else (.inl (4, 0, 0, 0, (1 : Int32), σ20))) else (.inl (3, 0, 0, 0, 0, σ)))))))
noncomputable def T_Md_isQuestion_1  (σ : AM) : S_Md_isQuestion ⊕ Option (Int32 × AM) :=
  .inl (2, 0, 0, 0, (0 : Int32), σ)
noncomputable def T_Md_isQuestion_2 (s0I : Int32) (σ : AM) : S_Md_isQuestion ⊕ Option (Int32 × AM) :=
  gdT (isB s0I) <| .inr (some (s0I, σ))
noncomputable def T_Md_isQuestion_3  (σ : AM) : S_Md_isQuestion ⊕ Option (Int32 × AM) :=
  .inl (4, 0, 0, 0, (0 : Int32), σ)
noncomputable def T_Md_isQuestion_4 (s0I : Int32) (σ : AM) : S_Md_isQuestion ⊕ Option (Int32 × AM) :=
  gdT (isB s0I) <| .inr (some (s0I, σ))
noncomputable def F_Md_isQuestion : S_Md_isQuestion → S_Md_isQuestion ⊕ Option (Int32 × AM) := fun s => match s.1 with
  | 0 => T_Md_isQuestion_0 (s.2.1) (s.2.2.1) (s.2.2.2.1) (s.2.2.2.2.2)
  | 1 => T_Md_isQuestion_1  (s.2.2.2.2.2)
  | 2 => T_Md_isQuestion_2 (s.2.2.2.2.1) (s.2.2.2.2.2)
  | 3 => T_Md_isQuestion_3  (s.2.2.2.2.2)
  | _ => T_Md_isQuestion_4 (s.2.2.2.2.1) (s.2.2.2.2.2)
noncomputable def L_Md_isQuestion_0 (v0R : Nat) (v1I : Int32) (v2I : Int32) (σ : AM) : Option (Int32 × AM) := lp F_Md_isQuestion (0, v0R, v1I, v2I, 0, σ)
noncomputable def L_Md_isQuestion_1  (σ : AM) : Option (Int32 × AM) := lp F_Md_isQuestion (1, 0, 0, 0, 0, σ)
noncomputable def L_Md_isQuestion_2 (s0I : Int32) (σ : AM) : Option (Int32 × AM) := lp F_Md_isQuestion (2, 0, 0, 0, s0I, σ)
noncomputable def L_Md_isQuestion_3  (σ : AM) : Option (Int32 × AM) := lp F_Md_isQuestion (3, 0, 0, 0, 0, σ)
noncomputable def L_Md_isQuestion_4 (s0I : Int32) (σ : AM) : Option (Int32 × AM) := lp F_Md_isQuestion (4, 0, 0, 0, s0I, σ)
set_option maxRecDepth 20000 in
theorem E_Md_isQuestion_0 (v0R : Nat) (v1I : Int32) (v2I : Int32) (σ : AM) : L_Md_isQuestion_0 v0R v1I v2I σ = (if v1I = (0 : Int32) then ((some ((1 : Int32), σ))) else (if v1I = (1 : Int32) then (gd (okO σ v0R 12) <| bnd (M_Md_isThing v0R v2I σ) fun r3 σ4 => gd (isB r3) <| (some (r3, σ4))) else (if v1I = (2 : Int32) then (if v2I < 0 then (L_Md_isQuestion_1 σ) else (gd (okO σ v0R 12) <| bnd (M_Md_isThing v0R (v2I / (6 : Int32)) σ) fun r8 σ9 => if r8 = 0 then (L_Md_isQuestion_1 σ9) else (gd (okO σ9 v0R 12) <| bnd (M_Md_isThing v0R (v2I - v2I / (6 : Int32) * (6 : Int32)) σ9) fun r11 σ12 => if r11 = 0 then (L_Md_isQuestion_1 σ12) else (if (v2I / (6 : Int32)) = (v2I - v2I / (6 : Int32) * (6 : Int32)) then (L_Md_isQuestion_1 σ12) else (L_Md_isQuestion_2 ((1 : Int32)) σ12))))) else (if v1I = (3 : Int32) then (if v1I = (3 : Int32) then (gd (okO σ v0R 12) <| bnd (M_Md_isSet v0R v2I σ) fun r15 σ16 => if r15 = 0 then (L_Md_isQuestion_3 σ16) else (L_Md_isQuestion_4 ((1 : Int32)) σ16)) else (L_Md_isQuestion_3 σ)) else (if v1I = (4 : Int32) then ((some ((1 : Int32), σ))) else (if v1I = (3 : Int32) then (gd (okO σ v0R 12) <| bnd (M_Md_isSet v0R v2I σ) fun r19 σ20 => if r19 = 0 then (L_Md_isQuestion_3 σ20) else (L_Md_isQuestion_4 ((1 : Int32)) σ20)) else (L_Md_isQuestion_3 σ))))))) := by
  unfold L_Md_isQuestion_0
  rw [lp_eq]
  show lpK (lp F_Md_isQuestion) (T_Md_isQuestion_0 v0R v1I v2I σ) = _
  unfold T_Md_isQuestion_0
  simp only [lpK_ite, lq_inl, lq_inr, lpK_bnd, lpK_gd, lq_let]
  try rfl
set_option maxRecDepth 20000 in
theorem E_Md_isQuestion_1  (σ : AM) : L_Md_isQuestion_1  σ = (L_Md_isQuestion_2 ((0 : Int32)) σ) := by
  unfold L_Md_isQuestion_1
  rw [lp_eq]
  show lpK (lp F_Md_isQuestion) (T_Md_isQuestion_1  σ) = _
  unfold T_Md_isQuestion_1
  simp only [lpK_ite, lq_inl, lq_inr, lpK_bnd, lpK_gd, lq_let]
  try rfl
set_option maxRecDepth 20000 in
theorem E_Md_isQuestion_2 (s0I : Int32) (σ : AM) : L_Md_isQuestion_2 s0I σ = (gd (isB s0I) <| (some (s0I, σ))) := by
  unfold L_Md_isQuestion_2
  rw [lp_eq]
  show lpK (lp F_Md_isQuestion) (T_Md_isQuestion_2 s0I σ) = _
  unfold T_Md_isQuestion_2
  simp only [lpK_ite, lq_inl, lq_inr, lpK_bnd, lpK_gd, lq_let]
  try rfl
set_option maxRecDepth 20000 in
theorem E_Md_isQuestion_3  (σ : AM) : L_Md_isQuestion_3  σ = (L_Md_isQuestion_4 ((0 : Int32)) σ) := by
  unfold L_Md_isQuestion_3
  rw [lp_eq]
  show lpK (lp F_Md_isQuestion) (T_Md_isQuestion_3  σ) = _
  unfold T_Md_isQuestion_3
  simp only [lpK_ite, lq_inl, lq_inr, lpK_bnd, lpK_gd, lq_let]
  try rfl
set_option maxRecDepth 20000 in
theorem E_Md_isQuestion_4 (s0I : Int32) (σ : AM) : L_Md_isQuestion_4 s0I σ = (gd (isB s0I) <| (some (s0I, σ))) := by
  unfold L_Md_isQuestion_4
  rw [lp_eq]
  show lpK (lp F_Md_isQuestion) (T_Md_isQuestion_4 s0I σ) = _
  unfold T_Md_isQuestion_4
  simp only [lpK_ite, lq_inl, lq_inr, lpK_bnd, lpK_gd, lq_let]
  try rfl
noncomputable def M_Md_isQuestion (v0R : Nat) (v1I : Int32) (v2I : Int32) (σ : AM) : Option (Int32 × AM) := mw σ (L_Md_isQuestion_0 v0R v1I v2I σ)
def I_Md_isQuestion (G : GX) (p : Program) (l : Launch) (e : Env) (s : State) (m : MethodId) (args : Array Value) (below : List Frame) (meth : Method) (c : Code) (z0 u0 n : Nat) : Prop :=
  (∀ (v0R : Nat) (v1I : Int32) (v2I : Int32) (σ : AM), VX (QM eI G args s below z0 u0) G p l e s m args below meth c 2 z0 u0 3 (lpn F_Md_isQuestion n (0, v0R, v1I, v2I, 0, σ)) 0 [(0, .ref v0R), (1, .int v1I), (2, .int v2I)] [] σ) ∧
  (∀ (σ : AM), VX (QM eI G args s below z0 u0) G p l e s m args below meth c 2 z0 u0 3 (lpn F_Md_isQuestion n (1, 0, 0, 0, 0, σ)) 85 [] [] σ) ∧
  (∀ (s0I : Int32) (σ : AM), VX (QM eI G args s below z0 u0) G p l e s m args below meth c 2 z0 u0 3 (lpn F_Md_isQuestion n (2, 0, 0, 0, s0I, σ)) 86 [] [.int s0I] σ) ∧
  (∀ (σ : AM), VX (QM eI G args s below z0 u0) G p l e s m args below meth c 2 z0 u0 3 (lpn F_Md_isQuestion n (3, 0, 0, 0, 0, σ)) 104 [] [] σ) ∧
  (∀ (s0I : Int32) (σ : AM), VX (QM eI G args s below z0 u0) G p l e s m args below meth c 2 z0 u0 3 (lpn F_Md_isQuestion n (4, 0, 0, 0, s0I, σ)) 105 [] [.int s0I] σ)
set_option maxRecDepth 20000 in
theorem s_Md_isQuestion_0 {G : GX} {p : Program} {l : Launch} {e : Env} {s : State} {m : MethodId} {args : Array Value} {below : List Frame} {meth : Method} {c : Code} {z0 u0 n : Nat} (C : Cx G p s m args meth c prog_14_method_86_code 3 "BellPlateModel" ((some FieldType.boolean))) (IH : I_Md_isQuestion G p l e s m args below meth c z0 u0 n) (v0R : Nat) (v1I : Int32) (v2I : Int32) (σ : AM) : VX (QM eI G args s below z0 u0) G p l e s m args below meth c 2 z0 u0 3 (lpK (lpn F_Md_isQuestion n) (T_Md_isQuestion_0 v0R v1I v2I σ)) 0 [(0, .ref v0R), (1, .int v1I), (2, .int v2I)] [] σ := by
  unfold T_Md_isQuestion_0
  refine x_iload_n C d_Md_isQuestion_0 1 rfl ?_
  refine x_split (fun h1 => ?_) (fun h1 => ?_)
  · refine x_tabI (tgt := 36) C h1 d_Md_isQuestion_1 (by decide) (by decide) rfl (by decide) ?_
    refine x_iconst (v := (1 : Int32)) C d_Md_isQuestion_36 (by decide) ?_
    exact x_zret C (by decide) d_Md_isQuestion_37
  · refine x_split (fun h2 => ?_) (fun h2 => ?_)
    · refine x_tabI (tgt := 38) C h2 d_Md_isQuestion_1 (by decide) (by decide) rfl (by decide) ?_
      refine x_aload_n C d_Md_isQuestion_38 0 rfl ?_
      refine x_iload_n C d_Md_isQuestion_39 2 rfl ?_
      refine x_gd (fun h5 => ?_)
      refine x_callVI (As := [.int v2I]) C (c_Md_isThing G l v0R v2I σ) (okO_iff.mp h5) rfl w2258 w92 w2256 w2259 w134 k_Md_isThing rfl (by decide) (by decide) rfl (Nat.le_of_ble_eq_true rfl) d_Md_isQuestion_40 (fun r3 σ4 => ?_)
      refine x_gd (fun h6 => ?_)
      exact x_zret C (isB_narrow h6) d_Md_isQuestion_43
    · refine x_split (fun h7 => ?_) (fun h7 => ?_)
      · refine x_tabI (tgt := 44) C h7 d_Md_isQuestion_1 (by decide) (by decide) rfl (by decide) ?_
        refine x_iload_n C d_Md_isQuestion_44 2 rfl ?_
        refine x_if_lt (tgt := 85) C d_Md_isQuestion_45 (by decide) (fun _ => ?_) (fun _ => ?_)
        · refine x_lv [] rfl ?_
          exact IH.2.1  (σ)
        · refine x_aload_n C d_Md_isQuestion_48 0 rfl ?_
          refine x_iload_n C d_Md_isQuestion_49 2 rfl ?_
          refine x_bipush (v := (6 : Int32)) C d_Md_isQuestion_50 (by decide) ?_
          refine x_idiv C d_Md_isQuestion_52 (by decide) ?_
          refine x_gd (fun h10 => ?_)
          refine x_callVI (As := [.int (v2I / (6 : Int32))]) C (c_Md_isThing G l v0R (v2I / (6 : Int32)) σ) (okO_iff.mp h10) rfl w2258 w92 w2256 w2259 w134 k_Md_isThing rfl (by decide) (by decide) rfl (Nat.le_of_ble_eq_true rfl) d_Md_isQuestion_53 (fun r8 σ9 => ?_)
          refine x_if_eq (tgt := 85) C d_Md_isQuestion_56 (by decide) (fun _ => ?_) (fun _ => ?_)
          · refine x_lv [] rfl ?_
            exact IH.2.1  (σ9)
          · refine x_aload_n C d_Md_isQuestion_59 0 rfl ?_
            refine x_iload_n C d_Md_isQuestion_60 2 rfl ?_
            refine x_bipush (v := (6 : Int32)) C d_Md_isQuestion_61 (by decide) ?_
            refine x_irem C d_Md_isQuestion_63 (by decide) ?_
            refine x_gd (fun h13 => ?_)
            refine x_callVI (As := [.int (v2I - v2I / (6 : Int32) * (6 : Int32))]) C (c_Md_isThing G l v0R (v2I - v2I / (6 : Int32) * (6 : Int32)) σ9) (okO_iff.mp h13) rfl w2258 w92 w2256 w2259 w134 k_Md_isThing rfl (by decide) (by decide) rfl (Nat.le_of_ble_eq_true rfl) d_Md_isQuestion_64 (fun r11 σ12 => ?_)
            refine x_if_eq (tgt := 85) C d_Md_isQuestion_67 (by decide) (fun _ => ?_) (fun _ => ?_)
            · refine x_lv [] rfl ?_
              exact IH.2.1  (σ12)
            · refine x_iload_n C d_Md_isQuestion_70 2 rfl ?_
              refine x_bipush (v := (6 : Int32)) C d_Md_isQuestion_71 (by decide) ?_
              refine x_idiv C d_Md_isQuestion_73 (by decide) ?_
              refine x_iload_n C d_Md_isQuestion_74 2 rfl ?_
              refine x_bipush (v := (6 : Int32)) C d_Md_isQuestion_75 (by decide) ?_
              refine x_irem C d_Md_isQuestion_77 (by decide) ?_
              refine x_icmp_eq (tgt := 85) C d_Md_isQuestion_78 (by decide) (fun _ => ?_) (fun _ => ?_)
              · refine x_lv [] rfl ?_
                exact IH.2.1  (σ12)
              · refine x_iconst (v := (1 : Int32)) C d_Md_isQuestion_81 (by decide) ?_
                refine x_goto (tgt := 86) C d_Md_isQuestion_82 (by decide) ?_
                refine x_lv [] rfl ?_
                exact IH.2.2.1 ((1 : Int32)) (σ12)
      · refine x_split (fun h14 => ?_) (fun h14 => ?_)
        · refine x_tabI (tgt := 87) C h14 d_Md_isQuestion_1 (by decide) (by decide) rfl (by decide) ?_
          refine x_iload_n C d_Md_isQuestion_87 1 rfl ?_
          refine x_iconst (v := (3 : Int32)) C d_Md_isQuestion_88 (by decide) ?_
          refine x_icmp_ne (tgt := 104) C d_Md_isQuestion_89 (by decide) (fun _ => ?_) (fun _ => ?_)
          · refine x_aload_n C d_Md_isQuestion_92 0 rfl ?_
            refine x_iload_n C d_Md_isQuestion_93 2 rfl ?_
            refine x_gd (fun h17 => ?_)
            refine x_callVI (As := [.int v2I]) C (c_Md_isSet G l v0R v2I σ) (okO_iff.mp h17) rfl w2194 w84 w2192 w2195 w134 k_Md_isSet rfl (by decide) (by decide) rfl (Nat.le_of_ble_eq_true rfl) d_Md_isQuestion_94 (fun r15 σ16 => ?_)
            refine x_if_eq (tgt := 104) C d_Md_isQuestion_97 (by decide) (fun _ => ?_) (fun _ => ?_)
            · refine x_lv [] rfl ?_
              exact IH.2.2.2.1  (σ16)
            · refine x_iconst (v := (1 : Int32)) C d_Md_isQuestion_100 (by decide) ?_
              refine x_goto (tgt := 105) C d_Md_isQuestion_101 (by decide) ?_
              refine x_lv [] rfl ?_
              exact IH.2.2.2.2 ((1 : Int32)) (σ16)
          · refine x_lv [] rfl ?_
            exact IH.2.2.2.1  (σ)
        · refine x_split (fun h18 => ?_) (fun h18 => ?_)
          · refine x_tabI (tgt := 36) C h18 d_Md_isQuestion_1 (by decide) (by decide) rfl (by decide) ?_
            refine x_iconst (v := (1 : Int32)) C d_Md_isQuestion_36 (by decide) ?_
            exact x_zret C (by decide) d_Md_isQuestion_37
          · refine x_tabO (tgt := 87) C d_Md_isQuestion_1 (by have e0 := lv_neT h1 (a := 0) (by decide); have e1 := lv_neT h2 (a := 1) (by decide); have e2 := lv_neT h7 (a := 2) (by decide); have e3 := lv_neT h14 (a := 3) (by decide); have e4 := lv_neT h18 (a := 4) (by decide); omega) (by decide) ?_
            refine x_iload_n C d_Md_isQuestion_87 1 rfl ?_
            refine x_iconst (v := (3 : Int32)) C d_Md_isQuestion_88 (by decide) ?_
            refine x_icmp_ne (tgt := 104) C d_Md_isQuestion_89 (by decide) (fun _ => ?_) (fun _ => ?_)
            · refine x_aload_n C d_Md_isQuestion_92 0 rfl ?_
              refine x_iload_n C d_Md_isQuestion_93 2 rfl ?_
              refine x_gd (fun h21 => ?_)
              refine x_callVI (As := [.int v2I]) C (c_Md_isSet G l v0R v2I σ) (okO_iff.mp h21) rfl w2194 w84 w2192 w2195 w134 k_Md_isSet rfl (by decide) (by decide) rfl (Nat.le_of_ble_eq_true rfl) d_Md_isQuestion_94 (fun r19 σ20 => ?_)
              refine x_if_eq (tgt := 104) C d_Md_isQuestion_97 (by decide) (fun _ => ?_) (fun _ => ?_)
              · refine x_lv [] rfl ?_
                exact IH.2.2.2.1  (σ20)
              · refine x_iconst (v := (1 : Int32)) C d_Md_isQuestion_100 (by decide) ?_
                refine x_goto (tgt := 105) C d_Md_isQuestion_101 (by decide) ?_
                refine x_lv [] rfl ?_
                exact IH.2.2.2.2 ((1 : Int32)) (σ20)
            · refine x_lv [] rfl ?_
              exact IH.2.2.2.1  (σ)
set_option maxRecDepth 20000 in
theorem s_Md_isQuestion_1 {G : GX} {p : Program} {l : Launch} {e : Env} {s : State} {m : MethodId} {args : Array Value} {below : List Frame} {meth : Method} {c : Code} {z0 u0 n : Nat} (C : Cx G p s m args meth c prog_14_method_86_code 3 "BellPlateModel" ((some FieldType.boolean))) (IH : I_Md_isQuestion G p l e s m args below meth c z0 u0 n)  (σ : AM) : VX (QM eI G args s below z0 u0) G p l e s m args below meth c 2 z0 u0 3 (lpK (lpn F_Md_isQuestion n) (T_Md_isQuestion_1  σ)) 85 [] [] σ := by
  unfold T_Md_isQuestion_1
  refine x_iconst (v := (0 : Int32)) C d_Md_isQuestion_85 (by decide) ?_
  exact IH.2.2.1 ((0 : Int32)) (σ)
set_option maxRecDepth 20000 in
theorem s_Md_isQuestion_2 {G : GX} {p : Program} {l : Launch} {e : Env} {s : State} {m : MethodId} {args : Array Value} {below : List Frame} {meth : Method} {c : Code} {z0 u0 n : Nat} (C : Cx G p s m args meth c prog_14_method_86_code 3 "BellPlateModel" ((some FieldType.boolean))) (IH : I_Md_isQuestion G p l e s m args below meth c z0 u0 n) (s0I : Int32) (σ : AM) : VX (QM eI G args s below z0 u0) G p l e s m args below meth c 2 z0 u0 3 (lpK (lpn F_Md_isQuestion n) (T_Md_isQuestion_2 s0I σ)) 86 [] [.int s0I] σ := by
  unfold T_Md_isQuestion_2
  refine x_gd (fun h1 => ?_)
  exact x_zret C (isB_narrow h1) d_Md_isQuestion_86
set_option maxRecDepth 20000 in
theorem s_Md_isQuestion_3 {G : GX} {p : Program} {l : Launch} {e : Env} {s : State} {m : MethodId} {args : Array Value} {below : List Frame} {meth : Method} {c : Code} {z0 u0 n : Nat} (C : Cx G p s m args meth c prog_14_method_86_code 3 "BellPlateModel" ((some FieldType.boolean))) (IH : I_Md_isQuestion G p l e s m args below meth c z0 u0 n)  (σ : AM) : VX (QM eI G args s below z0 u0) G p l e s m args below meth c 2 z0 u0 3 (lpK (lpn F_Md_isQuestion n) (T_Md_isQuestion_3  σ)) 104 [] [] σ := by
  unfold T_Md_isQuestion_3
  refine x_iconst (v := (0 : Int32)) C d_Md_isQuestion_104 (by decide) ?_
  exact IH.2.2.2.2 ((0 : Int32)) (σ)
set_option maxRecDepth 20000 in
theorem s_Md_isQuestion_4 {G : GX} {p : Program} {l : Launch} {e : Env} {s : State} {m : MethodId} {args : Array Value} {below : List Frame} {meth : Method} {c : Code} {z0 u0 n : Nat} (C : Cx G p s m args meth c prog_14_method_86_code 3 "BellPlateModel" ((some FieldType.boolean))) (IH : I_Md_isQuestion G p l e s m args below meth c z0 u0 n) (s0I : Int32) (σ : AM) : VX (QM eI G args s below z0 u0) G p l e s m args below meth c 2 z0 u0 3 (lpK (lpn F_Md_isQuestion n) (T_Md_isQuestion_4 s0I σ)) 105 [] [.int s0I] σ := by
  unfold T_Md_isQuestion_4
  refine x_gd (fun h1 => ?_)
  exact x_zret C (isB_narrow h1) d_Md_isQuestion_105
theorem i_Md_isQuestion {G : GX} {p : Program} {l : Launch} {e : Env} {s : State} {m : MethodId} {args : Array Value} {below : List Frame} {meth : Method} {c : Code} {z0 u0 : Nat} (C : Cx G p s m args meth c prog_14_method_86_code 3 "BellPlateModel" ((some FieldType.boolean))) (n : Nat) : I_Md_isQuestion G p l e s m args below meth c z0 u0 n := by
  induction n with
  | zero => exact ⟨fun _ _ _ _ => x_none, fun _ => x_none, fun _ _ => x_none, fun _ => x_none, fun _ _ => x_none⟩
  | succ n IH => exact ⟨fun v0R v1I v2I σ => s_Md_isQuestion_0 C IH v0R v1I v2I σ, fun σ => s_Md_isQuestion_1 C IH σ, fun s0I σ => s_Md_isQuestion_2 C IH s0I σ, fun σ => s_Md_isQuestion_3 C IH σ, fun s0I σ => s_Md_isQuestion_4 C IH s0I σ⟩
theorem c_Md_isQuestion (G : GX) (l : Launch) (v0R : Nat) (v1I : Int32) (v2I : Int32) (σ : AM) : CT eI G l 2 y_Md_isQuestion prog_14_method_86_code 3 ((some FieldType.boolean)) [.ref v0R, .int v1I, .int v2I] σ (M_Md_isQuestion v0R v1I v2I σ) := by
  refine ct_of (by decide +kernel) (Nat.le_of_ble_eq_true rfl) (fun p e s m args below meth c C hin => ?_)
  refine x_lve (lv' := [(0, .ref v0R), (1, .int v1I), (2, .int v2I)]) rfl ?_
  intro r σ' h
  obtain ⟨n, hn⟩ := (lp_iff _ _ _).mp h
  exact (i_Md_isQuestion C n).1 v0R v1I v2I σ r σ' hn
/-! BellPlateModel.ringCount(J)I -/
abbrev y_Md_ringCount : MethodName := ⟨"BellPlateModel", "ringCount", "(J)I"⟩
theorem k_Md_ringCount : y_Md_ringCount.cls ≠ "java/lang/invoke/MethodHandle" ∧ y_Md_ringCount.cls ≠ "java/lang/invoke/VarHandle" ∧ (parseMethodDescriptor y_Md_ringCount.desc).map (fun d => d.parameters.length) = some 1 := by decide +kernel
theorem d_Md_ringCount_0 : decode prog_14_method_88_code 0 = .ok (.iconst 0, 1) := by decide +kernel
theorem d_Md_ringCount_1 : decode prog_14_method_88_code 1 = .ok (.istore_n 3, 1) := by decide +kernel
theorem d_Md_ringCount_2 : decode prog_14_method_88_code 2 = .ok (.iconst 0, 1) := by decide +kernel
theorem d_Md_ringCount_3 : decode prog_14_method_88_code 3 = .ok (.istore 4, 2) := by decide +kernel
theorem d_Md_ringCount_5 : decode prog_14_method_88_code 5 = .ok (.iload 4, 2) := by decide +kernel
theorem d_Md_ringCount_7 : decode prog_14_method_88_code 7 = .ok (.aload_n 0, 1) := by decide +kernel
theorem d_Md_ringCount_8 : decode prog_14_method_88_code 8 = .ok (.invokevirtual 306, 3) := by decide +kernel
theorem d_Md_ringCount_11 : decode prog_14_method_88_code 11 = .ok (.if_icmp .ge 26, 3) := by decide +kernel
theorem d_Md_ringCount_14 : decode prog_14_method_88_code 14 = .ok (.iload_n 3, 1) := by decide +kernel
theorem d_Md_ringCount_15 : decode prog_14_method_88_code 15 = .ok (.lload_n 1, 1) := by decide +kernel
theorem d_Md_ringCount_16 : decode prog_14_method_88_code 16 = .ok (.iload 4, 2) := by decide +kernel
theorem d_Md_ringCount_18 : decode prog_14_method_88_code 18 = .ok (.invokestatic 357, 3) := by decide +kernel
theorem d_Md_ringCount_21 : decode prog_14_method_88_code 21 = .ok (.ifCond .eq 7, 3) := by decide +kernel
theorem d_Md_ringCount_24 : decode prog_14_method_88_code 24 = .ok (.iconst 1, 1) := by decide +kernel
theorem d_Md_ringCount_25 : decode prog_14_method_88_code 25 = .ok (.goto 4, 3) := by decide +kernel
theorem d_Md_ringCount_28 : decode prog_14_method_88_code 28 = .ok (.iconst 0, 1) := by decide +kernel
theorem d_Md_ringCount_29 : decode prog_14_method_88_code 29 = .ok (.iadd, 1) := by decide +kernel
theorem d_Md_ringCount_30 : decode prog_14_method_88_code 30 = .ok (.istore_n 3, 1) := by decide +kernel
theorem d_Md_ringCount_31 : decode prog_14_method_88_code 31 = .ok (.iinc 4 1, 3) := by decide +kernel
theorem d_Md_ringCount_34 : decode prog_14_method_88_code 34 = .ok (.goto (-29), 3) := by decide +kernel
theorem d_Md_ringCount_37 : decode prog_14_method_88_code 37 = .ok (.iload_n 3, 1) := by decide +kernel
theorem d_Md_ringCount_38 : decode prog_14_method_88_code 38 = .ok (.ireturn, 1) := by decide +kernel
abbrev S_Md_ringCount : Type := Nat × Nat × Int64 × Int32 × Int32 × Int32 × Int32 × AM
noncomputable def T_Md_ringCount_0 (v0R : Nat) (v1J : Int64) (σ : AM) : S_Md_ringCount ⊕ Option (Int32 × AM) :=
  .inl (1, v0R, v1J, (0 : Int32), (0 : Int32), 0, 0, σ)
noncomputable def T_Md_ringCount_1 (v0R : Nat) (v1J : Int64) (v3I : Int32) (v4I : Int32) (σ : AM) : S_Md_ringCount ⊕ Option (Int32 × AM) :=
  gdT (okO σ v0R 12) <| bndT (M_Md_sets v0R σ) fun r1 σ2 => if v4I < r1 then (bndT (M_Md_doesRing v1J v4I σ2) fun r4 σ5 => if r4 = 0 then (.inl (2, v0R, v1J, 0, v4I, v3I, (0 : Int32), σ5)) else (.inl (2, v0R, v1J, 0, v4I, v3I, (1 : Int32), σ5))) else (.inr (some (v3I, σ2)))
noncomputable def T_Md_ringCount_2 (v0R : Nat) (v1J : Int64) (v4I : Int32) (s0I : Int32) (s1I : Int32) (σ : AM) : S_Md_ringCount ⊕ Option (Int32 × AM) :=
  letT (s0I + s1I) fun x1 => .inl (1, v0R, v1J, x1, v4I + (1 : Int32), 0, 0, σ)
noncomputable def F_Md_ringCount : S_Md_ringCount → S_Md_ringCount ⊕ Option (Int32 × AM) := fun s => match s.1 with
  | 0 => T_Md_ringCount_0 (s.2.1) (s.2.2.1) (s.2.2.2.2.2.2.2)
  | 1 => T_Md_ringCount_1 (s.2.1) (s.2.2.1) (s.2.2.2.1) (s.2.2.2.2.1) (s.2.2.2.2.2.2.2)
  | _ => T_Md_ringCount_2 (s.2.1) (s.2.2.1) (s.2.2.2.2.1) (s.2.2.2.2.2.1) (s.2.2.2.2.2.2.1) (s.2.2.2.2.2.2.2)
noncomputable def L_Md_ringCount_0 (v0R : Nat) (v1J : Int64) (σ : AM) : Option (Int32 × AM) := lp F_Md_ringCount (0, v0R, v1J, 0, 0, 0, 0, σ)
noncomputable def L_Md_ringCount_1 (v0R : Nat) (v1J : Int64) (v3I : Int32) (v4I : Int32) (σ : AM) : Option (Int32 × AM) := lp F_Md_ringCount (1, v0R, v1J, v3I, v4I, 0, 0, σ)
noncomputable def L_Md_ringCount_2 (v0R : Nat) (v1J : Int64) (v4I : Int32) (s0I : Int32) (s1I : Int32) (σ : AM) : Option (Int32 × AM) := lp F_Md_ringCount (2, v0R, v1J, 0, v4I, s0I, s1I, σ)
set_option maxRecDepth 20000 in
theorem E_Md_ringCount_0 (v0R : Nat) (v1J : Int64) (σ : AM) : L_Md_ringCount_0 v0R v1J σ = (L_Md_ringCount_1 v0R v1J ((0 : Int32)) ((0 : Int32)) σ) := by
  unfold L_Md_ringCount_0
  rw [lp_eq]
  show lpK (lp F_Md_ringCount) (T_Md_ringCount_0 v0R v1J σ) = _
  unfold T_Md_ringCount_0
  simp only [lpK_ite, lq_inl, lq_inr, lpK_bnd, lpK_gd, lq_let]
  try rfl
set_option maxRecDepth 20000 in
theorem E_Md_ringCount_1 (v0R : Nat) (v1J : Int64) (v3I : Int32) (v4I : Int32) (σ : AM) : L_Md_ringCount_1 v0R v1J v3I v4I σ = (gd (okO σ v0R 12) <| bnd (M_Md_sets v0R σ) fun r1 σ2 => if v4I < r1 then (bnd (M_Md_doesRing v1J v4I σ2) fun r4 σ5 => if r4 = 0 then (L_Md_ringCount_2 v0R v1J v4I v3I ((0 : Int32)) σ5) else (L_Md_ringCount_2 v0R v1J v4I v3I ((1 : Int32)) σ5)) else ((some (v3I, σ2)))) := by
  unfold L_Md_ringCount_1
  rw [lp_eq]
  show lpK (lp F_Md_ringCount) (T_Md_ringCount_1 v0R v1J v3I v4I σ) = _
  unfold T_Md_ringCount_1
  simp only [lpK_ite, lq_inl, lq_inr, lpK_bnd, lpK_gd, lq_let]
  try rfl
set_option maxRecDepth 20000 in
theorem E_Md_ringCount_2 (v0R : Nat) (v1J : Int64) (v4I : Int32) (s0I : Int32) (s1I : Int32) (σ : AM) : L_Md_ringCount_2 v0R v1J v4I s0I s1I σ = (letT (s0I + s1I) fun x1 => L_Md_ringCount_1 v0R v1J x1 (v4I + (1 : Int32)) σ) := by
  unfold L_Md_ringCount_2
  rw [lp_eq]
  show lpK (lp F_Md_ringCount) (T_Md_ringCount_2 v0R v1J v4I s0I s1I σ) = _
  unfold T_Md_ringCount_2
  simp only [lpK_ite, lq_inl, lq_inr, lpK_bnd, lpK_gd, lq_let]
  try rfl
noncomputable def M_Md_ringCount (v0R : Nat) (v1J : Int64) (σ : AM) : Option (Int32 × AM) := mw σ (L_Md_ringCount_0 v0R v1J σ)
def I_Md_ringCount (G : GX) (p : Program) (l : Launch) (e : Env) (s : State) (m : MethodId) (args : Array Value) (below : List Frame) (meth : Method) (c : Code) (z0 u0 n : Nat) : Prop :=
  (∀ (v0R : Nat) (v1J : Int64) (σ : AM), VX (QM eI G args s below z0 u0) G p l e s m args below meth c 1 z0 u0 5 (lpn F_Md_ringCount n (0, v0R, v1J, 0, 0, 0, 0, σ)) 0 [(0, .ref v0R), (1, .long v1J)] [] σ) ∧
  (∀ (v0R : Nat) (v1J : Int64) (v3I : Int32) (v4I : Int32) (σ : AM), VX (QM eI G args s below z0 u0) G p l e s m args below meth c 1 z0 u0 5 (lpn F_Md_ringCount n (1, v0R, v1J, v3I, v4I, 0, 0, σ)) 5 [(0, .ref v0R), (1, .long v1J), (3, .int v3I), (4, .int v4I)] [] σ) ∧
  (∀ (v0R : Nat) (v1J : Int64) (v4I : Int32) (s0I : Int32) (s1I : Int32) (σ : AM), VX (QM eI G args s below z0 u0) G p l e s m args below meth c 1 z0 u0 5 (lpn F_Md_ringCount n (2, v0R, v1J, 0, v4I, s0I, s1I, σ)) 29 [(0, .ref v0R), (1, .long v1J), (4, .int v4I)] [.int s1I, .int s0I] σ)
set_option maxRecDepth 20000 in
theorem s_Md_ringCount_0 {G : GX} {p : Program} {l : Launch} {e : Env} {s : State} {m : MethodId} {args : Array Value} {below : List Frame} {meth : Method} {c : Code} {z0 u0 n : Nat} (C : Cx G p s m args meth c prog_14_method_88_code 5 "BellPlateModel" ((some FieldType.int))) (IH : I_Md_ringCount G p l e s m args below meth c z0 u0 n) (v0R : Nat) (v1J : Int64) (σ : AM) : VX (QM eI G args s below z0 u0) G p l e s m args below meth c 1 z0 u0 5 (lpK (lpn F_Md_ringCount n) (T_Md_ringCount_0 v0R v1J σ)) 0 [(0, .ref v0R), (1, .long v1J)] [] σ := by
  unfold T_Md_ringCount_0
  refine x_iconst (v := (0 : Int32)) C d_Md_ringCount_0 (by decide) ?_
  refine x_istore_n (lv' := [(3, .int (0 : Int32)), (0, .ref v0R), (1, .long v1J)]) C d_Md_ringCount_1 (by decide) rfl rfl ?_
  refine x_iconst (v := (0 : Int32)) C d_Md_ringCount_2 (by decide) ?_
  refine x_istore (lv' := [(4, .int (0 : Int32)), (3, .int (0 : Int32)), (0, .ref v0R), (1, .long v1J)]) C d_Md_ringCount_3 (by decide) rfl ?_
  refine x_lv [2, 3, 1, 0] rfl ?_
  exact IH.2.1 v0R v1J ((0 : Int32)) ((0 : Int32)) (σ)
set_option maxRecDepth 20000 in
theorem s_Md_ringCount_1 {G : GX} {p : Program} {l : Launch} {e : Env} {s : State} {m : MethodId} {args : Array Value} {below : List Frame} {meth : Method} {c : Code} {z0 u0 n : Nat} (C : Cx G p s m args meth c prog_14_method_88_code 5 "BellPlateModel" ((some FieldType.int))) (IH : I_Md_ringCount G p l e s m args below meth c z0 u0 n) (v0R : Nat) (v1J : Int64) (v3I : Int32) (v4I : Int32) (σ : AM) : VX (QM eI G args s below z0 u0) G p l e s m args below meth c 1 z0 u0 5 (lpK (lpn F_Md_ringCount n) (T_Md_ringCount_1 v0R v1J v3I v4I σ)) 5 [(0, .ref v0R), (1, .long v1J), (3, .int v3I), (4, .int v4I)] [] σ := by
  unfold T_Md_ringCount_1
  refine x_iload C d_Md_ringCount_5 3 rfl ?_
  refine x_aload_n C d_Md_ringCount_7 0 rfl ?_
  refine x_gd (fun h3 => ?_)
  refine x_callVI (As := []) C (c_Md_sets G l v0R  σ) (okO_iff.mp h3) rfl w1826 w58 w1824 w1827 w134 k_Md_sets rfl (by decide) (by decide) rfl (Nat.le_of_ble_eq_true rfl) d_Md_ringCount_8 (fun r1 σ2 => ?_)
  refine x_icmp_ge (tgt := 37) C d_Md_ringCount_11 (by decide) (fun _ => ?_) (fun _ => ?_)
  · refine x_iload_n C d_Md_ringCount_14 2 rfl ?_
    refine x_lload_n C d_Md_ringCount_15 1 rfl ?_
    refine x_iload C d_Md_ringCount_16 3 rfl ?_
    refine x_callSI (As := [.long v1J, .int v4I]) C (c_Md_doesRing G l v1J v4I σ2) w2235 w2234 w2236 w134 k_Md_doesRing rfl (by decide) (by decide) rfl (Nat.le_of_ble_eq_true rfl) d_Md_ringCount_18 (fun r4 σ5 => ?_)
    refine x_if_eq (tgt := 28) C d_Md_ringCount_21 (by decide) (fun _ => ?_) (fun _ => ?_)
    · refine x_iconst (v := (0 : Int32)) C d_Md_ringCount_28 (by decide) ?_
      refine x_lv [0, 1, 3] rfl ?_
      exact IH.2.2 v0R v1J v4I v3I ((0 : Int32)) (σ5)
    · refine x_iconst (v := (1 : Int32)) C d_Md_ringCount_24 (by decide) ?_
      refine x_goto (tgt := 29) C d_Md_ringCount_25 (by decide) ?_
      refine x_lv [0, 1, 3] rfl ?_
      exact IH.2.2 v0R v1J v4I v3I ((1 : Int32)) (σ5)
  · refine x_iload_n C d_Md_ringCount_37 2 rfl ?_
    exact x_iret C d_Md_ringCount_38
set_option maxRecDepth 20000 in
theorem s_Md_ringCount_2 {G : GX} {p : Program} {l : Launch} {e : Env} {s : State} {m : MethodId} {args : Array Value} {below : List Frame} {meth : Method} {c : Code} {z0 u0 n : Nat} (C : Cx G p s m args meth c prog_14_method_88_code 5 "BellPlateModel" ((some FieldType.int))) (IH : I_Md_ringCount G p l e s m args below meth c z0 u0 n) (v0R : Nat) (v1J : Int64) (v4I : Int32) (s0I : Int32) (s1I : Int32) (σ : AM) : VX (QM eI G args s below z0 u0) G p l e s m args below meth c 1 z0 u0 5 (lpK (lpn F_Md_ringCount n) (T_Md_ringCount_2 v0R v1J v4I s0I s1I σ)) 29 [(0, .ref v0R), (1, .long v1J), (4, .int v4I)] [.int s1I, .int s0I] σ := by
  unfold T_Md_ringCount_2
  refine x_iadd C d_Md_ringCount_29 ?_
  refine x_letI (fun x1 _ => ?_)
  refine x_istore_n (lv' := [(3, .int x1), (0, .ref v0R), (1, .long v1J), (4, .int v4I)]) C d_Md_ringCount_30 (by decide) rfl rfl ?_
  refine x_iinc (v := v4I + (1 : Int32)) (lv' := [(4, .int (v4I + (1 : Int32))), (3, .int x1), (0, .ref v0R), (1, .long v1J)]) C d_Md_ringCount_31 3 rfl rfl (by decide) rfl ?_
  refine x_goto (tgt := 5) C d_Md_ringCount_34 (by decide) ?_
  refine x_lv [2, 3, 1, 0] rfl ?_
  exact IH.2.1 v0R v1J x1 (v4I + (1 : Int32)) (σ)
theorem i_Md_ringCount {G : GX} {p : Program} {l : Launch} {e : Env} {s : State} {m : MethodId} {args : Array Value} {below : List Frame} {meth : Method} {c : Code} {z0 u0 : Nat} (C : Cx G p s m args meth c prog_14_method_88_code 5 "BellPlateModel" ((some FieldType.int))) (n : Nat) : I_Md_ringCount G p l e s m args below meth c z0 u0 n := by
  induction n with
  | zero => exact ⟨fun _ _ _ => x_none, fun _ _ _ _ _ => x_none, fun _ _ _ _ _ _ => x_none⟩
  | succ n IH => exact ⟨fun v0R v1J σ => s_Md_ringCount_0 C IH v0R v1J σ, fun v0R v1J v3I v4I σ => s_Md_ringCount_1 C IH v0R v1J v3I v4I σ, fun v0R v1J v4I s0I s1I σ => s_Md_ringCount_2 C IH v0R v1J v4I s0I s1I σ⟩
theorem c_Md_ringCount (G : GX) (l : Launch) (v0R : Nat) (v1J : Int64) (σ : AM) : CT eI G l 1 y_Md_ringCount prog_14_method_88_code 5 ((some FieldType.int)) [.ref v0R, .long v1J] σ (M_Md_ringCount v0R v1J σ) := by
  refine ct_of (by decide +kernel) (Nat.le_of_ble_eq_true rfl) (fun p e s m args below meth c C hin => ?_)
  refine x_lve (lv' := [(0, .ref v0R), (1, .long v1J)]) rfl ?_
  intro r σ' h
  obtain ⟨n, hn⟩ := (lp_iff _ _ _).mp h
  exact (i_Md_ringCount C n).1 v0R v1J σ r σ' hn
/-! BellPlateModel.fewestFor(III)I -/
abbrev y_Md_fewestFor : MethodName := ⟨"BellPlateModel", "fewestFor", "(III)I"⟩
theorem k_Md_fewestFor : y_Md_fewestFor.cls ≠ "java/lang/invoke/MethodHandle" ∧ y_Md_fewestFor.cls ≠ "java/lang/invoke/VarHandle" ∧ (parseMethodDescriptor y_Md_fewestFor.desc).map (fun d => d.parameters.length) = some 3 := by decide +kernel
theorem d_Md_fewestFor_0 : decode prog_14_method_87_code 0 = .ok (.aload_n 0, 1) := by decide +kernel
theorem d_Md_fewestFor_1 : decode prog_14_method_87_code 1 = .ok (.iconst 0, 1) := by decide +kernel
theorem d_Md_fewestFor_2 : decode prog_14_method_87_code 2 = .ok (.putfield 1, 3) := by decide +kernel
theorem d_Md_fewestFor_5 : decode prog_14_method_87_code 5 = .ok (.iload_n 3, 1) := by decide +kernel
theorem d_Md_fewestFor_6 : decode prog_14_method_87_code 6 = .ok (.invokestatic 453, 3) := by decide +kernel
theorem d_Md_fewestFor_9 : decode prog_14_method_87_code 9 = .ok (.ifCond .eq 12, 3) := by decide +kernel
theorem d_Md_fewestFor_12 : decode prog_14_method_87_code 12 = .ok (.aload_n 0, 1) := by decide +kernel
theorem d_Md_fewestFor_13 : decode prog_14_method_87_code 13 = .ok (.iload_n 1, 1) := by decide +kernel
theorem d_Md_fewestFor_14 : decode prog_14_method_87_code 14 = .ok (.iload_n 2, 1) := by decide +kernel
theorem d_Md_fewestFor_15 : decode prog_14_method_87_code 15 = .ok (.invokevirtual 469, 3) := by decide +kernel
theorem d_Md_fewestFor_18 : decode prog_14_method_87_code 18 = .ok (.ifCond .ne 5, 3) := by decide +kernel
theorem d_Md_fewestFor_21 : decode prog_14_method_87_code 21 = .ok (.iconst (-1), 1) := by decide +kernel
theorem d_Md_fewestFor_22 : decode prog_14_method_87_code 22 = .ok (.ireturn, 1) := by decide +kernel
theorem d_Md_fewestFor_23 : decode prog_14_method_87_code 23 = .ok (.aload_n 0, 1) := by decide +kernel
theorem d_Md_fewestFor_24 : decode prog_14_method_87_code 24 = .ok (.invokevirtual 381, 3) := by decide +kernel
theorem d_Md_fewestFor_27 : decode prog_14_method_87_code 27 = .ok (.aload_n 0, 1) := by decide +kernel
theorem d_Md_fewestFor_28 : decode prog_14_method_87_code 28 = .ok (.getfield 372, 3) := by decide +kernel
theorem d_Md_fewestFor_31 : decode prog_14_method_87_code 31 = .ok (.ifCond .eq 12, 3) := by decide +kernel
theorem d_Md_fewestFor_34 : decode prog_14_method_87_code 34 = .ok (.aload_n 0, 1) := by decide +kernel
theorem d_Md_fewestFor_35 : decode prog_14_method_87_code 35 = .ok (.getfield 372, 3) := by decide +kernel
theorem d_Md_fewestFor_38 : decode prog_14_method_87_code 38 = .ok (.bipush 12, 2) := by decide +kernel
theorem d_Md_fewestFor_40 : decode prog_14_method_87_code 40 = .ok (.if_icmp .le 5, 3) := by decide +kernel
theorem d_Md_fewestFor_43 : decode prog_14_method_87_code 43 = .ok (.iconst (-1), 1) := by decide +kernel
theorem d_Md_fewestFor_44 : decode prog_14_method_87_code 44 = .ok (.ireturn, 1) := by decide +kernel
theorem d_Md_fewestFor_45 : decode prog_14_method_87_code 45 = .ok (.iconst 0, 1) := by decide +kernel
theorem d_Md_fewestFor_46 : decode prog_14_method_87_code 46 = .ok (.istore 4, 2) := by decide +kernel
theorem d_Md_fewestFor_48 : decode prog_14_method_87_code 48 = .ok (.iload 4, 2) := by decide +kernel
theorem d_Md_fewestFor_50 : decode prog_14_method_87_code 50 = .ok (.aload_n 0, 1) := by decide +kernel
theorem d_Md_fewestFor_51 : decode prog_14_method_87_code 51 = .ok (.getfield 372, 3) := by decide +kernel
theorem d_Md_fewestFor_54 : decode prog_14_method_87_code 54 = .ok (.if_icmp .ge 121, 3) := by decide +kernel
theorem d_Md_fewestFor_57 : decode prog_14_method_87_code 57 = .ok (.aload_n 0, 1) := by decide +kernel
theorem d_Md_fewestFor_58 : decode prog_14_method_87_code 58 = .ok (.getfield 82, 3) := by decide +kernel
theorem d_Md_fewestFor_61 : decode prog_14_method_87_code 61 = .ok (.aload_n 0, 1) := by decide +kernel
theorem d_Md_fewestFor_62 : decode prog_14_method_87_code 62 = .ok (.getfield 116, 3) := by decide +kernel
theorem d_Md_fewestFor_65 : decode prog_14_method_87_code 65 = .ok (.iload 4, 2) := by decide +kernel
theorem d_Md_fewestFor_67 : decode prog_14_method_87_code 67 = .ok (.iaload, 1) := by decide +kernel
theorem d_Md_fewestFor_68 : decode prog_14_method_87_code 68 = .ok (.laload, 1) := by decide +kernel
theorem d_Md_fewestFor_69 : decode prog_14_method_87_code 69 = .ok (.lstore 5, 2) := by decide +kernel
theorem d_Md_fewestFor_71 : decode prog_14_method_87_code 71 = .ok (.iload_n 1, 1) := by decide +kernel
theorem d_Md_fewestFor_72 : decode prog_14_method_87_code 72 = .ok (.iconst 1, 1) := by decide +kernel
theorem d_Md_fewestFor_73 : decode prog_14_method_87_code 73 = .ok (.if_icmp .ne 13, 3) := by decide +kernel
theorem d_Md_fewestFor_76 : decode prog_14_method_87_code 76 = .ok (.aload_n 0, 1) := by decide +kernel
theorem d_Md_fewestFor_77 : decode prog_14_method_87_code 77 = .ok (.lload 5, 2) := by decide +kernel
theorem d_Md_fewestFor_79 : decode prog_14_method_87_code 79 = .ok (.iload_n 2, 1) := by decide +kernel
theorem d_Md_fewestFor_80 : decode prog_14_method_87_code 80 = .ok (.invokevirtual 396, 3) := by decide +kernel
theorem d_Md_fewestFor_83 : decode prog_14_method_87_code 83 = .ok (.goto 44, 3) := by decide +kernel
theorem d_Md_fewestFor_86 : decode prog_14_method_87_code 86 = .ok (.iload_n 1, 1) := by decide +kernel
theorem d_Md_fewestFor_87 : decode prog_14_method_87_code 87 = .ok (.iconst 2, 1) := by decide +kernel
theorem d_Md_fewestFor_88 : decode prog_14_method_87_code 88 = .ok (.if_icmp .ne 20, 3) := by decide +kernel
theorem d_Md_fewestFor_91 : decode prog_14_method_87_code 91 = .ok (.aload_n 0, 1) := by decide +kernel
theorem d_Md_fewestFor_92 : decode prog_14_method_87_code 92 = .ok (.lload 5, 2) := by decide +kernel
theorem d_Md_fewestFor_94 : decode prog_14_method_87_code 94 = .ok (.iload_n 2, 1) := by decide +kernel
theorem d_Md_fewestFor_95 : decode prog_14_method_87_code 95 = .ok (.bipush 6, 2) := by decide +kernel
theorem d_Md_fewestFor_97 : decode prog_14_method_87_code 97 = .ok (.idiv, 1) := by decide +kernel
theorem d_Md_fewestFor_98 : decode prog_14_method_87_code 98 = .ok (.iload_n 2, 1) := by decide +kernel
theorem d_Md_fewestFor_99 : decode prog_14_method_87_code 99 = .ok (.bipush 6, 2) := by decide +kernel
theorem d_Md_fewestFor_101 : decode prog_14_method_87_code 101 = .ok (.irem, 1) := by decide +kernel
theorem d_Md_fewestFor_102 : decode prog_14_method_87_code 102 = .ok (.invokevirtual 399, 3) := by decide +kernel
theorem d_Md_fewestFor_105 : decode prog_14_method_87_code 105 = .ok (.goto 22, 3) := by decide +kernel
theorem d_Md_fewestFor_108 : decode prog_14_method_87_code 108 = .ok (.iload_n 1, 1) := by decide +kernel
theorem d_Md_fewestFor_109 : decode prog_14_method_87_code 109 = .ok (.iconst 3, 1) := by decide +kernel
theorem d_Md_fewestFor_110 : decode prog_14_method_87_code 110 = .ok (.if_icmp .ne 16, 3) := by decide +kernel
theorem d_Md_fewestFor_113 : decode prog_14_method_87_code 113 = .ok (.lload 5, 2) := by decide +kernel
theorem d_Md_fewestFor_115 : decode prog_14_method_87_code 115 = .ok (.iload_n 2, 1) := by decide +kernel
theorem d_Md_fewestFor_116 : decode prog_14_method_87_code 116 = .ok (.invokestatic 357, 3) := by decide +kernel
theorem d_Md_fewestFor_119 : decode prog_14_method_87_code 119 = .ok (.ifCond .eq 7, 3) := by decide +kernel
theorem d_Md_fewestFor_122 : decode prog_14_method_87_code 122 = .ok (.iconst 1, 1) := by decide +kernel
theorem d_Md_fewestFor_123 : decode prog_14_method_87_code 123 = .ok (.goto 4, 3) := by decide +kernel
theorem d_Md_fewestFor_126 : decode prog_14_method_87_code 126 = .ok (.iconst 0, 1) := by decide +kernel
theorem d_Md_fewestFor_127 : decode prog_14_method_87_code 127 = .ok (.istore 7, 2) := by decide +kernel
theorem d_Md_fewestFor_129 : decode prog_14_method_87_code 129 = .ok (.aload_n 0, 1) := by decide +kernel
theorem d_Md_fewestFor_130 : decode prog_14_method_87_code 130 = .ok (.getfield 131, 3) := by decide +kernel
theorem d_Md_fewestFor_133 : decode prog_14_method_87_code 133 = .ok (.iload 4, 2) := by decide +kernel
theorem d_Md_fewestFor_135 : decode prog_14_method_87_code 135 = .ok (.iload_n 1, 1) := by decide +kernel
theorem d_Md_fewestFor_136 : decode prog_14_method_87_code 136 = .ok (.ifCond .ne 8, 3) := by decide +kernel
theorem d_Md_fewestFor_139 : decode prog_14_method_87_code 139 = .ok (.iload 4, 2) := by decide +kernel
theorem d_Md_fewestFor_141 : decode prog_14_method_87_code 141 = .ok (.goto 27, 3) := by decide +kernel
theorem d_Md_fewestFor_144 : decode prog_14_method_87_code 144 = .ok (.iload_n 1, 1) := by decide +kernel
theorem d_Md_fewestFor_145 : decode prog_14_method_87_code 145 = .ok (.iconst 4, 1) := by decide +kernel
theorem d_Md_fewestFor_146 : decode prog_14_method_87_code 146 = .ok (.if_icmp .ne 12, 3) := by decide +kernel
theorem d_Md_fewestFor_149 : decode prog_14_method_87_code 149 = .ok (.aload_n 0, 1) := by decide +kernel
theorem d_Md_fewestFor_150 : decode prog_14_method_87_code 150 = .ok (.lload 5, 2) := by decide +kernel
theorem d_Md_fewestFor_152 : decode prog_14_method_87_code 152 = .ok (.invokevirtual 472, 3) := by decide +kernel
theorem d_Md_fewestFor_155 : decode prog_14_method_87_code 155 = .ok (.goto 13, 3) := by decide +kernel
theorem d_Md_fewestFor_158 : decode prog_14_method_87_code 158 = .ok (.iload 7, 2) := by decide +kernel
theorem d_Md_fewestFor_160 : decode prog_14_method_87_code 160 = .ok (.ifCond .eq 7, 3) := by decide +kernel
theorem d_Md_fewestFor_163 : decode prog_14_method_87_code 163 = .ok (.iconst 1, 1) := by decide +kernel
theorem d_Md_fewestFor_164 : decode prog_14_method_87_code 164 = .ok (.goto 4, 3) := by decide +kernel
theorem d_Md_fewestFor_167 : decode prog_14_method_87_code 167 = .ok (.iconst 0, 1) := by decide +kernel
theorem d_Md_fewestFor_168 : decode prog_14_method_87_code 168 = .ok (.iastore, 1) := by decide +kernel
theorem d_Md_fewestFor_169 : decode prog_14_method_87_code 169 = .ok (.iinc 4 1, 3) := by decide +kernel
theorem d_Md_fewestFor_172 : decode prog_14_method_87_code 172 = .ok (.goto (-124), 3) := by decide +kernel
theorem d_Md_fewestFor_175 : decode prog_14_method_87_code 175 = .ok (.aload_n 0, 1) := by decide +kernel
theorem d_Md_fewestFor_176 : decode prog_14_method_87_code 176 = .ok (.iload_n 3, 1) := by decide +kernel
theorem d_Md_fewestFor_177 : decode prog_14_method_87_code 177 = .ok (.invokevirtual 475, 3) := by decide +kernel
theorem d_Md_fewestFor_180 : decode prog_14_method_87_code 180 = .ok (.ireturn, 1) := by decide +kernel
abbrev S_Md_fewestFor : Type := Nat × Nat × Int32 × Int32 × Int32 × Int32 × Int64 × Int32 × Nat × Int32 × Int32 × AM
noncomputable def T_Md_fewestFor_0 (v0R : Nat) (v1I : Int32) (v2I : Int32) (v3I : Int32) (σ : AM) : S_Md_fewestFor ⊕ Option (Int32 × AM) :=
  gdT (okO σ v0R 12) <| letT (sI σ v0R 0 (0 : Int32)) fun σ2 => bndT (M_Md_isWhat v3I σ2) fun r4 σ5 => if r4 = 0 then (.inl (1, 0, 0, 0, 0, 0, 0, 0, 0, 0, 0, σ5)) else (gdT (okO σ5 v0R 12) <| bndT (M_Md_isQuestion v0R v1I v2I σ5) fun r6 σ7 => if r6 = 0 then (.inl (1, 0, 0, 0, 0, 0, 0, 0, 0, 0, 0, σ7)) else (gdT (okO σ7 v0R 12) <| bndT (M_Md_findLeft v0R σ7) fun _ σ10 => gdT (okO σ10 v0R 12) <| if (aI σ10 v0R 46) = 0 then (.inl (2, 0, 0, 0, 0, 0, 0, 0, 0, 0, 0, σ10)) else (if (12 : Int32) < (aI σ10 v0R 46) then (.inl (2, 0, 0, 0, 0, 0, 0, 0, 0, 0, 0, σ10)) else (.inl (3, v0R, v1I, v2I, v3I, (0 : Int32), 0, 0, 0, 0, 0, σ10)))))
noncomputable def T_Md_fewestFor_1  (σ : AM) : S_Md_fewestFor ⊕ Option (Int32 × AM) :=
  .inr (some (((-1) : Int32), σ))
noncomputable def T_Md_fewestFor_2  (σ : AM) : S_Md_fewestFor ⊕ Option (Int32 × AM) :=
  .inr (some (((-1) : Int32), σ))
noncomputable def T_Md_fewestFor_3 (v0R : Nat) (v1I : Int32) (v2I : Int32) (v3I : Int32) (v4I : Int32) (σ : AM) : S_Md_fewestFor ⊕ Option (Int32 × AM) :=
  gdT (okO σ v0R 12) <| if v4I < (aI σ v0R 46) then (gdT (okO σ (aR σ v0R 30) 102) <| gdT (okO σ (aR σ v0R 45) 101) <| gdT (inB v4I (aN σ (aR σ v0R 45))) <| gdT (inB (aI σ (aR σ v0R 45) v4I.toNatClampNeg) (aN σ (aR σ v0R 30))) <| letT (aL σ (aR σ v0R 30) (aI σ (aR σ v0R 45) v4I.toNatClampNeg).toNatClampNeg) fun x6 => if v1I = (1 : Int32) then (bndT (M_Md_doesMatter v0R x6 v2I σ) fun r7 σ8 => .inl (5, v0R, v1I, v2I, v3I, v4I, x6, r7, 0, 0, 0, σ8)) else (if v1I = (2 : Int32) then (bndT (M_Md_areAlike v0R x6 (v2I / (6 : Int32)) (v2I - v2I / (6 : Int32) * (6 : Int32)) σ) fun r9 σ10 => .inl (5, v0R, v1I, v2I, v3I, v4I, x6, r9, 0, 0, 0, σ10)) else (if v1I = (3 : Int32) then (bndT (M_Md_doesRing x6 v2I σ) fun r11 σ12 => if r11 = 0 then (.inl (4, v0R, v1I, v2I, v3I, v4I, x6, 0, 0, 0, 0, σ12)) else (.inl (5, v0R, v1I, v2I, v3I, v4I, x6, (1 : Int32), 0, 0, 0, σ12))) else (.inl (4, v0R, v1I, v2I, v3I, v4I, x6, 0, 0, 0, 0, σ))))) else (bndT (M_Md_findFewest v0R v3I σ) fun r13 σ14 => .inr (some (r13, σ14)))
noncomputable def T_Md_fewestFor_4 (v0R : Nat) (v1I : Int32) (v2I : Int32) (v3I : Int32) (v4I : Int32) (v5J : Int64) (σ : AM) : S_Md_fewestFor ⊕ Option (Int32 × AM) :=
  .inl (5, v0R, v1I, v2I, v3I, v4I, v5J, (0 : Int32), 0, 0, 0, σ)
noncomputable def T_Md_fewestFor_5 (v0R : Nat) (v1I : Int32) (v2I : Int32) (v3I : Int32) (v4I : Int32) (v5J : Int64) (s0I : Int32) (σ : AM) : S_Md_fewestFor ⊕ Option (Int32 × AM) :=
  gdT (okO σ v0R 12) <| gdT (okO σ (aR σ v0R 57) 101) <| if v1I = 0 then (.inl (6, v0R, v1I, v2I, v3I, v4I, 0, 0, aR σ v0R 57, v4I, v4I, σ)) else (if v1I = (4 : Int32) then (bndT (M_Md_ringCount v0R v5J σ) fun r3 σ4 => .inl (6, v0R, v1I, v2I, v3I, v4I, 0, 0, aR σ v0R 57, v4I, r3, σ4)) else (if s0I = 0 then (.inl (6, v0R, v1I, v2I, v3I, v4I, 0, 0, aR σ v0R 57, v4I, (0 : Int32), σ)) else (.inl (6, v0R, v1I, v2I, v3I, v4I, 0, 0, aR σ v0R 57, v4I, (1 : Int32), σ))))
noncomputable def T_Md_fewestFor_6 (v0R : Nat) (v1I : Int32) (v2I : Int32) (v3I : Int32) (v4I : Int32) (s0R : Nat) (s1I : Int32) (s2I : Int32) (σ : AM) : S_Md_fewestFor ⊕ Option (Int32 × AM) :=
  gdT (okO σ s0R 101) <| gdT (inB s1I (aN σ s0R)) <| letT (sI σ s0R s1I.toNatClampNeg s2I) fun σ3 => .inl (3, v0R, v1I, v2I, v3I, v4I + (1 : Int32), 0, 0, 0, 0, 0, σ3)
noncomputable def F_Md_fewestFor : S_Md_fewestFor → S_Md_fewestFor ⊕ Option (Int32 × AM) := fun s => match s.1 with
  | 0 => T_Md_fewestFor_0 (s.2.1) (s.2.2.1) (s.2.2.2.1) (s.2.2.2.2.1) (s.2.2.2.2.2.2.2.2.2.2.2)
  | 1 => T_Md_fewestFor_1  (s.2.2.2.2.2.2.2.2.2.2.2)
  | 2 => T_Md_fewestFor_2  (s.2.2.2.2.2.2.2.2.2.2.2)
  | 3 => T_Md_fewestFor_3 (s.2.1) (s.2.2.1) (s.2.2.2.1) (s.2.2.2.2.1) (s.2.2.2.2.2.1) (s.2.2.2.2.2.2.2.2.2.2.2)
  | 4 => T_Md_fewestFor_4 (s.2.1) (s.2.2.1) (s.2.2.2.1) (s.2.2.2.2.1) (s.2.2.2.2.2.1) (s.2.2.2.2.2.2.1) (s.2.2.2.2.2.2.2.2.2.2.2)
  | 5 => T_Md_fewestFor_5 (s.2.1) (s.2.2.1) (s.2.2.2.1) (s.2.2.2.2.1) (s.2.2.2.2.2.1) (s.2.2.2.2.2.2.1) (s.2.2.2.2.2.2.2.1) (s.2.2.2.2.2.2.2.2.2.2.2)
  | _ => T_Md_fewestFor_6 (s.2.1) (s.2.2.1) (s.2.2.2.1) (s.2.2.2.2.1) (s.2.2.2.2.2.1) (s.2.2.2.2.2.2.2.2.1) (s.2.2.2.2.2.2.2.2.2.1) (s.2.2.2.2.2.2.2.2.2.2.1) (s.2.2.2.2.2.2.2.2.2.2.2)
noncomputable def L_Md_fewestFor_0 (v0R : Nat) (v1I : Int32) (v2I : Int32) (v3I : Int32) (σ : AM) : Option (Int32 × AM) := lp F_Md_fewestFor (0, v0R, v1I, v2I, v3I, 0, 0, 0, 0, 0, 0, σ)
noncomputable def L_Md_fewestFor_1  (σ : AM) : Option (Int32 × AM) := lp F_Md_fewestFor (1, 0, 0, 0, 0, 0, 0, 0, 0, 0, 0, σ)
noncomputable def L_Md_fewestFor_2  (σ : AM) : Option (Int32 × AM) := lp F_Md_fewestFor (2, 0, 0, 0, 0, 0, 0, 0, 0, 0, 0, σ)
noncomputable def L_Md_fewestFor_3 (v0R : Nat) (v1I : Int32) (v2I : Int32) (v3I : Int32) (v4I : Int32) (σ : AM) : Option (Int32 × AM) := lp F_Md_fewestFor (3, v0R, v1I, v2I, v3I, v4I, 0, 0, 0, 0, 0, σ)
noncomputable def L_Md_fewestFor_4 (v0R : Nat) (v1I : Int32) (v2I : Int32) (v3I : Int32) (v4I : Int32) (v5J : Int64) (σ : AM) : Option (Int32 × AM) := lp F_Md_fewestFor (4, v0R, v1I, v2I, v3I, v4I, v5J, 0, 0, 0, 0, σ)
noncomputable def L_Md_fewestFor_5 (v0R : Nat) (v1I : Int32) (v2I : Int32) (v3I : Int32) (v4I : Int32) (v5J : Int64) (s0I : Int32) (σ : AM) : Option (Int32 × AM) := lp F_Md_fewestFor (5, v0R, v1I, v2I, v3I, v4I, v5J, s0I, 0, 0, 0, σ)
noncomputable def L_Md_fewestFor_6 (v0R : Nat) (v1I : Int32) (v2I : Int32) (v3I : Int32) (v4I : Int32) (s0R : Nat) (s1I : Int32) (s2I : Int32) (σ : AM) : Option (Int32 × AM) := lp F_Md_fewestFor (6, v0R, v1I, v2I, v3I, v4I, 0, 0, s0R, s1I, s2I, σ)
set_option maxRecDepth 20000 in
theorem E_Md_fewestFor_0 (v0R : Nat) (v1I : Int32) (v2I : Int32) (v3I : Int32) (σ : AM) : L_Md_fewestFor_0 v0R v1I v2I v3I σ = (gd (okO σ v0R 12) <| letT (sI σ v0R 0 (0 : Int32)) fun σ2 => bnd (M_Md_isWhat v3I σ2) fun r4 σ5 => if r4 = 0 then (L_Md_fewestFor_1 σ5) else (gd (okO σ5 v0R 12) <| bnd (M_Md_isQuestion v0R v1I v2I σ5) fun r6 σ7 => if r6 = 0 then (L_Md_fewestFor_1 σ7) else (gd (okO σ7 v0R 12) <| bnd (M_Md_findLeft v0R σ7) fun _ σ10 => gd (okO σ10 v0R 12) <| if (aI σ10 v0R 46) = 0 then (L_Md_fewestFor_2 σ10) else (if (12 : Int32) < (aI σ10 v0R 46) then (L_Md_fewestFor_2 σ10) else (L_Md_fewestFor_3 v0R v1I v2I v3I ((0 : Int32)) σ10))))) := by
  unfold L_Md_fewestFor_0
  rw [lp_eq]
  show lpK (lp F_Md_fewestFor) (T_Md_fewestFor_0 v0R v1I v2I v3I σ) = _
  unfold T_Md_fewestFor_0
  simp only [lpK_ite, lq_inl, lq_inr, lpK_bnd, lpK_gd, lq_let]
  try rfl
set_option maxRecDepth 20000 in
theorem E_Md_fewestFor_1  (σ : AM) : L_Md_fewestFor_1  σ = ((some (((-1) : Int32), σ))) := by
  unfold L_Md_fewestFor_1
  rw [lp_eq]
  show lpK (lp F_Md_fewestFor) (T_Md_fewestFor_1  σ) = _
  unfold T_Md_fewestFor_1
  simp only [lpK_ite, lq_inl, lq_inr, lpK_bnd, lpK_gd, lq_let]
  try rfl
set_option maxRecDepth 20000 in
theorem E_Md_fewestFor_2  (σ : AM) : L_Md_fewestFor_2  σ = ((some (((-1) : Int32), σ))) := by
  unfold L_Md_fewestFor_2
  rw [lp_eq]
  show lpK (lp F_Md_fewestFor) (T_Md_fewestFor_2  σ) = _
  unfold T_Md_fewestFor_2
  simp only [lpK_ite, lq_inl, lq_inr, lpK_bnd, lpK_gd, lq_let]
  try rfl
set_option maxRecDepth 20000 in
theorem E_Md_fewestFor_3 (v0R : Nat) (v1I : Int32) (v2I : Int32) (v3I : Int32) (v4I : Int32) (σ : AM) : L_Md_fewestFor_3 v0R v1I v2I v3I v4I σ = (gd (okO σ v0R 12) <| if v4I < (aI σ v0R 46) then (gd (okO σ (aR σ v0R 30) 102) <| gd (okO σ (aR σ v0R 45) 101) <| gd (inB v4I (aN σ (aR σ v0R 45))) <| gd (inB (aI σ (aR σ v0R 45) v4I.toNatClampNeg) (aN σ (aR σ v0R 30))) <| letT (aL σ (aR σ v0R 30) (aI σ (aR σ v0R 45) v4I.toNatClampNeg).toNatClampNeg) fun x6 => if v1I = (1 : Int32) then (bnd (M_Md_doesMatter v0R x6 v2I σ) fun r7 σ8 => L_Md_fewestFor_5 v0R v1I v2I v3I v4I x6 r7 σ8) else (if v1I = (2 : Int32) then (bnd (M_Md_areAlike v0R x6 (v2I / (6 : Int32)) (v2I - v2I / (6 : Int32) * (6 : Int32)) σ) fun r9 σ10 => L_Md_fewestFor_5 v0R v1I v2I v3I v4I x6 r9 σ10) else (if v1I = (3 : Int32) then (bnd (M_Md_doesRing x6 v2I σ) fun r11 σ12 => if r11 = 0 then (L_Md_fewestFor_4 v0R v1I v2I v3I v4I x6 σ12) else (L_Md_fewestFor_5 v0R v1I v2I v3I v4I x6 ((1 : Int32)) σ12)) else (L_Md_fewestFor_4 v0R v1I v2I v3I v4I x6 σ)))) else (bnd (M_Md_findFewest v0R v3I σ) fun r13 σ14 => (some (r13, σ14)))) := by
  unfold L_Md_fewestFor_3
  rw [lp_eq]
  show lpK (lp F_Md_fewestFor) (T_Md_fewestFor_3 v0R v1I v2I v3I v4I σ) = _
  unfold T_Md_fewestFor_3
  simp only [lpK_ite, lq_inl, lq_inr, lpK_bnd, lpK_gd, lq_let]
  try rfl
set_option maxRecDepth 20000 in
theorem E_Md_fewestFor_4 (v0R : Nat) (v1I : Int32) (v2I : Int32) (v3I : Int32) (v4I : Int32) (v5J : Int64) (σ : AM) : L_Md_fewestFor_4 v0R v1I v2I v3I v4I v5J σ = (L_Md_fewestFor_5 v0R v1I v2I v3I v4I v5J ((0 : Int32)) σ) := by
  unfold L_Md_fewestFor_4
  rw [lp_eq]
  show lpK (lp F_Md_fewestFor) (T_Md_fewestFor_4 v0R v1I v2I v3I v4I v5J σ) = _
  unfold T_Md_fewestFor_4
  simp only [lpK_ite, lq_inl, lq_inr, lpK_bnd, lpK_gd, lq_let]
  try rfl
set_option maxRecDepth 20000 in
theorem E_Md_fewestFor_5 (v0R : Nat) (v1I : Int32) (v2I : Int32) (v3I : Int32) (v4I : Int32) (v5J : Int64) (s0I : Int32) (σ : AM) : L_Md_fewestFor_5 v0R v1I v2I v3I v4I v5J s0I σ = (gd (okO σ v0R 12) <| gd (okO σ (aR σ v0R 57) 101) <| if v1I = 0 then (L_Md_fewestFor_6 v0R v1I v2I v3I v4I (aR σ v0R 57) v4I v4I σ) else (if v1I = (4 : Int32) then (bnd (M_Md_ringCount v0R v5J σ) fun r3 σ4 => L_Md_fewestFor_6 v0R v1I v2I v3I v4I (aR σ v0R 57) v4I r3 σ4) else (if s0I = 0 then (L_Md_fewestFor_6 v0R v1I v2I v3I v4I (aR σ v0R 57) v4I ((0 : Int32)) σ) else (L_Md_fewestFor_6 v0R v1I v2I v3I v4I (aR σ v0R 57) v4I ((1 : Int32)) σ)))) := by
  unfold L_Md_fewestFor_5
  rw [lp_eq]
  show lpK (lp F_Md_fewestFor) (T_Md_fewestFor_5 v0R v1I v2I v3I v4I v5J s0I σ) = _
  unfold T_Md_fewestFor_5
  simp only [lpK_ite, lq_inl, lq_inr, lpK_bnd, lpK_gd, lq_let]
  try rfl
set_option maxRecDepth 20000 in
theorem E_Md_fewestFor_6 (v0R : Nat) (v1I : Int32) (v2I : Int32) (v3I : Int32) (v4I : Int32) (s0R : Nat) (s1I : Int32) (s2I : Int32) (σ : AM) : L_Md_fewestFor_6 v0R v1I v2I v3I v4I s0R s1I s2I σ = (gd (okO σ s0R 101) <| gd (inB s1I (aN σ s0R)) <| letT (sI σ s0R s1I.toNatClampNeg s2I) fun σ3 => L_Md_fewestFor_3 v0R v1I v2I v3I (v4I + (1 : Int32)) σ3) := by
  unfold L_Md_fewestFor_6
  rw [lp_eq]
  show lpK (lp F_Md_fewestFor) (T_Md_fewestFor_6 v0R v1I v2I v3I v4I s0R s1I s2I σ) = _
  unfold T_Md_fewestFor_6
  simp only [lpK_ite, lq_inl, lq_inr, lpK_bnd, lpK_gd, lq_let]
  try rfl
noncomputable def M_Md_fewestFor (v0R : Nat) (v1I : Int32) (v2I : Int32) (v3I : Int32) (σ : AM) : Option (Int32 × AM) := mw σ (L_Md_fewestFor_0 v0R v1I v2I v3I σ)
def I_Md_fewestFor (G : GX) (p : Program) (l : Launch) (e : Env) (s : State) (m : MethodId) (args : Array Value) (below : List Frame) (meth : Method) (c : Code) (z0 u0 n : Nat) : Prop :=
  (∀ (v0R : Nat) (v1I : Int32) (v2I : Int32) (v3I : Int32) (σ : AM), VX (QM eI G args s below z0 u0) G p l e s m args below meth c 83 z0 u0 8 (lpn F_Md_fewestFor n (0, v0R, v1I, v2I, v3I, 0, 0, 0, 0, 0, 0, σ)) 0 [(0, .ref v0R), (1, .int v1I), (2, .int v2I), (3, .int v3I)] [] σ) ∧
  (∀ (σ : AM), VX (QM eI G args s below z0 u0) G p l e s m args below meth c 83 z0 u0 8 (lpn F_Md_fewestFor n (1, 0, 0, 0, 0, 0, 0, 0, 0, 0, 0, σ)) 21 [] [] σ) ∧
  (∀ (σ : AM), VX (QM eI G args s below z0 u0) G p l e s m args below meth c 83 z0 u0 8 (lpn F_Md_fewestFor n (2, 0, 0, 0, 0, 0, 0, 0, 0, 0, 0, σ)) 43 [] [] σ) ∧
  (∀ (v0R : Nat) (v1I : Int32) (v2I : Int32) (v3I : Int32) (v4I : Int32) (σ : AM), VX (QM eI G args s below z0 u0) G p l e s m args below meth c 83 z0 u0 8 (lpn F_Md_fewestFor n (3, v0R, v1I, v2I, v3I, v4I, 0, 0, 0, 0, 0, σ)) 48 [(0, .ref v0R), (1, .int v1I), (2, .int v2I), (3, .int v3I), (4, .int v4I)] [] σ) ∧
  (∀ (v0R : Nat) (v1I : Int32) (v2I : Int32) (v3I : Int32) (v4I : Int32) (v5J : Int64) (σ : AM), VX (QM eI G args s below z0 u0) G p l e s m args below meth c 83 z0 u0 8 (lpn F_Md_fewestFor n (4, v0R, v1I, v2I, v3I, v4I, v5J, 0, 0, 0, 0, σ)) 126 [(0, .ref v0R), (1, .int v1I), (2, .int v2I), (3, .int v3I), (4, .int v4I), (5, .long v5J)] [] σ) ∧
  (∀ (v0R : Nat) (v1I : Int32) (v2I : Int32) (v3I : Int32) (v4I : Int32) (v5J : Int64) (s0I : Int32) (σ : AM), VX (QM eI G args s below z0 u0) G p l e s m args below meth c 83 z0 u0 8 (lpn F_Md_fewestFor n (5, v0R, v1I, v2I, v3I, v4I, v5J, s0I, 0, 0, 0, σ)) 127 [(0, .ref v0R), (1, .int v1I), (2, .int v2I), (3, .int v3I), (4, .int v4I), (5, .long v5J)] [.int s0I] σ) ∧
  (∀ (v0R : Nat) (v1I : Int32) (v2I : Int32) (v3I : Int32) (v4I : Int32) (s0R : Nat) (s1I : Int32) (s2I : Int32) (σ : AM), VX (QM eI G args s below z0 u0) G p l e s m args below meth c 83 z0 u0 8 (lpn F_Md_fewestFor n (6, v0R, v1I, v2I, v3I, v4I, 0, 0, s0R, s1I, s2I, σ)) 168 [(0, .ref v0R), (1, .int v1I), (2, .int v2I), (3, .int v3I), (4, .int v4I)] [.int s2I, .int s1I, .ref s0R] σ)
set_option maxRecDepth 20000 in
theorem s_Md_fewestFor_0 {G : GX} {p : Program} {l : Launch} {e : Env} {s : State} {m : MethodId} {args : Array Value} {below : List Frame} {meth : Method} {c : Code} {z0 u0 n : Nat} (C : Cx G p s m args meth c prog_14_method_87_code 8 "BellPlateModel" ((some FieldType.int))) (IH : I_Md_fewestFor G p l e s m args below meth c z0 u0 n) (v0R : Nat) (v1I : Int32) (v2I : Int32) (v3I : Int32) (σ : AM) : VX (QM eI G args s below z0 u0) G p l e s m args below meth c 83 z0 u0 8 (lpK (lpn F_Md_fewestFor n) (T_Md_fewestFor_0 v0R v1I v2I v3I σ)) 0 [(0, .ref v0R), (1, .int v1I), (2, .int v2I), (3, .int v3I)] [] σ := by
  unfold T_Md_fewestFor_0
  refine x_aload_n C d_Md_fewestFor_0 0 rfl ?_
  refine x_iconst (v := (0 : Int32)) C d_Md_fewestFor_1 (by decide) ?_
  refine x_gd (fun h1 => ?_)
  refine x_putI (k := 0) C (okO_iff.mp h1) rfl j11_ok y11_ok n11_ok (by decide) rfl rfl rfl rfl w1852 d_Md_fewestFor_2 ?_
  refine x_letS (fun σ2 e3 => ?_)
  refine x_iload_n C d_Md_fewestFor_5 3 rfl ?_
  refine x_callSI (As := [.int v3I]) C (c_Md_isWhat G l v3I σ2) w2328 w2327 w2329 w134 k_Md_isWhat rfl (by decide) (by decide) rfl (Nat.le_of_ble_eq_true rfl) d_Md_fewestFor_6 (fun r4 σ5 => ?_)
  refine x_if_eq (tgt := 21) C d_Md_fewestFor_9 (by decide) (fun _ => ?_) (fun _ => ?_)
  · refine x_lv [] rfl ?_
    exact IH.2.1  (σ5)
  · refine x_aload_n C d_Md_fewestFor_12 0 rfl ?_
    refine x_iload_n C d_Md_fewestFor_13 1 rfl ?_
    refine x_iload_n C d_Md_fewestFor_14 2 rfl ?_
    refine x_gd (fun h8 => ?_)
    refine x_callVI (As := [.int v1I, .int v2I]) C (c_Md_isQuestion G l v0R v1I v2I σ5) (okO_iff.mp h8) rfl w2346 w103 w2344 w2347 w134 k_Md_isQuestion rfl (by decide) (by decide) rfl (Nat.le_of_ble_eq_true rfl) d_Md_fewestFor_15 (fun r6 σ7 => ?_)
    refine x_if_ne (tgt := 23) C d_Md_fewestFor_18 (by decide) (fun _ => ?_) (fun _ => ?_)
    · refine x_lv [] rfl ?_
      exact IH.2.1  (σ7)
    · refine x_aload_n C d_Md_fewestFor_23 0 rfl ?_
      refine x_gd (fun h11 => ?_)
      refine x_callVV (As := []) C (c_Md_findLeft G l v0R  σ7) (okO_iff.mp h11) rfl w2213 w85 w2211 w2214 w134 k_Md_findLeft rfl (by decide) (by decide) rfl (Nat.le_of_ble_eq_true rfl) d_Md_fewestFor_24 (fun r9 σ10 => ?_)
      refine x_aload_n C d_Md_fewestFor_27 0 rfl ?_
      refine x_gd (fun h12 => ?_)
      refine x_getI (k := 46) C (okO_iff.mp h12) rfl j11_ok (by decide) rfl w1898 d_Md_fewestFor_28 ?_
      refine x_if_eq (tgt := 43) C d_Md_fewestFor_31 (by decide) (fun _ => ?_) (fun _ => ?_)
      · refine x_lv [] rfl ?_
        exact IH.2.2.1  (σ10)
      · refine x_aload_n C d_Md_fewestFor_34 0 rfl ?_
        refine x_getI (k := 46) C (okO_iff.mp h12) rfl j11_ok (by decide) rfl w1898 d_Md_fewestFor_35 ?_
        refine x_bipush (v := (12 : Int32)) C d_Md_fewestFor_38 (by decide) ?_
        refine x_icmp_le (tgt := 45) C d_Md_fewestFor_40 (by decide) (fun _ => ?_) (fun _ => ?_)
        · refine x_lv [] rfl ?_
          exact IH.2.2.1  (σ10)
        · refine x_iconst (v := (0 : Int32)) C d_Md_fewestFor_45 (by decide) ?_
          refine x_istore (lv' := [(4, .int (0 : Int32)), (0, .ref v0R), (1, .int v1I), (2, .int v2I), (3, .int v3I)]) C d_Md_fewestFor_46 (by decide) rfl ?_
          refine x_lv [1, 2, 3, 4, 0] rfl ?_
          exact IH.2.2.2.1 v0R v1I v2I v3I ((0 : Int32)) (σ10)
set_option maxRecDepth 20000 in
theorem s_Md_fewestFor_1 {G : GX} {p : Program} {l : Launch} {e : Env} {s : State} {m : MethodId} {args : Array Value} {below : List Frame} {meth : Method} {c : Code} {z0 u0 n : Nat} (C : Cx G p s m args meth c prog_14_method_87_code 8 "BellPlateModel" ((some FieldType.int))) (IH : I_Md_fewestFor G p l e s m args below meth c z0 u0 n)  (σ : AM) : VX (QM eI G args s below z0 u0) G p l e s m args below meth c 83 z0 u0 8 (lpK (lpn F_Md_fewestFor n) (T_Md_fewestFor_1  σ)) 21 [] [] σ := by
  unfold T_Md_fewestFor_1
  refine x_iconst (v := ((-1) : Int32)) C d_Md_fewestFor_21 (by decide) ?_
  exact x_iret C d_Md_fewestFor_22
set_option maxRecDepth 20000 in
theorem s_Md_fewestFor_2 {G : GX} {p : Program} {l : Launch} {e : Env} {s : State} {m : MethodId} {args : Array Value} {below : List Frame} {meth : Method} {c : Code} {z0 u0 n : Nat} (C : Cx G p s m args meth c prog_14_method_87_code 8 "BellPlateModel" ((some FieldType.int))) (IH : I_Md_fewestFor G p l e s m args below meth c z0 u0 n)  (σ : AM) : VX (QM eI G args s below z0 u0) G p l e s m args below meth c 83 z0 u0 8 (lpK (lpn F_Md_fewestFor n) (T_Md_fewestFor_2  σ)) 43 [] [] σ := by
  unfold T_Md_fewestFor_2
  refine x_iconst (v := ((-1) : Int32)) C d_Md_fewestFor_43 (by decide) ?_
  exact x_iret C d_Md_fewestFor_44
set_option maxRecDepth 20000 in
theorem s_Md_fewestFor_3 {G : GX} {p : Program} {l : Launch} {e : Env} {s : State} {m : MethodId} {args : Array Value} {below : List Frame} {meth : Method} {c : Code} {z0 u0 n : Nat} (C : Cx G p s m args meth c prog_14_method_87_code 8 "BellPlateModel" ((some FieldType.int))) (IH : I_Md_fewestFor G p l e s m args below meth c z0 u0 n) (v0R : Nat) (v1I : Int32) (v2I : Int32) (v3I : Int32) (v4I : Int32) (σ : AM) : VX (QM eI G args s below z0 u0) G p l e s m args below meth c 83 z0 u0 8 (lpK (lpn F_Md_fewestFor n) (T_Md_fewestFor_3 v0R v1I v2I v3I v4I σ)) 48 [(0, .ref v0R), (1, .int v1I), (2, .int v2I), (3, .int v3I), (4, .int v4I)] [] σ := by
  unfold T_Md_fewestFor_3
  refine x_iload C d_Md_fewestFor_48 4 rfl ?_
  refine x_aload_n C d_Md_fewestFor_50 0 rfl ?_
  refine x_gd (fun h1 => ?_)
  refine x_getI (k := 46) C (okO_iff.mp h1) rfl j11_ok (by decide) rfl w1898 d_Md_fewestFor_51 ?_
  refine x_icmp_ge (tgt := 175) C d_Md_fewestFor_54 (by decide) (fun _ => ?_) (fun _ => ?_)
  · refine x_aload_n C d_Md_fewestFor_57 0 rfl ?_
    refine x_gd (fun h2 => ?_)
    refine x_getR (k := 30) (kv := 102) C (okO_iff.mp h1) rfl j11_ok (by decide) rfl (okO_iff.mp h2) (by decide) w1882 d_Md_fewestFor_58 ?_
    refine x_aload_n C d_Md_fewestFor_61 0 rfl ?_
    refine x_gd (fun h3 => ?_)
    refine x_getR (k := 45) (kv := 101) C (okO_iff.mp h1) rfl j11_ok (by decide) rfl (okO_iff.mp h3) (by decide) w1897 d_Md_fewestFor_62 ?_
    refine x_iload C d_Md_fewestFor_65 4 rfl ?_
    refine x_gd (fun h4 => ?_)
    refine x_aldI C (okO_iff.mp h3) (inB_iff.mp h4) d_Md_fewestFor_67 ?_
    refine x_gd (fun h5 => ?_)
    refine x_aldJ C (okO_iff.mp h2) (inB_iff.mp h5) d_Md_fewestFor_68 ?_
    refine x_letJ (fun x6 _ => ?_)
    refine x_lstore (lv' := [(5, .long x6), (0, .ref v0R), (1, .int v1I), (2, .int v2I), (3, .int v3I), (4, .int v4I)]) C d_Md_fewestFor_69 (by decide) rfl ?_
    refine x_iload_n C d_Md_fewestFor_71 2 rfl ?_
    refine x_iconst (v := (1 : Int32)) C d_Md_fewestFor_72 (by decide) ?_
    refine x_icmp_ne (tgt := 86) C d_Md_fewestFor_73 (by decide) (fun _ => ?_) (fun _ => ?_)
    · refine x_aload_n C d_Md_fewestFor_76 1 rfl ?_
      refine x_lload C d_Md_fewestFor_77 0 rfl ?_
      refine x_iload_n C d_Md_fewestFor_79 3 rfl ?_
      refine x_callVI (As := [.long x6, .int v2I]) C (c_Md_doesMatter G l v0R x6 v2I σ) (okO_iff.mp h1) rfl w2262 w93 w2260 w2263 w134 k_Md_doesMatter rfl (by decide) (by decide) rfl (Nat.le_of_ble_eq_true rfl) d_Md_fewestFor_80 (fun r7 σ8 => ?_)
      refine x_goto (tgt := 127) C d_Md_fewestFor_83 (by decide) ?_
      refine x_lv [1, 2, 3, 4, 5, 0] rfl ?_
      exact IH.2.2.2.2.2.1 v0R v1I v2I v3I v4I x6 r7 (σ8)
    · refine x_iload_n C d_Md_fewestFor_86 2 rfl ?_
      refine x_iconst (v := (2 : Int32)) C d_Md_fewestFor_87 (by decide) ?_
      refine x_icmp_ne (tgt := 108) C d_Md_fewestFor_88 (by decide) (fun _ => ?_) (fun _ => ?_)
      · refine x_aload_n C d_Md_fewestFor_91 1 rfl ?_
        refine x_lload C d_Md_fewestFor_92 0 rfl ?_
        refine x_iload_n C d_Md_fewestFor_94 3 rfl ?_
        refine x_bipush (v := (6 : Int32)) C d_Md_fewestFor_95 (by decide) ?_
        refine x_idiv C d_Md_fewestFor_97 (by decide) ?_
        refine x_iload_n C d_Md_fewestFor_98 3 rfl ?_
        refine x_bipush (v := (6 : Int32)) C d_Md_fewestFor_99 (by decide) ?_
        refine x_irem C d_Md_fewestFor_101 (by decide) ?_
        refine x_callVI (As := [.long x6, .int (v2I / (6 : Int32)), .int (v2I - v2I / (6 : Int32) * (6 : Int32))]) C (c_Md_areAlike G l v0R x6 (v2I / (6 : Int32)) (v2I - v2I / (6 : Int32) * (6 : Int32)) σ) (okO_iff.mp h1) rfl w2270 w94 w2268 w2271 w134 k_Md_areAlike rfl (by decide) (by decide) rfl (Nat.le_of_ble_eq_true rfl) d_Md_fewestFor_102 (fun r9 σ10 => ?_)
        refine x_goto (tgt := 127) C d_Md_fewestFor_105 (by decide) ?_
        refine x_lv [1, 2, 3, 4, 5, 0] rfl ?_
        exact IH.2.2.2.2.2.1 v0R v1I v2I v3I v4I x6 r9 (σ10)
      · refine x_iload_n C d_Md_fewestFor_108 2 rfl ?_
        refine x_iconst (v := (3 : Int32)) C d_Md_fewestFor_109 (by decide) ?_
        refine x_icmp_ne (tgt := 126) C d_Md_fewestFor_110 (by decide) (fun _ => ?_) (fun _ => ?_)
        · refine x_lload C d_Md_fewestFor_113 0 rfl ?_
          refine x_iload_n C d_Md_fewestFor_115 3 rfl ?_
          refine x_callSI (As := [.long x6, .int v2I]) C (c_Md_doesRing G l x6 v2I σ) w2235 w2234 w2236 w134 k_Md_doesRing rfl (by decide) (by decide) rfl (Nat.le_of_ble_eq_true rfl) d_Md_fewestFor_116 (fun r11 σ12 => ?_)
          refine x_if_eq (tgt := 126) C d_Md_fewestFor_119 (by decide) (fun _ => ?_) (fun _ => ?_)
          · refine x_lv [1, 2, 3, 4, 5, 0] rfl ?_
            exact IH.2.2.2.2.1 v0R v1I v2I v3I v4I x6 (σ12)
          · refine x_iconst (v := (1 : Int32)) C d_Md_fewestFor_122 (by decide) ?_
            refine x_goto (tgt := 127) C d_Md_fewestFor_123 (by decide) ?_
            refine x_lv [1, 2, 3, 4, 5, 0] rfl ?_
            exact IH.2.2.2.2.2.1 v0R v1I v2I v3I v4I x6 ((1 : Int32)) (σ12)
        · refine x_lv [1, 2, 3, 4, 5, 0] rfl ?_
          exact IH.2.2.2.2.1 v0R v1I v2I v3I v4I x6 (σ)
  · refine x_aload_n C d_Md_fewestFor_175 0 rfl ?_
    refine x_iload_n C d_Md_fewestFor_176 3 rfl ?_
    refine x_callVI (As := [.int v3I]) C (c_Md_findFewest G l v0R v3I σ) (okO_iff.mp h1) rfl w2354 w105 w2352 w2355 w134 k_Md_findFewest rfl (by decide) (by decide) rfl (Nat.le_of_ble_eq_true rfl) d_Md_fewestFor_177 (fun r13 σ14 => ?_)
    exact x_iret C d_Md_fewestFor_180
set_option maxRecDepth 20000 in
theorem s_Md_fewestFor_4 {G : GX} {p : Program} {l : Launch} {e : Env} {s : State} {m : MethodId} {args : Array Value} {below : List Frame} {meth : Method} {c : Code} {z0 u0 n : Nat} (C : Cx G p s m args meth c prog_14_method_87_code 8 "BellPlateModel" ((some FieldType.int))) (IH : I_Md_fewestFor G p l e s m args below meth c z0 u0 n) (v0R : Nat) (v1I : Int32) (v2I : Int32) (v3I : Int32) (v4I : Int32) (v5J : Int64) (σ : AM) : VX (QM eI G args s below z0 u0) G p l e s m args below meth c 83 z0 u0 8 (lpK (lpn F_Md_fewestFor n) (T_Md_fewestFor_4 v0R v1I v2I v3I v4I v5J σ)) 126 [(0, .ref v0R), (1, .int v1I), (2, .int v2I), (3, .int v3I), (4, .int v4I), (5, .long v5J)] [] σ := by
  unfold T_Md_fewestFor_4
  refine x_iconst (v := (0 : Int32)) C d_Md_fewestFor_126 (by decide) ?_
  exact IH.2.2.2.2.2.1 v0R v1I v2I v3I v4I v5J ((0 : Int32)) (σ)
set_option maxRecDepth 20000 in
theorem s_Md_fewestFor_5 {G : GX} {p : Program} {l : Launch} {e : Env} {s : State} {m : MethodId} {args : Array Value} {below : List Frame} {meth : Method} {c : Code} {z0 u0 n : Nat} (C : Cx G p s m args meth c prog_14_method_87_code 8 "BellPlateModel" ((some FieldType.int))) (IH : I_Md_fewestFor G p l e s m args below meth c z0 u0 n) (v0R : Nat) (v1I : Int32) (v2I : Int32) (v3I : Int32) (v4I : Int32) (v5J : Int64) (s0I : Int32) (σ : AM) : VX (QM eI G args s below z0 u0) G p l e s m args below meth c 83 z0 u0 8 (lpK (lpn F_Md_fewestFor n) (T_Md_fewestFor_5 v0R v1I v2I v3I v4I v5J s0I σ)) 127 [(0, .ref v0R), (1, .int v1I), (2, .int v2I), (3, .int v3I), (4, .int v4I), (5, .long v5J)] [.int s0I] σ := by
  unfold T_Md_fewestFor_5
  refine x_istore (lv' := [(7, .int s0I), (0, .ref v0R), (1, .int v1I), (2, .int v2I), (3, .int v3I), (4, .int v4I), (5, .long v5J)]) C d_Md_fewestFor_127 (by decide) rfl ?_
  refine x_aload_n C d_Md_fewestFor_129 1 rfl ?_
  refine x_gd (fun h1 => ?_)
  refine x_gd (fun h2 => ?_)
  refine x_getR (k := 57) (kv := 101) C (okO_iff.mp h1) rfl j11_ok (by decide) rfl (okO_iff.mp h2) (by decide) w1909 d_Md_fewestFor_130 ?_
  refine x_iload C d_Md_fewestFor_133 5 rfl ?_
  refine x_iload_n C d_Md_fewestFor_135 2 rfl ?_
  refine x_if_ne (tgt := 144) C d_Md_fewestFor_136 (by decide) (fun _ => ?_) (fun _ => ?_)
  · refine x_iload C d_Md_fewestFor_139 5 rfl ?_
    refine x_goto (tgt := 168) C d_Md_fewestFor_141 (by decide) ?_
    refine x_lv [1, 2, 3, 4, 5] rfl ?_
    exact IH.2.2.2.2.2.2 v0R v1I v2I v3I v4I (aR σ v0R 57) v4I v4I (σ)
  · refine x_iload_n C d_Md_fewestFor_144 2 rfl ?_
    refine x_iconst (v := (4 : Int32)) C d_Md_fewestFor_145 (by decide) ?_
    refine x_icmp_ne (tgt := 158) C d_Md_fewestFor_146 (by decide) (fun _ => ?_) (fun _ => ?_)
    · refine x_aload_n C d_Md_fewestFor_149 1 rfl ?_
      refine x_lload C d_Md_fewestFor_150 6 rfl ?_
      refine x_callVI (As := [.long v5J]) C (c_Md_ringCount G l v0R v5J σ) (okO_iff.mp h1) rfl w2350 w104 w2348 w2351 w134 k_Md_ringCount rfl (by decide) (by decide) rfl (Nat.le_of_ble_eq_true rfl) d_Md_fewestFor_152 (fun r3 σ4 => ?_)
      refine x_goto (tgt := 168) C d_Md_fewestFor_155 (by decide) ?_
      refine x_lv [1, 2, 3, 4, 5] rfl ?_
      exact IH.2.2.2.2.2.2 v0R v1I v2I v3I v4I (aR σ v0R 57) v4I r3 (σ4)
    · refine x_iload C d_Md_fewestFor_158 0 rfl ?_
      refine x_if_eq (tgt := 167) C d_Md_fewestFor_160 (by decide) (fun _ => ?_) (fun _ => ?_)
      · refine x_iconst (v := (0 : Int32)) C d_Md_fewestFor_167 (by decide) ?_
        refine x_lv [1, 2, 3, 4, 5] rfl ?_
        exact IH.2.2.2.2.2.2 v0R v1I v2I v3I v4I (aR σ v0R 57) v4I ((0 : Int32)) (σ)
      · refine x_iconst (v := (1 : Int32)) C d_Md_fewestFor_163 (by decide) ?_
        refine x_goto (tgt := 168) C d_Md_fewestFor_164 (by decide) ?_
        refine x_lv [1, 2, 3, 4, 5] rfl ?_
        exact IH.2.2.2.2.2.2 v0R v1I v2I v3I v4I (aR σ v0R 57) v4I ((1 : Int32)) (σ)
set_option maxRecDepth 20000 in
theorem s_Md_fewestFor_6 {G : GX} {p : Program} {l : Launch} {e : Env} {s : State} {m : MethodId} {args : Array Value} {below : List Frame} {meth : Method} {c : Code} {z0 u0 n : Nat} (C : Cx G p s m args meth c prog_14_method_87_code 8 "BellPlateModel" ((some FieldType.int))) (IH : I_Md_fewestFor G p l e s m args below meth c z0 u0 n) (v0R : Nat) (v1I : Int32) (v2I : Int32) (v3I : Int32) (v4I : Int32) (s0R : Nat) (s1I : Int32) (s2I : Int32) (σ : AM) : VX (QM eI G args s below z0 u0) G p l e s m args below meth c 83 z0 u0 8 (lpK (lpn F_Md_fewestFor n) (T_Md_fewestFor_6 v0R v1I v2I v3I v4I s0R s1I s2I σ)) 168 [(0, .ref v0R), (1, .int v1I), (2, .int v2I), (3, .int v3I), (4, .int v4I)] [.int s2I, .int s1I, .ref s0R] σ := by
  unfold T_Md_fewestFor_6
  refine x_gd (fun h1 => ?_)
  refine x_gd (fun h2 => ?_)
  refine x_astI C (okO_iff.mp h1) (inB_iff.mp h2) d_Md_fewestFor_168 ?_
  refine x_letS (fun σ3 e4 => ?_)
  refine x_iinc (v := v4I + (1 : Int32)) (lv' := [(4, .int (v4I + (1 : Int32))), (0, .ref v0R), (1, .int v1I), (2, .int v2I), (3, .int v3I)]) C d_Md_fewestFor_169 4 rfl rfl (by decide) rfl ?_
  refine x_goto (tgt := 48) C d_Md_fewestFor_172 (by decide) ?_
  refine x_lv [1, 2, 3, 4, 0] rfl ?_
  exact IH.2.2.2.1 v0R v1I v2I v3I (v4I + (1 : Int32)) (σ3)
theorem i_Md_fewestFor {G : GX} {p : Program} {l : Launch} {e : Env} {s : State} {m : MethodId} {args : Array Value} {below : List Frame} {meth : Method} {c : Code} {z0 u0 : Nat} (C : Cx G p s m args meth c prog_14_method_87_code 8 "BellPlateModel" ((some FieldType.int))) (n : Nat) : I_Md_fewestFor G p l e s m args below meth c z0 u0 n := by
  induction n with
  | zero => exact ⟨fun _ _ _ _ _ => x_none, fun _ => x_none, fun _ => x_none, fun _ _ _ _ _ _ => x_none, fun _ _ _ _ _ _ _ => x_none, fun _ _ _ _ _ _ _ _ => x_none, fun _ _ _ _ _ _ _ _ _ => x_none⟩
  | succ n IH => exact ⟨fun v0R v1I v2I v3I σ => s_Md_fewestFor_0 C IH v0R v1I v2I v3I σ, fun σ => s_Md_fewestFor_1 C IH σ, fun σ => s_Md_fewestFor_2 C IH σ, fun v0R v1I v2I v3I v4I σ => s_Md_fewestFor_3 C IH v0R v1I v2I v3I v4I σ, fun v0R v1I v2I v3I v4I v5J σ => s_Md_fewestFor_4 C IH v0R v1I v2I v3I v4I v5J σ, fun v0R v1I v2I v3I v4I v5J s0I σ => s_Md_fewestFor_5 C IH v0R v1I v2I v3I v4I v5J s0I σ, fun v0R v1I v2I v3I v4I s0R s1I s2I σ => s_Md_fewestFor_6 C IH v0R v1I v2I v3I v4I s0R s1I s2I σ⟩
theorem c_Md_fewestFor (G : GX) (l : Launch) (v0R : Nat) (v1I : Int32) (v2I : Int32) (v3I : Int32) (σ : AM) : CT eI G l 83 y_Md_fewestFor prog_14_method_87_code 8 ((some FieldType.int)) [.ref v0R, .int v1I, .int v2I, .int v3I] σ (M_Md_fewestFor v0R v1I v2I v3I σ) := by
  refine ct_of (by decide +kernel) (Nat.le_of_ble_eq_true rfl) (fun p e s m args below meth c C hin => ?_)
  refine x_lve (lv' := [(0, .ref v0R), (1, .int v1I), (2, .int v2I), (3, .int v3I)]) rfl ?_
  intro r σ' h
  obtain ⟨n, hn⟩ := (lp_iff _ _ _).mp h
  exact (i_Md_fewestFor C n).1 v0R v1I v2I v3I σ r σ' hn
/-! BellPlateModel.fewest(I)I -/
abbrev y_Md_fewest : MethodName := ⟨"BellPlateModel", "fewest", "(I)I"⟩
theorem k_Md_fewest : y_Md_fewest.cls ≠ "java/lang/invoke/MethodHandle" ∧ y_Md_fewest.cls ≠ "java/lang/invoke/VarHandle" ∧ (parseMethodDescriptor y_Md_fewest.desc).map (fun d => d.parameters.length) = some 1 := by decide +kernel
theorem d_Md_fewest_0 : decode prog_14_method_85_code 0 = .ok (.aload_n 0, 1) := by decide +kernel
theorem d_Md_fewest_1 : decode prog_14_method_85_code 1 = .ok (.iconst 0, 1) := by decide +kernel
theorem d_Md_fewest_2 : decode prog_14_method_85_code 2 = .ok (.iconst 0, 1) := by decide +kernel
theorem d_Md_fewest_3 : decode prog_14_method_85_code 3 = .ok (.iload_n 1, 1) := by decide +kernel
theorem d_Md_fewest_4 : decode prog_14_method_85_code 4 = .ok (.invokevirtual 466, 3) := by decide +kernel
theorem d_Md_fewest_7 : decode prog_14_method_85_code 7 = .ok (.ireturn, 1) := by decide +kernel
abbrev S_Md_fewest : Type := Nat × Nat × Int32 × AM
noncomputable def T_Md_fewest_0 (v0R : Nat) (v1I : Int32) (σ : AM) : S_Md_fewest ⊕ Option (Int32 × AM) :=
  gdT (okO σ v0R 12) <| bndT (M_Md_fewestFor v0R (0 : Int32) (0 : Int32) v1I σ) fun r1 σ2 => .inr (some (r1, σ2))
noncomputable def F_Md_fewest : S_Md_fewest → S_Md_fewest ⊕ Option (Int32 × AM) := fun s => match s.1 with
  | _ => T_Md_fewest_0 (s.2.1) (s.2.2.1) (s.2.2.2)
noncomputable def L_Md_fewest_0 (v0R : Nat) (v1I : Int32) (σ : AM) : Option (Int32 × AM) := lp F_Md_fewest (0, v0R, v1I, σ)
set_option maxRecDepth 20000 in
theorem E_Md_fewest_0 (v0R : Nat) (v1I : Int32) (σ : AM) : L_Md_fewest_0 v0R v1I σ = (gd (okO σ v0R 12) <| bnd (M_Md_fewestFor v0R (0 : Int32) (0 : Int32) v1I σ) fun r1 σ2 => (some (r1, σ2))) := by
  unfold L_Md_fewest_0
  rw [lp_eq]
  show lpK (lp F_Md_fewest) (T_Md_fewest_0 v0R v1I σ) = _
  unfold T_Md_fewest_0
  simp only [lpK_ite, lq_inl, lq_inr, lpK_bnd, lpK_gd, lq_let]
  try rfl
noncomputable def M_Md_fewest (v0R : Nat) (v1I : Int32) (σ : AM) : Option (Int32 × AM) := mw σ (L_Md_fewest_0 v0R v1I σ)
def I_Md_fewest (G : GX) (p : Program) (l : Launch) (e : Env) (s : State) (m : MethodId) (args : Array Value) (below : List Frame) (meth : Method) (c : Code) (z0 u0 n : Nat) : Prop :=
  (∀ (v0R : Nat) (v1I : Int32) (σ : AM), VX (QM eI G args s below z0 u0) G p l e s m args below meth c 84 z0 u0 2 (lpn F_Md_fewest n (0, v0R, v1I, σ)) 0 [(0, .ref v0R), (1, .int v1I)] [] σ)
set_option maxRecDepth 20000 in
theorem s_Md_fewest_0 {G : GX} {p : Program} {l : Launch} {e : Env} {s : State} {m : MethodId} {args : Array Value} {below : List Frame} {meth : Method} {c : Code} {z0 u0 n : Nat} (C : Cx G p s m args meth c prog_14_method_85_code 2 "BellPlateModel" ((some FieldType.int))) (IH : I_Md_fewest G p l e s m args below meth c z0 u0 n) (v0R : Nat) (v1I : Int32) (σ : AM) : VX (QM eI G args s below z0 u0) G p l e s m args below meth c 84 z0 u0 2 (lpK (lpn F_Md_fewest n) (T_Md_fewest_0 v0R v1I σ)) 0 [(0, .ref v0R), (1, .int v1I)] [] σ := by
  unfold T_Md_fewest_0
  refine x_aload_n C d_Md_fewest_0 0 rfl ?_
  refine x_iconst (v := (0 : Int32)) C d_Md_fewest_1 (by decide) ?_
  refine x_iconst (v := (0 : Int32)) C d_Md_fewest_2 (by decide) ?_
  refine x_iload_n C d_Md_fewest_3 1 rfl ?_
  refine x_gd (fun h3 => ?_)
  refine x_callVI (As := [.int (0 : Int32), .int (0 : Int32), .int v1I]) C (c_Md_fewestFor G l v0R (0 : Int32) (0 : Int32) v1I σ) (okO_iff.mp h3) rfl w2341 w2342 w2340 w2343 w134 k_Md_fewestFor rfl (by decide) (by decide) rfl (Nat.le_of_ble_eq_true rfl) d_Md_fewest_4 (fun r1 σ2 => ?_)
  exact x_iret C d_Md_fewest_7
theorem i_Md_fewest {G : GX} {p : Program} {l : Launch} {e : Env} {s : State} {m : MethodId} {args : Array Value} {below : List Frame} {meth : Method} {c : Code} {z0 u0 : Nat} (C : Cx G p s m args meth c prog_14_method_85_code 2 "BellPlateModel" ((some FieldType.int))) (n : Nat) : I_Md_fewest G p l e s m args below meth c z0 u0 n := by
  induction n with
  | zero => exact fun _ _ _ => x_none
  | succ n IH => exact fun v0R v1I σ => s_Md_fewest_0 C IH v0R v1I σ
theorem c_Md_fewest (G : GX) (l : Launch) (v0R : Nat) (v1I : Int32) (σ : AM) : CT eI G l 84 y_Md_fewest prog_14_method_85_code 2 ((some FieldType.int)) [.ref v0R, .int v1I] σ (M_Md_fewest v0R v1I σ) := by
  refine ct_of (by decide +kernel) (Nat.le_of_ble_eq_true rfl) (fun p e s m args below meth c C hin => ?_)
  refine x_lve (lv' := [(0, .ref v0R), (1, .int v1I)]) rfl ?_
  intro r σ' h
  obtain ⟨n, hn⟩ := (lp_iff _ _ _).mp h
  exact (i_Md_fewest C n) v0R v1I σ r σ' hn
/-! BellPlateModel.findSmallest(JJ)Z -/
abbrev y_Md_findSmallest : MethodName := ⟨"BellPlateModel", "findSmallest", "(JJ)Z"⟩
theorem k_Md_findSmallest : y_Md_findSmallest.cls ≠ "java/lang/invoke/MethodHandle" ∧ y_Md_findSmallest.cls ≠ "java/lang/invoke/VarHandle" ∧ (parseMethodDescriptor y_Md_findSmallest.desc).map (fun d => d.parameters.length) = some 2 := by decide +kernel
theorem d_Md_findSmallest_0 : decode prog_14_method_89_code 0 = .ok (.aload_n 0, 1) := by decide +kernel
theorem d_Md_findSmallest_1 : decode prog_14_method_89_code 1 = .ok (.iconst (-1), 1) := by decide +kernel
theorem d_Md_findSmallest_2 : decode prog_14_method_89_code 2 = .ok (.putfield 478, 3) := by decide +kernel
theorem d_Md_findSmallest_5 : decode prog_14_method_89_code 5 = .ok (.iconst 0, 1) := by decide +kernel
theorem d_Md_findSmallest_6 : decode prog_14_method_89_code 6 = .ok (.istore 5, 2) := by decide +kernel
theorem d_Md_findSmallest_8 : decode prog_14_method_89_code 8 = .ok (.iload 5, 2) := by decide +kernel
theorem d_Md_findSmallest_10 : decode prog_14_method_89_code 10 = .ok (.aload_n 0, 1) := by decide +kernel
theorem d_Md_findSmallest_11 : decode prog_14_method_89_code 11 = .ok (.getfield 313, 3) := by decide +kernel
theorem d_Md_findSmallest_14 : decode prog_14_method_89_code 14 = .ok (.if_icmp .ge 213, 3) := by decide +kernel
theorem d_Md_findSmallest_17 : decode prog_14_method_89_code 17 = .ok (.aload_n 0, 1) := by decide +kernel
theorem d_Md_findSmallest_18 : decode prog_14_method_89_code 18 = .ok (.iload 5, 2) := by decide +kernel
theorem d_Md_findSmallest_20 : decode prog_14_method_89_code 20 = .ok (.invokevirtual 319, 3) := by decide +kernel
theorem d_Md_findSmallest_23 : decode prog_14_method_89_code 23 = .ok (.iconst 0, 1) := by decide +kernel
theorem d_Md_findSmallest_24 : decode prog_14_method_89_code 24 = .ok (.istore 6, 2) := by decide +kernel
theorem d_Md_findSmallest_26 : decode prog_14_method_89_code 26 = .ok (.sipush 1000, 3) := by decide +kernel
theorem d_Md_findSmallest_29 : decode prog_14_method_89_code 29 = .ok (.istore 7, 2) := by decide +kernel
theorem d_Md_findSmallest_31 : decode prog_14_method_89_code 31 = .ok (.iconst 0, 1) := by decide +kernel
theorem d_Md_findSmallest_32 : decode prog_14_method_89_code 32 = .ok (.istore 8, 2) := by decide +kernel
theorem d_Md_findSmallest_34 : decode prog_14_method_89_code 34 = .ok (.iload 8, 2) := by decide +kernel
theorem d_Md_findSmallest_36 : decode prog_14_method_89_code 36 = .ok (.aload_n 0, 1) := by decide +kernel
theorem d_Md_findSmallest_37 : decode prog_14_method_89_code 37 = .ok (.invokevirtual 306, 3) := by decide +kernel
theorem d_Md_findSmallest_40 : decode prog_14_method_89_code 40 = .ok (.if_icmp .ge 79, 3) := by decide +kernel
theorem d_Md_findSmallest_43 : decode prog_14_method_89_code 43 = .ok (.lload_n 3, 1) := by decide +kernel
theorem d_Md_findSmallest_44 : decode prog_14_method_89_code 44 = .ok (.iload 8, 2) := by decide +kernel
theorem d_Md_findSmallest_46 : decode prog_14_method_89_code 46 = .ok (.invokestatic 357, 3) := by decide +kernel
theorem d_Md_findSmallest_49 : decode prog_14_method_89_code 49 = .ok (.ifCond .eq 25, 3) := by decide +kernel
theorem d_Md_findSmallest_52 : decode prog_14_method_89_code 52 = .ok (.aload_n 0, 1) := by decide +kernel
theorem d_Md_findSmallest_53 : decode prog_14_method_89_code 53 = .ok (.getfield 98, 3) := by decide +kernel
theorem d_Md_findSmallest_56 : decode prog_14_method_89_code 56 = .ok (.iload 8, 2) := by decide +kernel
theorem d_Md_findSmallest_58 : decode prog_14_method_89_code 58 = .ok (.iaload, 1) := by decide +kernel
theorem d_Md_findSmallest_59 : decode prog_14_method_89_code 59 = .ok (.iload 6, 2) := by decide +kernel
theorem d_Md_findSmallest_61 : decode prog_14_method_89_code 61 = .ok (.if_icmp .le 13, 3) := by decide +kernel
theorem d_Md_findSmallest_64 : decode prog_14_method_89_code 64 = .ok (.aload_n 0, 1) := by decide +kernel
theorem d_Md_findSmallest_65 : decode prog_14_method_89_code 65 = .ok (.getfield 98, 3) := by decide +kernel
theorem d_Md_findSmallest_68 : decode prog_14_method_89_code 68 = .ok (.iload 8, 2) := by decide +kernel
theorem d_Md_findSmallest_70 : decode prog_14_method_89_code 70 = .ok (.iaload, 1) := by decide +kernel
theorem d_Md_findSmallest_71 : decode prog_14_method_89_code 71 = .ok (.goto 5, 3) := by decide +kernel
theorem d_Md_findSmallest_74 : decode prog_14_method_89_code 74 = .ok (.iload 6, 2) := by decide +kernel
theorem d_Md_findSmallest_76 : decode prog_14_method_89_code 76 = .ok (.istore 6, 2) := by decide +kernel
theorem d_Md_findSmallest_78 : decode prog_14_method_89_code 78 = .ok (.lload_n 1, 1) := by decide +kernel
theorem d_Md_findSmallest_79 : decode prog_14_method_89_code 79 = .ok (.iload 8, 2) := by decide +kernel
theorem d_Md_findSmallest_81 : decode prog_14_method_89_code 81 = .ok (.invokestatic 357, 3) := by decide +kernel
theorem d_Md_findSmallest_84 : decode prog_14_method_89_code 84 = .ok (.ifCond .eq 25, 3) := by decide +kernel
theorem d_Md_findSmallest_87 : decode prog_14_method_89_code 87 = .ok (.aload_n 0, 1) := by decide +kernel
theorem d_Md_findSmallest_88 : decode prog_14_method_89_code 88 = .ok (.getfield 98, 3) := by decide +kernel
theorem d_Md_findSmallest_91 : decode prog_14_method_89_code 91 = .ok (.iload 8, 2) := by decide +kernel
theorem d_Md_findSmallest_93 : decode prog_14_method_89_code 93 = .ok (.iaload, 1) := by decide +kernel
theorem d_Md_findSmallest_94 : decode prog_14_method_89_code 94 = .ok (.iload 7, 2) := by decide +kernel
theorem d_Md_findSmallest_96 : decode prog_14_method_89_code 96 = .ok (.if_icmp .ge 13, 3) := by decide +kernel
theorem d_Md_findSmallest_99 : decode prog_14_method_89_code 99 = .ok (.aload_n 0, 1) := by decide +kernel
theorem d_Md_findSmallest_100 : decode prog_14_method_89_code 100 = .ok (.getfield 98, 3) := by decide +kernel
theorem d_Md_findSmallest_103 : decode prog_14_method_89_code 103 = .ok (.iload 8, 2) := by decide +kernel
theorem d_Md_findSmallest_105 : decode prog_14_method_89_code 105 = .ok (.iaload, 1) := by decide +kernel
theorem d_Md_findSmallest_106 : decode prog_14_method_89_code 106 = .ok (.goto 5, 3) := by decide +kernel
theorem d_Md_findSmallest_109 : decode prog_14_method_89_code 109 = .ok (.iload 7, 2) := by decide +kernel
theorem d_Md_findSmallest_111 : decode prog_14_method_89_code 111 = .ok (.istore 7, 2) := by decide +kernel
theorem d_Md_findSmallest_113 : decode prog_14_method_89_code 113 = .ok (.iinc 8 1, 3) := by decide +kernel
theorem d_Md_findSmallest_116 : decode prog_14_method_89_code 116 = .ok (.goto (-82), 3) := by decide +kernel
theorem d_Md_findSmallest_119 : decode prog_14_method_89_code 119 = .ok (.aload_n 0, 1) := by decide +kernel
theorem d_Md_findSmallest_120 : decode prog_14_method_89_code 120 = .ok (.getfield 98, 3) := by decide +kernel
theorem d_Md_findSmallest_123 : decode prog_14_method_89_code 123 = .ok (.aload_n 0, 1) := by decide +kernel
theorem d_Md_findSmallest_124 : decode prog_14_method_89_code 124 = .ok (.invokevirtual 306, 3) := by decide +kernel
theorem d_Md_findSmallest_127 : decode prog_14_method_89_code 127 = .ok (.iconst 1, 1) := by decide +kernel
theorem d_Md_findSmallest_128 : decode prog_14_method_89_code 128 = .ok (.isub, 1) := by decide +kernel
theorem d_Md_findSmallest_129 : decode prog_14_method_89_code 129 = .ok (.iaload, 1) := by decide +kernel
theorem d_Md_findSmallest_130 : decode prog_14_method_89_code 130 = .ok (.istore 8, 2) := by decide +kernel
theorem d_Md_findSmallest_132 : decode prog_14_method_89_code 132 = .ok (.iload 6, 2) := by decide +kernel
theorem d_Md_findSmallest_134 : decode prog_14_method_89_code 134 = .ok (.iconst 1, 1) := by decide +kernel
theorem d_Md_findSmallest_135 : decode prog_14_method_89_code 135 = .ok (.iadd, 1) := by decide +kernel
theorem d_Md_findSmallest_136 : decode prog_14_method_89_code 136 = .ok (.iload 7, 2) := by decide +kernel
theorem d_Md_findSmallest_138 : decode prog_14_method_89_code 138 = .ok (.if_icmp .gt 7, 3) := by decide +kernel
theorem d_Md_findSmallest_141 : decode prog_14_method_89_code 141 = .ok (.iconst 1, 1) := by decide +kernel
theorem d_Md_findSmallest_142 : decode prog_14_method_89_code 142 = .ok (.goto 4, 3) := by decide +kernel
theorem d_Md_findSmallest_145 : decode prog_14_method_89_code 145 = .ok (.iconst 0, 1) := by decide +kernel
theorem d_Md_findSmallest_146 : decode prog_14_method_89_code 146 = .ok (.istore 9, 2) := by decide +kernel
theorem d_Md_findSmallest_148 : decode prog_14_method_89_code 148 = .ok (.aload_n 0, 1) := by decide +kernel
theorem d_Md_findSmallest_149 : decode prog_14_method_89_code 149 = .ok (.getfield 478, 3) := by decide +kernel
theorem d_Md_findSmallest_152 : decode prog_14_method_89_code 152 = .ok (.ifCond .lt 32, 3) := by decide +kernel
theorem d_Md_findSmallest_155 : decode prog_14_method_89_code 155 = .ok (.iload 8, 2) := by decide +kernel
theorem d_Md_findSmallest_157 : decode prog_14_method_89_code 157 = .ok (.aload_n 0, 1) := by decide +kernel
theorem d_Md_findSmallest_158 : decode prog_14_method_89_code 158 = .ok (.getfield 481, 3) := by decide +kernel
theorem d_Md_findSmallest_161 : decode prog_14_method_89_code 161 = .ok (.if_icmp .lt 23, 3) := by decide +kernel
theorem d_Md_findSmallest_164 : decode prog_14_method_89_code 164 = .ok (.iload 8, 2) := by decide +kernel
theorem d_Md_findSmallest_166 : decode prog_14_method_89_code 166 = .ok (.aload_n 0, 1) := by decide +kernel
theorem d_Md_findSmallest_167 : decode prog_14_method_89_code 167 = .ok (.getfield 481, 3) := by decide +kernel
theorem d_Md_findSmallest_170 : decode prog_14_method_89_code 170 = .ok (.if_icmp .ne 18, 3) := by decide +kernel
theorem d_Md_findSmallest_173 : decode prog_14_method_89_code 173 = .ok (.iload 6, 2) := by decide +kernel
theorem d_Md_findSmallest_175 : decode prog_14_method_89_code 175 = .ok (.iconst 1, 1) := by decide +kernel
theorem d_Md_findSmallest_176 : decode prog_14_method_89_code 176 = .ok (.iadd, 1) := by decide +kernel
theorem d_Md_findSmallest_177 : decode prog_14_method_89_code 177 = .ok (.aload_n 0, 1) := by decide +kernel
theorem d_Md_findSmallest_178 : decode prog_14_method_89_code 178 = .ok (.getfield 484, 3) := by decide +kernel
theorem d_Md_findSmallest_181 : decode prog_14_method_89_code 181 = .ok (.if_icmp .ge 7, 3) := by decide +kernel
theorem d_Md_findSmallest_184 : decode prog_14_method_89_code 184 = .ok (.iconst 1, 1) := by decide +kernel
theorem d_Md_findSmallest_185 : decode prog_14_method_89_code 185 = .ok (.goto 4, 3) := by decide +kernel
theorem d_Md_findSmallest_188 : decode prog_14_method_89_code 188 = .ok (.iconst 0, 1) := by decide +kernel
theorem d_Md_findSmallest_189 : decode prog_14_method_89_code 189 = .ok (.istore 10, 2) := by decide +kernel
theorem d_Md_findSmallest_191 : decode prog_14_method_89_code 191 = .ok (.iload 9, 2) := by decide +kernel
theorem d_Md_findSmallest_193 : decode prog_14_method_89_code 193 = .ok (.ifCond .eq 28, 3) := by decide +kernel
theorem d_Md_findSmallest_196 : decode prog_14_method_89_code 196 = .ok (.iload 10, 2) := by decide +kernel
theorem d_Md_findSmallest_198 : decode prog_14_method_89_code 198 = .ok (.ifCond .eq 23, 3) := by decide +kernel
theorem d_Md_findSmallest_201 : decode prog_14_method_89_code 201 = .ok (.aload_n 0, 1) := by decide +kernel
theorem d_Md_findSmallest_202 : decode prog_14_method_89_code 202 = .ok (.iload 5, 2) := by decide +kernel
theorem d_Md_findSmallest_204 : decode prog_14_method_89_code 204 = .ok (.putfield 478, 3) := by decide +kernel
theorem d_Md_findSmallest_207 : decode prog_14_method_89_code 207 = .ok (.aload_n 0, 1) := by decide +kernel
theorem d_Md_findSmallest_208 : decode prog_14_method_89_code 208 = .ok (.iload 6, 2) := by decide +kernel
theorem d_Md_findSmallest_210 : decode prog_14_method_89_code 210 = .ok (.iconst 1, 1) := by decide +kernel
theorem d_Md_findSmallest_211 : decode prog_14_method_89_code 211 = .ok (.iadd, 1) := by decide +kernel
theorem d_Md_findSmallest_212 : decode prog_14_method_89_code 212 = .ok (.putfield 484, 3) := by decide +kernel
theorem d_Md_findSmallest_215 : decode prog_14_method_89_code 215 = .ok (.aload_n 0, 1) := by decide +kernel
theorem d_Md_findSmallest_216 : decode prog_14_method_89_code 216 = .ok (.iload 8, 2) := by decide +kernel
theorem d_Md_findSmallest_218 : decode prog_14_method_89_code 218 = .ok (.putfield 481, 3) := by decide +kernel
theorem d_Md_findSmallest_221 : decode prog_14_method_89_code 221 = .ok (.iinc 5 1, 3) := by decide +kernel
theorem d_Md_findSmallest_224 : decode prog_14_method_89_code 224 = .ok (.goto (-216), 3) := by decide +kernel
theorem d_Md_findSmallest_227 : decode prog_14_method_89_code 227 = .ok (.aload_n 0, 1) := by decide +kernel
theorem d_Md_findSmallest_228 : decode prog_14_method_89_code 228 = .ok (.getfield 478, 3) := by decide +kernel
theorem d_Md_findSmallest_231 : decode prog_14_method_89_code 231 = .ok (.ifCond .lt 7, 3) := by decide +kernel
theorem d_Md_findSmallest_234 : decode prog_14_method_89_code 234 = .ok (.iconst 1, 1) := by decide +kernel
theorem d_Md_findSmallest_235 : decode prog_14_method_89_code 235 = .ok (.goto 4, 3) := by decide +kernel
theorem d_Md_findSmallest_238 : decode prog_14_method_89_code 238 = .ok (.iconst 0, 1) := by decide +kernel
theorem d_Md_findSmallest_239 : decode prog_14_method_89_code 239 = .ok (.ireturn, 1) := by decide +kernel
abbrev S_Md_findSmallest : Type := Nat × Nat × Int64 × Int64 × Int32 × Int32 × Int32 × Int32 × Int32 × Int32 × AM
noncomputable def T_Md_findSmallest_0 (v0R : Nat) (v1J : Int64) (v3J : Int64) (σ : AM) : S_Md_findSmallest ⊕ Option (Int32 × AM) :=
  gdT (okO σ v0R 12) <| letT (sI σ v0R 60 ((-1) : Int32)) fun σ2 => .inl (1, v0R, v1J, v3J, (0 : Int32), 0, 0, 0, 0, 0, σ2)
noncomputable def T_Md_findSmallest_1 (v0R : Nat) (v1J : Int64) (v3J : Int64) (v5I : Int32) (σ : AM) : S_Md_findSmallest ⊕ Option (Int32 × AM) :=
  gdT (okO σ v0R 12) <| if v5I < (aI σ v0R 26) then (bndT (M_Md_unpacks v0R v5I σ) fun _ σ3 => .inl (2, v0R, v1J, v3J, v5I, (0 : Int32), (1000 : Int32), (0 : Int32), 0, 0, σ3)) else (if (aI σ v0R 60) < 0 then (.inl (12, 0, 0, 0, 0, 0, 0, 0, 0, (0 : Int32), σ)) else (.inl (12, 0, 0, 0, 0, 0, 0, 0, 0, (1 : Int32), σ)))
noncomputable def T_Md_findSmallest_2 (v0R : Nat) (v1J : Int64) (v3J : Int64) (v5I : Int32) (v6I : Int32) (v7I : Int32) (v8I : Int32) (σ : AM) : S_Md_findSmallest ⊕ Option (Int32 × AM) :=
  gdT (okO σ v0R 12) <| bndT (M_Md_sets v0R σ) fun r1 σ2 => if v8I < r1 then (bndT (M_Md_doesRing v3J v8I σ2) fun r4 σ5 => if r4 = 0 then (.inl (3, v0R, v1J, v3J, v5I, v6I, v7I, v8I, 0, 0, σ5)) else (gdT (okO σ5 v0R 12) <| gdT (okO σ5 (aR σ5 v0R 35) 101) <| gdT (inB v8I (aN σ5 (aR σ5 v0R 35))) <| if v6I < (aI σ5 (aR σ5 v0R 35) v8I.toNatClampNeg) then (.inl (4, v0R, v1J, v3J, v5I, 0, v7I, v8I, 0, aI σ5 (aR σ5 v0R 35) v8I.toNatClampNeg, σ5)) else (.inl (3, v0R, v1J, v3J, v5I, v6I, v7I, v8I, 0, 0, σ5)))) else (gdT (okO σ2 v0R 12) <| gdT (okO σ2 (aR σ2 v0R 35) 101) <| bndT (M_Md_sets v0R σ2) fun r11 σ12 => gdT (okO σ12 (aR σ2 v0R 35) 101) <| gdT (inB (r11 - (1 : Int32)) (aN σ12 (aR σ2 v0R 35))) <| letT (aI σ12 (aR σ2 v0R 35) (r11 - (1 : Int32)).toNatClampNeg) fun x15 => if v7I < (v6I + (1 : Int32)) then (.inl (7, v0R, v1J, v3J, v5I, v6I, 0, x15, 0, (0 : Int32), σ12)) else (.inl (7, v0R, v1J, v3J, v5I, v6I, 0, x15, 0, (1 : Int32), σ12)))
noncomputable def T_Md_findSmallest_3 (v0R : Nat) (v1J : Int64) (v3J : Int64) (v5I : Int32) (v6I : Int32) (v7I : Int32) (v8I : Int32) (σ : AM) : S_Md_findSmallest ⊕ Option (Int32 × AM) :=
  .inl (4, v0R, v1J, v3J, v5I, 0, v7I, v8I, 0, v6I, σ)
noncomputable def T_Md_findSmallest_4 (v0R : Nat) (v1J : Int64) (v3J : Int64) (v5I : Int32) (v7I : Int32) (v8I : Int32) (s0I : Int32) (σ : AM) : S_Md_findSmallest ⊕ Option (Int32 × AM) :=
  bndT (M_Md_doesRing v1J v8I σ) fun r1 σ2 => if r1 = 0 then (.inl (5, v0R, v1J, v3J, v5I, s0I, v7I, v8I, 0, 0, σ2)) else (gdT (okO σ2 v0R 12) <| gdT (okO σ2 (aR σ2 v0R 35) 101) <| gdT (inB v8I (aN σ2 (aR σ2 v0R 35))) <| if (aI σ2 (aR σ2 v0R 35) v8I.toNatClampNeg) < v7I then (.inl (6, v0R, v1J, v3J, v5I, s0I, 0, v8I, 0, aI σ2 (aR σ2 v0R 35) v8I.toNatClampNeg, σ2)) else (.inl (5, v0R, v1J, v3J, v5I, s0I, v7I, v8I, 0, 0, σ2)))
noncomputable def T_Md_findSmallest_5 (v0R : Nat) (v1J : Int64) (v3J : Int64) (v5I : Int32) (v6I : Int32) (v7I : Int32) (v8I : Int32) (σ : AM) : S_Md_findSmallest ⊕ Option (Int32 × AM) :=
  .inl (6, v0R, v1J, v3J, v5I, v6I, 0, v8I, 0, v7I, σ)
noncomputable def T_Md_findSmallest_6 (v0R : Nat) (v1J : Int64) (v3J : Int64) (v5I : Int32) (v6I : Int32) (v8I : Int32) (s0I : Int32) (σ : AM) : S_Md_findSmallest ⊕ Option (Int32 × AM) :=
  .inl (2, v0R, v1J, v3J, v5I, v6I, s0I, v8I + (1 : Int32), 0, 0, σ)
noncomputable def T_Md_findSmallest_7 (v0R : Nat) (v1J : Int64) (v3J : Int64) (v5I : Int32) (v6I : Int32) (v8I : Int32) (s0I : Int32) (σ : AM) : S_Md_findSmallest ⊕ Option (Int32 × AM) :=
  gdT (okO σ v0R 12) <| if (aI σ v0R 60) < 0 then (.inl (8, v0R, v1J, v3J, v5I, v6I, 0, v8I, s0I, 0, σ)) else (if v8I < (aI σ v0R 62) then (.inl (8, v0R, v1J, v3J, v5I, v6I, 0, v8I, s0I, 0, σ)) else (if v8I = (aI σ v0R 62) then (if (v6I + (1 : Int32)) < (aI σ v0R 61) then (.inl (8, v0R, v1J, v3J, v5I, v6I, 0, v8I, s0I, 0, σ)) else (.inl (9, v0R, v1J, v3J, v5I, v6I, 0, v8I, s0I, 0, σ))) else (.inl (9, v0R, v1J, v3J, v5I, v6I, 0, v8I, s0I, 0, σ))))
noncomputable def T_Md_findSmallest_8 (v0R : Nat) (v1J : Int64) (v3J : Int64) (v5I : Int32) (v6I : Int32) (v8I : Int32) (v9I : Int32) (σ : AM) : S_Md_findSmallest ⊕ Option (Int32 × AM) :=
  .inl (10, v0R, v1J, v3J, v5I, v6I, 0, v8I, v9I, (1 : Int32), σ)
noncomputable def T_Md_findSmallest_9 (v0R : Nat) (v1J : Int64) (v3J : Int64) (v5I : Int32) (v6I : Int32) (v8I : Int32) (v9I : Int32) (σ : AM) : S_Md_findSmallest ⊕ Option (Int32 × AM) :=
  .inl (10, v0R, v1J, v3J, v5I, v6I, 0, v8I, v9I, (0 : Int32), σ)
noncomputable def T_Md_findSmallest_10 (v0R : Nat) (v1J : Int64) (v3J : Int64) (v5I : Int32) (v6I : Int32) (v8I : Int32) (v9I : Int32) (s0I : Int32) (σ : AM) : S_Md_findSmallest ⊕ Option (Int32 × AM) :=
  if v9I = 0 then (.inl (11, v0R, v1J, v3J, v5I, 0, 0, 0, 0, 0, σ)) else (if s0I = 0 then (.inl (11, v0R, v1J, v3J, v5I, 0, 0, 0, 0, 0, σ)) else (gdT (okO σ v0R 12) <| letT (sI σ v0R 60 v5I) fun σ2 => letT (sI σ2 v0R 61 (v6I + (1 : Int32))) fun σ4 => letT (sI σ4 v0R 62 v8I) fun σ6 => .inl (11, v0R, v1J, v3J, v5I, 0, 0, 0, 0, 0, σ6)))
noncomputable def T_Md_findSmallest_11 (v0R : Nat) (v1J : Int64) (v3J : Int64) (v5I : Int32) (σ : AM) : S_Md_findSmallest ⊕ Option (Int32 × AM) :=
  .inl (1, v0R, v1J, v3J, v5I + (1 : Int32), 0, 0, 0, 0, 0, σ)
noncomputable def T_Md_findSmallest_12 (s0I : Int32) (σ : AM) : S_Md_findSmallest ⊕ Option (Int32 × AM) :=
  gdT (isB s0I) <| .inr (some (s0I, σ))
noncomputable def F_Md_findSmallest : S_Md_findSmallest → S_Md_findSmallest ⊕ Option (Int32 × AM) := fun s => match s.1 with
  | 0 => T_Md_findSmallest_0 (s.2.1) (s.2.2.1) (s.2.2.2.1) (s.2.2.2.2.2.2.2.2.2.2)
  | 1 => T_Md_findSmallest_1 (s.2.1) (s.2.2.1) (s.2.2.2.1) (s.2.2.2.2.1) (s.2.2.2.2.2.2.2.2.2.2)
  | 2 => T_Md_findSmallest_2 (s.2.1) (s.2.2.1) (s.2.2.2.1) (s.2.2.2.2.1) (s.2.2.2.2.2.1) (s.2.2.2.2.2.2.1) (s.2.2.2.2.2.2.2.1) (s.2.2.2.2.2.2.2.2.2.2)
  | 3 => T_Md_findSmallest_3 (s.2.1) (s.2.2.1) (s.2.2.2.1) (s.2.2.2.2.1) (s.2.2.2.2.2.1) (s.2.2.2.2.2.2.1) (s.2.2.2.2.2.2.2.1) (s.2.2.2.2.2.2.2.2.2.2)
  | 4 => T_Md_findSmallest_4 (s.2.1) (s.2.2.1) (s.2.2.2.1) (s.2.2.2.2.1) (s.2.2.2.2.2.2.1) (s.2.2.2.2.2.2.2.1) (s.2.2.2.2.2.2.2.2.2.1) (s.2.2.2.2.2.2.2.2.2.2)
  | 5 => T_Md_findSmallest_5 (s.2.1) (s.2.2.1) (s.2.2.2.1) (s.2.2.2.2.1) (s.2.2.2.2.2.1) (s.2.2.2.2.2.2.1) (s.2.2.2.2.2.2.2.1) (s.2.2.2.2.2.2.2.2.2.2)
  | 6 => T_Md_findSmallest_6 (s.2.1) (s.2.2.1) (s.2.2.2.1) (s.2.2.2.2.1) (s.2.2.2.2.2.1) (s.2.2.2.2.2.2.2.1) (s.2.2.2.2.2.2.2.2.2.1) (s.2.2.2.2.2.2.2.2.2.2)
  | 7 => T_Md_findSmallest_7 (s.2.1) (s.2.2.1) (s.2.2.2.1) (s.2.2.2.2.1) (s.2.2.2.2.2.1) (s.2.2.2.2.2.2.2.1) (s.2.2.2.2.2.2.2.2.2.1) (s.2.2.2.2.2.2.2.2.2.2)
  | 8 => T_Md_findSmallest_8 (s.2.1) (s.2.2.1) (s.2.2.2.1) (s.2.2.2.2.1) (s.2.2.2.2.2.1) (s.2.2.2.2.2.2.2.1) (s.2.2.2.2.2.2.2.2.1) (s.2.2.2.2.2.2.2.2.2.2)
  | 9 => T_Md_findSmallest_9 (s.2.1) (s.2.2.1) (s.2.2.2.1) (s.2.2.2.2.1) (s.2.2.2.2.2.1) (s.2.2.2.2.2.2.2.1) (s.2.2.2.2.2.2.2.2.1) (s.2.2.2.2.2.2.2.2.2.2)
  | 10 => T_Md_findSmallest_10 (s.2.1) (s.2.2.1) (s.2.2.2.1) (s.2.2.2.2.1) (s.2.2.2.2.2.1) (s.2.2.2.2.2.2.2.1) (s.2.2.2.2.2.2.2.2.1) (s.2.2.2.2.2.2.2.2.2.1) (s.2.2.2.2.2.2.2.2.2.2)
  | 11 => T_Md_findSmallest_11 (s.2.1) (s.2.2.1) (s.2.2.2.1) (s.2.2.2.2.1) (s.2.2.2.2.2.2.2.2.2.2)
  | _ => T_Md_findSmallest_12 (s.2.2.2.2.2.2.2.2.2.1) (s.2.2.2.2.2.2.2.2.2.2)
noncomputable def L_Md_findSmallest_0 (v0R : Nat) (v1J : Int64) (v3J : Int64) (σ : AM) : Option (Int32 × AM) := lp F_Md_findSmallest (0, v0R, v1J, v3J, 0, 0, 0, 0, 0, 0, σ)
noncomputable def L_Md_findSmallest_1 (v0R : Nat) (v1J : Int64) (v3J : Int64) (v5I : Int32) (σ : AM) : Option (Int32 × AM) := lp F_Md_findSmallest (1, v0R, v1J, v3J, v5I, 0, 0, 0, 0, 0, σ)
noncomputable def L_Md_findSmallest_2 (v0R : Nat) (v1J : Int64) (v3J : Int64) (v5I : Int32) (v6I : Int32) (v7I : Int32) (v8I : Int32) (σ : AM) : Option (Int32 × AM) := lp F_Md_findSmallest (2, v0R, v1J, v3J, v5I, v6I, v7I, v8I, 0, 0, σ)
noncomputable def L_Md_findSmallest_3 (v0R : Nat) (v1J : Int64) (v3J : Int64) (v5I : Int32) (v6I : Int32) (v7I : Int32) (v8I : Int32) (σ : AM) : Option (Int32 × AM) := lp F_Md_findSmallest (3, v0R, v1J, v3J, v5I, v6I, v7I, v8I, 0, 0, σ)
noncomputable def L_Md_findSmallest_4 (v0R : Nat) (v1J : Int64) (v3J : Int64) (v5I : Int32) (v7I : Int32) (v8I : Int32) (s0I : Int32) (σ : AM) : Option (Int32 × AM) := lp F_Md_findSmallest (4, v0R, v1J, v3J, v5I, 0, v7I, v8I, 0, s0I, σ)
noncomputable def L_Md_findSmallest_5 (v0R : Nat) (v1J : Int64) (v3J : Int64) (v5I : Int32) (v6I : Int32) (v7I : Int32) (v8I : Int32) (σ : AM) : Option (Int32 × AM) := lp F_Md_findSmallest (5, v0R, v1J, v3J, v5I, v6I, v7I, v8I, 0, 0, σ)
noncomputable def L_Md_findSmallest_6 (v0R : Nat) (v1J : Int64) (v3J : Int64) (v5I : Int32) (v6I : Int32) (v8I : Int32) (s0I : Int32) (σ : AM) : Option (Int32 × AM) := lp F_Md_findSmallest (6, v0R, v1J, v3J, v5I, v6I, 0, v8I, 0, s0I, σ)
noncomputable def L_Md_findSmallest_7 (v0R : Nat) (v1J : Int64) (v3J : Int64) (v5I : Int32) (v6I : Int32) (v8I : Int32) (s0I : Int32) (σ : AM) : Option (Int32 × AM) := lp F_Md_findSmallest (7, v0R, v1J, v3J, v5I, v6I, 0, v8I, 0, s0I, σ)
noncomputable def L_Md_findSmallest_8 (v0R : Nat) (v1J : Int64) (v3J : Int64) (v5I : Int32) (v6I : Int32) (v8I : Int32) (v9I : Int32) (σ : AM) : Option (Int32 × AM) := lp F_Md_findSmallest (8, v0R, v1J, v3J, v5I, v6I, 0, v8I, v9I, 0, σ)
noncomputable def L_Md_findSmallest_9 (v0R : Nat) (v1J : Int64) (v3J : Int64) (v5I : Int32) (v6I : Int32) (v8I : Int32) (v9I : Int32) (σ : AM) : Option (Int32 × AM) := lp F_Md_findSmallest (9, v0R, v1J, v3J, v5I, v6I, 0, v8I, v9I, 0, σ)
noncomputable def L_Md_findSmallest_10 (v0R : Nat) (v1J : Int64) (v3J : Int64) (v5I : Int32) (v6I : Int32) (v8I : Int32) (v9I : Int32) (s0I : Int32) (σ : AM) : Option (Int32 × AM) := lp F_Md_findSmallest (10, v0R, v1J, v3J, v5I, v6I, 0, v8I, v9I, s0I, σ)
noncomputable def L_Md_findSmallest_11 (v0R : Nat) (v1J : Int64) (v3J : Int64) (v5I : Int32) (σ : AM) : Option (Int32 × AM) := lp F_Md_findSmallest (11, v0R, v1J, v3J, v5I, 0, 0, 0, 0, 0, σ)
noncomputable def L_Md_findSmallest_12 (s0I : Int32) (σ : AM) : Option (Int32 × AM) := lp F_Md_findSmallest (12, 0, 0, 0, 0, 0, 0, 0, 0, s0I, σ)
set_option maxRecDepth 20000 in
theorem E_Md_findSmallest_0 (v0R : Nat) (v1J : Int64) (v3J : Int64) (σ : AM) : L_Md_findSmallest_0 v0R v1J v3J σ = (gd (okO σ v0R 12) <| letT (sI σ v0R 60 ((-1) : Int32)) fun σ2 => L_Md_findSmallest_1 v0R v1J v3J ((0 : Int32)) σ2) := by
  unfold L_Md_findSmallest_0
  rw [lp_eq]
  show lpK (lp F_Md_findSmallest) (T_Md_findSmallest_0 v0R v1J v3J σ) = _
  unfold T_Md_findSmallest_0
  simp only [lpK_ite, lq_inl, lq_inr, lpK_bnd, lpK_gd, lq_let]
  try rfl
set_option maxRecDepth 20000 in
theorem E_Md_findSmallest_1 (v0R : Nat) (v1J : Int64) (v3J : Int64) (v5I : Int32) (σ : AM) : L_Md_findSmallest_1 v0R v1J v3J v5I σ = (gd (okO σ v0R 12) <| if v5I < (aI σ v0R 26) then (bnd (M_Md_unpacks v0R v5I σ) fun _ σ3 => L_Md_findSmallest_2 v0R v1J v3J v5I ((0 : Int32)) ((1000 : Int32)) ((0 : Int32)) σ3) else (if (aI σ v0R 60) < 0 then (L_Md_findSmallest_12 ((0 : Int32)) σ) else (L_Md_findSmallest_12 ((1 : Int32)) σ))) := by
  unfold L_Md_findSmallest_1
  rw [lp_eq]
  show lpK (lp F_Md_findSmallest) (T_Md_findSmallest_1 v0R v1J v3J v5I σ) = _
  unfold T_Md_findSmallest_1
  simp only [lpK_ite, lq_inl, lq_inr, lpK_bnd, lpK_gd, lq_let]
  try rfl
set_option maxRecDepth 20000 in
theorem E_Md_findSmallest_2 (v0R : Nat) (v1J : Int64) (v3J : Int64) (v5I : Int32) (v6I : Int32) (v7I : Int32) (v8I : Int32) (σ : AM) : L_Md_findSmallest_2 v0R v1J v3J v5I v6I v7I v8I σ = (gd (okO σ v0R 12) <| bnd (M_Md_sets v0R σ) fun r1 σ2 => if v8I < r1 then (bnd (M_Md_doesRing v3J v8I σ2) fun r4 σ5 => if r4 = 0 then (L_Md_findSmallest_3 v0R v1J v3J v5I v6I v7I v8I σ5) else (gd (okO σ5 v0R 12) <| gd (okO σ5 (aR σ5 v0R 35) 101) <| gd (inB v8I (aN σ5 (aR σ5 v0R 35))) <| if v6I < (aI σ5 (aR σ5 v0R 35) v8I.toNatClampNeg) then (L_Md_findSmallest_4 v0R v1J v3J v5I v7I v8I (aI σ5 (aR σ5 v0R 35) v8I.toNatClampNeg) σ5) else (L_Md_findSmallest_3 v0R v1J v3J v5I v6I v7I v8I σ5))) else (gd (okO σ2 v0R 12) <| gd (okO σ2 (aR σ2 v0R 35) 101) <| bnd (M_Md_sets v0R σ2) fun r11 σ12 => gd (okO σ12 (aR σ2 v0R 35) 101) <| gd (inB (r11 - (1 : Int32)) (aN σ12 (aR σ2 v0R 35))) <| letT (aI σ12 (aR σ2 v0R 35) (r11 - (1 : Int32)).toNatClampNeg) fun x15 => if v7I < (v6I + (1 : Int32)) then (L_Md_findSmallest_7 v0R v1J v3J v5I v6I x15 ((0 : Int32)) σ12) else (L_Md_findSmallest_7 v0R v1J v3J v5I v6I x15 ((1 : Int32)) σ12))) := by
  unfold L_Md_findSmallest_2
  rw [lp_eq]
  show lpK (lp F_Md_findSmallest) (T_Md_findSmallest_2 v0R v1J v3J v5I v6I v7I v8I σ) = _
  unfold T_Md_findSmallest_2
  simp only [lpK_ite, lq_inl, lq_inr, lpK_bnd, lpK_gd, lq_let]
  try rfl
set_option maxRecDepth 20000 in
theorem E_Md_findSmallest_3 (v0R : Nat) (v1J : Int64) (v3J : Int64) (v5I : Int32) (v6I : Int32) (v7I : Int32) (v8I : Int32) (σ : AM) : L_Md_findSmallest_3 v0R v1J v3J v5I v6I v7I v8I σ = (L_Md_findSmallest_4 v0R v1J v3J v5I v7I v8I v6I σ) := by
  unfold L_Md_findSmallest_3
  rw [lp_eq]
  show lpK (lp F_Md_findSmallest) (T_Md_findSmallest_3 v0R v1J v3J v5I v6I v7I v8I σ) = _
  unfold T_Md_findSmallest_3
  simp only [lpK_ite, lq_inl, lq_inr, lpK_bnd, lpK_gd, lq_let]
  try rfl
set_option maxRecDepth 20000 in
theorem E_Md_findSmallest_4 (v0R : Nat) (v1J : Int64) (v3J : Int64) (v5I : Int32) (v7I : Int32) (v8I : Int32) (s0I : Int32) (σ : AM) : L_Md_findSmallest_4 v0R v1J v3J v5I v7I v8I s0I σ = (bnd (M_Md_doesRing v1J v8I σ) fun r1 σ2 => if r1 = 0 then (L_Md_findSmallest_5 v0R v1J v3J v5I s0I v7I v8I σ2) else (gd (okO σ2 v0R 12) <| gd (okO σ2 (aR σ2 v0R 35) 101) <| gd (inB v8I (aN σ2 (aR σ2 v0R 35))) <| if (aI σ2 (aR σ2 v0R 35) v8I.toNatClampNeg) < v7I then (L_Md_findSmallest_6 v0R v1J v3J v5I s0I v8I (aI σ2 (aR σ2 v0R 35) v8I.toNatClampNeg) σ2) else (L_Md_findSmallest_5 v0R v1J v3J v5I s0I v7I v8I σ2))) := by
  unfold L_Md_findSmallest_4
  rw [lp_eq]
  show lpK (lp F_Md_findSmallest) (T_Md_findSmallest_4 v0R v1J v3J v5I v7I v8I s0I σ) = _
  unfold T_Md_findSmallest_4
  simp only [lpK_ite, lq_inl, lq_inr, lpK_bnd, lpK_gd, lq_let]
  try rfl
set_option maxRecDepth 20000 in
theorem E_Md_findSmallest_5 (v0R : Nat) (v1J : Int64) (v3J : Int64) (v5I : Int32) (v6I : Int32) (v7I : Int32) (v8I : Int32) (σ : AM) : L_Md_findSmallest_5 v0R v1J v3J v5I v6I v7I v8I σ = (L_Md_findSmallest_6 v0R v1J v3J v5I v6I v8I v7I σ) := by
  unfold L_Md_findSmallest_5
  rw [lp_eq]
  show lpK (lp F_Md_findSmallest) (T_Md_findSmallest_5 v0R v1J v3J v5I v6I v7I v8I σ) = _
  unfold T_Md_findSmallest_5
  simp only [lpK_ite, lq_inl, lq_inr, lpK_bnd, lpK_gd, lq_let]
  try rfl
set_option maxRecDepth 20000 in
theorem E_Md_findSmallest_6 (v0R : Nat) (v1J : Int64) (v3J : Int64) (v5I : Int32) (v6I : Int32) (v8I : Int32) (s0I : Int32) (σ : AM) : L_Md_findSmallest_6 v0R v1J v3J v5I v6I v8I s0I σ = (L_Md_findSmallest_2 v0R v1J v3J v5I v6I s0I (v8I + (1 : Int32)) σ) := by
  unfold L_Md_findSmallest_6
  rw [lp_eq]
  show lpK (lp F_Md_findSmallest) (T_Md_findSmallest_6 v0R v1J v3J v5I v6I v8I s0I σ) = _
  unfold T_Md_findSmallest_6
  simp only [lpK_ite, lq_inl, lq_inr, lpK_bnd, lpK_gd, lq_let]
  try rfl
set_option maxRecDepth 20000 in
theorem E_Md_findSmallest_7 (v0R : Nat) (v1J : Int64) (v3J : Int64) (v5I : Int32) (v6I : Int32) (v8I : Int32) (s0I : Int32) (σ : AM) : L_Md_findSmallest_7 v0R v1J v3J v5I v6I v8I s0I σ = (gd (okO σ v0R 12) <| if (aI σ v0R 60) < 0 then (L_Md_findSmallest_8 v0R v1J v3J v5I v6I v8I s0I σ) else (if v8I < (aI σ v0R 62) then (L_Md_findSmallest_8 v0R v1J v3J v5I v6I v8I s0I σ) else (if v8I = (aI σ v0R 62) then (if (v6I + (1 : Int32)) < (aI σ v0R 61) then (L_Md_findSmallest_8 v0R v1J v3J v5I v6I v8I s0I σ) else (L_Md_findSmallest_9 v0R v1J v3J v5I v6I v8I s0I σ)) else (L_Md_findSmallest_9 v0R v1J v3J v5I v6I v8I s0I σ)))) := by
  unfold L_Md_findSmallest_7
  rw [lp_eq]
  show lpK (lp F_Md_findSmallest) (T_Md_findSmallest_7 v0R v1J v3J v5I v6I v8I s0I σ) = _
  unfold T_Md_findSmallest_7
  simp only [lpK_ite, lq_inl, lq_inr, lpK_bnd, lpK_gd, lq_let]
  try rfl
set_option maxRecDepth 20000 in
theorem E_Md_findSmallest_8 (v0R : Nat) (v1J : Int64) (v3J : Int64) (v5I : Int32) (v6I : Int32) (v8I : Int32) (v9I : Int32) (σ : AM) : L_Md_findSmallest_8 v0R v1J v3J v5I v6I v8I v9I σ = (L_Md_findSmallest_10 v0R v1J v3J v5I v6I v8I v9I ((1 : Int32)) σ) := by
  unfold L_Md_findSmallest_8
  rw [lp_eq]
  show lpK (lp F_Md_findSmallest) (T_Md_findSmallest_8 v0R v1J v3J v5I v6I v8I v9I σ) = _
  unfold T_Md_findSmallest_8
  simp only [lpK_ite, lq_inl, lq_inr, lpK_bnd, lpK_gd, lq_let]
  try rfl
set_option maxRecDepth 20000 in
theorem E_Md_findSmallest_9 (v0R : Nat) (v1J : Int64) (v3J : Int64) (v5I : Int32) (v6I : Int32) (v8I : Int32) (v9I : Int32) (σ : AM) : L_Md_findSmallest_9 v0R v1J v3J v5I v6I v8I v9I σ = (L_Md_findSmallest_10 v0R v1J v3J v5I v6I v8I v9I ((0 : Int32)) σ) := by
  unfold L_Md_findSmallest_9
  rw [lp_eq]
  show lpK (lp F_Md_findSmallest) (T_Md_findSmallest_9 v0R v1J v3J v5I v6I v8I v9I σ) = _
  unfold T_Md_findSmallest_9
  simp only [lpK_ite, lq_inl, lq_inr, lpK_bnd, lpK_gd, lq_let]
  try rfl
set_option maxRecDepth 20000 in
theorem E_Md_findSmallest_10 (v0R : Nat) (v1J : Int64) (v3J : Int64) (v5I : Int32) (v6I : Int32) (v8I : Int32) (v9I : Int32) (s0I : Int32) (σ : AM) : L_Md_findSmallest_10 v0R v1J v3J v5I v6I v8I v9I s0I σ = (if v9I = 0 then (L_Md_findSmallest_11 v0R v1J v3J v5I σ) else (if s0I = 0 then (L_Md_findSmallest_11 v0R v1J v3J v5I σ) else (gd (okO σ v0R 12) <| letT (sI σ v0R 60 v5I) fun σ2 => letT (sI σ2 v0R 61 (v6I + (1 : Int32))) fun σ4 => letT (sI σ4 v0R 62 v8I) fun σ6 => L_Md_findSmallest_11 v0R v1J v3J v5I σ6))) := by
  unfold L_Md_findSmallest_10
  rw [lp_eq]
  show lpK (lp F_Md_findSmallest) (T_Md_findSmallest_10 v0R v1J v3J v5I v6I v8I v9I s0I σ) = _
  unfold T_Md_findSmallest_10
  simp only [lpK_ite, lq_inl, lq_inr, lpK_bnd, lpK_gd, lq_let]
  try rfl
set_option maxRecDepth 20000 in
theorem E_Md_findSmallest_11 (v0R : Nat) (v1J : Int64) (v3J : Int64) (v5I : Int32) (σ : AM) : L_Md_findSmallest_11 v0R v1J v3J v5I σ = (L_Md_findSmallest_1 v0R v1J v3J (v5I + (1 : Int32)) σ) := by
  unfold L_Md_findSmallest_11
  rw [lp_eq]
  show lpK (lp F_Md_findSmallest) (T_Md_findSmallest_11 v0R v1J v3J v5I σ) = _
  unfold T_Md_findSmallest_11
  simp only [lpK_ite, lq_inl, lq_inr, lpK_bnd, lpK_gd, lq_let]
  try rfl
set_option maxRecDepth 20000 in
theorem E_Md_findSmallest_12 (s0I : Int32) (σ : AM) : L_Md_findSmallest_12 s0I σ = (gd (isB s0I) <| (some (s0I, σ))) := by
  unfold L_Md_findSmallest_12
  rw [lp_eq]
  show lpK (lp F_Md_findSmallest) (T_Md_findSmallest_12 s0I σ) = _
  unfold T_Md_findSmallest_12
  simp only [lpK_ite, lq_inl, lq_inr, lpK_bnd, lpK_gd, lq_let]
  try rfl
noncomputable def M_Md_findSmallest (v0R : Nat) (v1J : Int64) (v3J : Int64) (σ : AM) : Option (Int32 × AM) := mw σ (L_Md_findSmallest_0 v0R v1J v3J σ)
def I_Md_findSmallest (G : GX) (p : Program) (l : Launch) (e : Env) (s : State) (m : MethodId) (args : Array Value) (below : List Frame) (meth : Method) (c : Code) (z0 u0 n : Nat) : Prop :=
  (∀ (v0R : Nat) (v1J : Int64) (v3J : Int64) (σ : AM), VX (QM eI G args s below z0 u0) G p l e s m args below meth c 3 z0 u0 11 (lpn F_Md_findSmallest n (0, v0R, v1J, v3J, 0, 0, 0, 0, 0, 0, σ)) 0 [(0, .ref v0R), (1, .long v1J), (3, .long v3J)] [] σ) ∧
  (∀ (v0R : Nat) (v1J : Int64) (v3J : Int64) (v5I : Int32) (σ : AM), VX (QM eI G args s below z0 u0) G p l e s m args below meth c 3 z0 u0 11 (lpn F_Md_findSmallest n (1, v0R, v1J, v3J, v5I, 0, 0, 0, 0, 0, σ)) 8 [(0, .ref v0R), (1, .long v1J), (3, .long v3J), (5, .int v5I)] [] σ) ∧
  (∀ (v0R : Nat) (v1J : Int64) (v3J : Int64) (v5I : Int32) (v6I : Int32) (v7I : Int32) (v8I : Int32) (σ : AM), VX (QM eI G args s below z0 u0) G p l e s m args below meth c 3 z0 u0 11 (lpn F_Md_findSmallest n (2, v0R, v1J, v3J, v5I, v6I, v7I, v8I, 0, 0, σ)) 34 [(0, .ref v0R), (1, .long v1J), (3, .long v3J), (5, .int v5I), (6, .int v6I), (7, .int v7I), (8, .int v8I)] [] σ) ∧
  (∀ (v0R : Nat) (v1J : Int64) (v3J : Int64) (v5I : Int32) (v6I : Int32) (v7I : Int32) (v8I : Int32) (σ : AM), VX (QM eI G args s below z0 u0) G p l e s m args below meth c 3 z0 u0 11 (lpn F_Md_findSmallest n (3, v0R, v1J, v3J, v5I, v6I, v7I, v8I, 0, 0, σ)) 74 [(0, .ref v0R), (1, .long v1J), (3, .long v3J), (5, .int v5I), (6, .int v6I), (7, .int v7I), (8, .int v8I)] [] σ) ∧
  (∀ (v0R : Nat) (v1J : Int64) (v3J : Int64) (v5I : Int32) (v7I : Int32) (v8I : Int32) (s0I : Int32) (σ : AM), VX (QM eI G args s below z0 u0) G p l e s m args below meth c 3 z0 u0 11 (lpn F_Md_findSmallest n (4, v0R, v1J, v3J, v5I, 0, v7I, v8I, 0, s0I, σ)) 76 [(0, .ref v0R), (1, .long v1J), (3, .long v3J), (5, .int v5I), (7, .int v7I), (8, .int v8I)] [.int s0I] σ) ∧
  (∀ (v0R : Nat) (v1J : Int64) (v3J : Int64) (v5I : Int32) (v6I : Int32) (v7I : Int32) (v8I : Int32) (σ : AM), VX (QM eI G args s below z0 u0) G p l e s m args below meth c 3 z0 u0 11 (lpn F_Md_findSmallest n (5, v0R, v1J, v3J, v5I, v6I, v7I, v8I, 0, 0, σ)) 109 [(0, .ref v0R), (1, .long v1J), (3, .long v3J), (5, .int v5I), (6, .int v6I), (7, .int v7I), (8, .int v8I)] [] σ) ∧
  (∀ (v0R : Nat) (v1J : Int64) (v3J : Int64) (v5I : Int32) (v6I : Int32) (v8I : Int32) (s0I : Int32) (σ : AM), VX (QM eI G args s below z0 u0) G p l e s m args below meth c 3 z0 u0 11 (lpn F_Md_findSmallest n (6, v0R, v1J, v3J, v5I, v6I, 0, v8I, 0, s0I, σ)) 111 [(0, .ref v0R), (1, .long v1J), (3, .long v3J), (5, .int v5I), (6, .int v6I), (8, .int v8I)] [.int s0I] σ) ∧
  (∀ (v0R : Nat) (v1J : Int64) (v3J : Int64) (v5I : Int32) (v6I : Int32) (v8I : Int32) (s0I : Int32) (σ : AM), VX (QM eI G args s below z0 u0) G p l e s m args below meth c 3 z0 u0 11 (lpn F_Md_findSmallest n (7, v0R, v1J, v3J, v5I, v6I, 0, v8I, 0, s0I, σ)) 146 [(0, .ref v0R), (1, .long v1J), (3, .long v3J), (5, .int v5I), (6, .int v6I), (8, .int v8I)] [.int s0I] σ) ∧
  (∀ (v0R : Nat) (v1J : Int64) (v3J : Int64) (v5I : Int32) (v6I : Int32) (v8I : Int32) (v9I : Int32) (σ : AM), VX (QM eI G args s below z0 u0) G p l e s m args below meth c 3 z0 u0 11 (lpn F_Md_findSmallest n (8, v0R, v1J, v3J, v5I, v6I, 0, v8I, v9I, 0, σ)) 184 [(0, .ref v0R), (1, .long v1J), (3, .long v3J), (5, .int v5I), (6, .int v6I), (8, .int v8I), (9, .int v9I)] [] σ) ∧
  (∀ (v0R : Nat) (v1J : Int64) (v3J : Int64) (v5I : Int32) (v6I : Int32) (v8I : Int32) (v9I : Int32) (σ : AM), VX (QM eI G args s below z0 u0) G p l e s m args below meth c 3 z0 u0 11 (lpn F_Md_findSmallest n (9, v0R, v1J, v3J, v5I, v6I, 0, v8I, v9I, 0, σ)) 188 [(0, .ref v0R), (1, .long v1J), (3, .long v3J), (5, .int v5I), (6, .int v6I), (8, .int v8I), (9, .int v9I)] [] σ) ∧
  (∀ (v0R : Nat) (v1J : Int64) (v3J : Int64) (v5I : Int32) (v6I : Int32) (v8I : Int32) (v9I : Int32) (s0I : Int32) (σ : AM), VX (QM eI G args s below z0 u0) G p l e s m args below meth c 3 z0 u0 11 (lpn F_Md_findSmallest n (10, v0R, v1J, v3J, v5I, v6I, 0, v8I, v9I, s0I, σ)) 189 [(0, .ref v0R), (1, .long v1J), (3, .long v3J), (5, .int v5I), (6, .int v6I), (8, .int v8I), (9, .int v9I)] [.int s0I] σ) ∧
  (∀ (v0R : Nat) (v1J : Int64) (v3J : Int64) (v5I : Int32) (σ : AM), VX (QM eI G args s below z0 u0) G p l e s m args below meth c 3 z0 u0 11 (lpn F_Md_findSmallest n (11, v0R, v1J, v3J, v5I, 0, 0, 0, 0, 0, σ)) 221 [(0, .ref v0R), (1, .long v1J), (3, .long v3J), (5, .int v5I)] [] σ) ∧
  (∀ (s0I : Int32) (σ : AM), VX (QM eI G args s below z0 u0) G p l e s m args below meth c 3 z0 u0 11 (lpn F_Md_findSmallest n (12, 0, 0, 0, 0, 0, 0, 0, 0, s0I, σ)) 239 [] [.int s0I] σ)
set_option maxRecDepth 20000 in
theorem s_Md_findSmallest_0 {G : GX} {p : Program} {l : Launch} {e : Env} {s : State} {m : MethodId} {args : Array Value} {below : List Frame} {meth : Method} {c : Code} {z0 u0 n : Nat} (C : Cx G p s m args meth c prog_14_method_89_code 11 "BellPlateModel" ((some FieldType.boolean))) (IH : I_Md_findSmallest G p l e s m args below meth c z0 u0 n) (v0R : Nat) (v1J : Int64) (v3J : Int64) (σ : AM) : VX (QM eI G args s below z0 u0) G p l e s m args below meth c 3 z0 u0 11 (lpK (lpn F_Md_findSmallest n) (T_Md_findSmallest_0 v0R v1J v3J σ)) 0 [(0, .ref v0R), (1, .long v1J), (3, .long v3J)] [] σ := by
  unfold T_Md_findSmallest_0
  refine x_aload_n C d_Md_findSmallest_0 0 rfl ?_
  refine x_iconst (v := ((-1) : Int32)) C d_Md_findSmallest_1 (by decide) ?_
  refine x_gd (fun h1 => ?_)
  refine x_putI (k := 60) C (okO_iff.mp h1) rfl j11_ok y11_ok n11_ok (by decide) rfl rfl rfl rfl w1912 d_Md_findSmallest_2 ?_
  refine x_letS (fun σ2 e3 => ?_)
  refine x_iconst (v := (0 : Int32)) C d_Md_findSmallest_5 (by decide) ?_
  refine x_istore (lv' := [(5, .int (0 : Int32)), (0, .ref v0R), (1, .long v1J), (3, .long v3J)]) C d_Md_findSmallest_6 (by decide) rfl ?_
  refine x_lv [1, 2, 3, 0] rfl ?_
  exact IH.2.1 v0R v1J v3J ((0 : Int32)) (σ2)
set_option maxRecDepth 20000 in
theorem s_Md_findSmallest_1 {G : GX} {p : Program} {l : Launch} {e : Env} {s : State} {m : MethodId} {args : Array Value} {below : List Frame} {meth : Method} {c : Code} {z0 u0 n : Nat} (C : Cx G p s m args meth c prog_14_method_89_code 11 "BellPlateModel" ((some FieldType.boolean))) (IH : I_Md_findSmallest G p l e s m args below meth c z0 u0 n) (v0R : Nat) (v1J : Int64) (v3J : Int64) (v5I : Int32) (σ : AM) : VX (QM eI G args s below z0 u0) G p l e s m args below meth c 3 z0 u0 11 (lpK (lpn F_Md_findSmallest n) (T_Md_findSmallest_1 v0R v1J v3J v5I σ)) 8 [(0, .ref v0R), (1, .long v1J), (3, .long v3J), (5, .int v5I)] [] σ := by
  unfold T_Md_findSmallest_1
  refine x_iload C d_Md_findSmallest_8 3 rfl ?_
  refine x_aload_n C d_Md_findSmallest_10 0 rfl ?_
  refine x_gd (fun h1 => ?_)
  refine x_getI (k := 26) C (okO_iff.mp h1) rfl j11_ok (by decide) rfl w1878 d_Md_findSmallest_11 ?_
  refine x_icmp_ge (tgt := 227) C d_Md_findSmallest_14 (by decide) (fun _ => ?_) (fun _ => ?_)
  · refine x_aload_n C d_Md_findSmallest_17 0 rfl ?_
    refine x_iload C d_Md_findSmallest_18 3 rfl ?_
    refine x_callVV (As := [.int v5I]) C (c_Md_unpacks G l v0R v5I σ) (okO_iff.mp h1) rfl w1818 w56 w1816 w1819 w134 k_Md_unpacks rfl (by decide) (by decide) rfl (Nat.le_of_ble_eq_true rfl) d_Md_findSmallest_20 (fun r2 σ3 => ?_)
    refine x_iconst (v := (0 : Int32)) C d_Md_findSmallest_23 (by decide) ?_
    refine x_istore (lv' := [(6, .int (0 : Int32)), (0, .ref v0R), (1, .long v1J), (3, .long v3J), (5, .int v5I)]) C d_Md_findSmallest_24 (by decide) rfl ?_
    refine x_sipush (v := (1000 : Int32)) C d_Md_findSmallest_26 (by decide) ?_
    refine x_istore (lv' := [(7, .int (1000 : Int32)), (6, .int (0 : Int32)), (0, .ref v0R), (1, .long v1J), (3, .long v3J), (5, .int v5I)]) C d_Md_findSmallest_29 (by decide) rfl ?_
    refine x_iconst (v := (0 : Int32)) C d_Md_findSmallest_31 (by decide) ?_
    refine x_istore (lv' := [(8, .int (0 : Int32)), (7, .int (1000 : Int32)), (6, .int (0 : Int32)), (0, .ref v0R), (1, .long v1J), (3, .long v3J), (5, .int v5I)]) C d_Md_findSmallest_32 (by decide) rfl ?_
    refine x_lv [3, 4, 5, 6, 2, 1, 0] rfl ?_
    exact IH.2.2.1 v0R v1J v3J v5I ((0 : Int32)) ((1000 : Int32)) ((0 : Int32)) (σ3)
  · refine x_aload_n C d_Md_findSmallest_227 0 rfl ?_
    refine x_getI (k := 60) C (okO_iff.mp h1) rfl j11_ok (by decide) rfl w1912 d_Md_findSmallest_228 ?_
    refine x_if_lt (tgt := 238) C d_Md_findSmallest_231 (by decide) (fun _ => ?_) (fun _ => ?_)
    · refine x_iconst (v := (0 : Int32)) C d_Md_findSmallest_238 (by decide) ?_
      refine x_lv [] rfl ?_
      exact IH.2.2.2.2.2.2.2.2.2.2.2.2 ((0 : Int32)) (σ)
    · refine x_iconst (v := (1 : Int32)) C d_Md_findSmallest_234 (by decide) ?_
      refine x_goto (tgt := 239) C d_Md_findSmallest_235 (by decide) ?_
      refine x_lv [] rfl ?_
      exact IH.2.2.2.2.2.2.2.2.2.2.2.2 ((1 : Int32)) (σ)
set_option maxRecDepth 20000 in
theorem s_Md_findSmallest_2 {G : GX} {p : Program} {l : Launch} {e : Env} {s : State} {m : MethodId} {args : Array Value} {below : List Frame} {meth : Method} {c : Code} {z0 u0 n : Nat} (C : Cx G p s m args meth c prog_14_method_89_code 11 "BellPlateModel" ((some FieldType.boolean))) (IH : I_Md_findSmallest G p l e s m args below meth c z0 u0 n) (v0R : Nat) (v1J : Int64) (v3J : Int64) (v5I : Int32) (v6I : Int32) (v7I : Int32) (v8I : Int32) (σ : AM) : VX (QM eI G args s below z0 u0) G p l e s m args below meth c 3 z0 u0 11 (lpK (lpn F_Md_findSmallest n) (T_Md_findSmallest_2 v0R v1J v3J v5I v6I v7I v8I σ)) 34 [(0, .ref v0R), (1, .long v1J), (3, .long v3J), (5, .int v5I), (6, .int v6I), (7, .int v7I), (8, .int v8I)] [] σ := by
  unfold T_Md_findSmallest_2
  refine x_iload C d_Md_findSmallest_34 6 rfl ?_
  refine x_aload_n C d_Md_findSmallest_36 0 rfl ?_
  refine x_gd (fun h3 => ?_)
  refine x_callVI (As := []) C (c_Md_sets G l v0R  σ) (okO_iff.mp h3) rfl w1826 w58 w1824 w1827 w134 k_Md_sets rfl (by decide) (by decide) rfl (Nat.le_of_ble_eq_true rfl) d_Md_findSmallest_37 (fun r1 σ2 => ?_)
  refine x_icmp_ge (tgt := 119) C d_Md_findSmallest_40 (by decide) (fun _ => ?_) (fun _ => ?_)
  · refine x_lload_n C d_Md_findSmallest_43 2 rfl ?_
    refine x_iload C d_Md_findSmallest_44 6 rfl ?_
    refine x_callSI (As := [.long v3J, .int v8I]) C (c_Md_doesRing G l v3J v8I σ2) w2235 w2234 w2236 w134 k_Md_doesRing rfl (by decide) (by decide) rfl (Nat.le_of_ble_eq_true rfl) d_Md_findSmallest_46 (fun r4 σ5 => ?_)
    refine x_if_eq (tgt := 74) C d_Md_findSmallest_49 (by decide) (fun _ => ?_) (fun _ => ?_)
    · exact IH.2.2.2.1 v0R v1J v3J v5I v6I v7I v8I (σ5)
    · refine x_aload_n C d_Md_findSmallest_52 0 rfl ?_
      refine x_gd (fun h6 => ?_)
      refine x_gd (fun h7 => ?_)
      refine x_getR (k := 35) (kv := 101) C (okO_iff.mp h6) rfl j11_ok (by decide) rfl (okO_iff.mp h7) (by decide) w1887 d_Md_findSmallest_53 ?_
      refine x_iload C d_Md_findSmallest_56 6 rfl ?_
      refine x_gd (fun h8 => ?_)
      refine x_aldI C (okO_iff.mp h7) (inB_iff.mp h8) d_Md_findSmallest_58 ?_
      refine x_iload C d_Md_findSmallest_59 4 rfl ?_
      refine x_icmp_le (tgt := 74) C d_Md_findSmallest_61 (by decide) (fun _ => ?_) (fun _ => ?_)
      · refine x_aload_n C d_Md_findSmallest_64 0 rfl ?_
        refine x_getR (k := 35) (kv := 101) C (okO_iff.mp h6) rfl j11_ok (by decide) rfl (okO_iff.mp h7) (by decide) w1887 d_Md_findSmallest_65 ?_
        refine x_iload C d_Md_findSmallest_68 6 rfl ?_
        refine x_aldI C (okO_iff.mp h7) (inB_iff.mp h8) d_Md_findSmallest_70 ?_
        refine x_goto (tgt := 76) C d_Md_findSmallest_71 (by decide) ?_
        refine x_lv [0, 1, 2, 3, 5, 6] rfl ?_
        exact IH.2.2.2.2.1 v0R v1J v3J v5I v7I v8I (aI σ5 (aR σ5 v0R 35) v8I.toNatClampNeg) (σ5)
      · exact IH.2.2.2.1 v0R v1J v3J v5I v6I v7I v8I (σ5)
  · refine x_aload_n C d_Md_findSmallest_119 0 rfl ?_
    refine x_gd (fun h9 => ?_)
    refine x_gd (fun h10 => ?_)
    refine x_getR (k := 35) (kv := 101) C (okO_iff.mp h9) rfl j11_ok (by decide) rfl (okO_iff.mp h10) (by decide) w1887 d_Md_findSmallest_120 ?_
    refine x_aload_n C d_Md_findSmallest_123 0 rfl ?_
    refine x_callVI (As := []) C (c_Md_sets G l v0R  σ2) (okO_iff.mp h9) rfl w1826 w58 w1824 w1827 w134 k_Md_sets rfl (by decide) (by decide) rfl (Nat.le_of_ble_eq_true rfl) d_Md_findSmallest_124 (fun r11 σ12 => ?_)
    refine x_iconst (v := (1 : Int32)) C d_Md_findSmallest_127 (by decide) ?_
    refine x_isub C d_Md_findSmallest_128 ?_
    refine x_gd (fun h13 => ?_)
    refine x_gd (fun h14 => ?_)
    refine x_aldI C (okO_iff.mp h13) (inB_iff.mp h14) d_Md_findSmallest_129 ?_
    refine x_letI (fun x15 _ => ?_)
    refine x_istore (lv' := [(8, .int x15), (0, .ref v0R), (1, .long v1J), (3, .long v3J), (5, .int v5I), (6, .int v6I), (7, .int v7I)]) C d_Md_findSmallest_130 (by decide) rfl ?_
    refine x_iload C d_Md_findSmallest_132 5 rfl ?_
    refine x_iconst (v := (1 : Int32)) C d_Md_findSmallest_134 (by decide) ?_
    refine x_iadd C d_Md_findSmallest_135 ?_
    refine x_iload C d_Md_findSmallest_136 6 rfl ?_
    refine x_icmp_gt (tgt := 145) C d_Md_findSmallest_138 (by decide) (fun _ => ?_) (fun _ => ?_)
    · refine x_iconst (v := (0 : Int32)) C d_Md_findSmallest_145 (by decide) ?_
      refine x_lv [1, 2, 3, 4, 5, 0] rfl ?_
      exact IH.2.2.2.2.2.2.2.1 v0R v1J v3J v5I v6I x15 ((0 : Int32)) (σ12)
    · refine x_iconst (v := (1 : Int32)) C d_Md_findSmallest_141 (by decide) ?_
      refine x_goto (tgt := 146) C d_Md_findSmallest_142 (by decide) ?_
      refine x_lv [1, 2, 3, 4, 5, 0] rfl ?_
      exact IH.2.2.2.2.2.2.2.1 v0R v1J v3J v5I v6I x15 ((1 : Int32)) (σ12)
set_option maxRecDepth 20000 in
theorem s_Md_findSmallest_3 {G : GX} {p : Program} {l : Launch} {e : Env} {s : State} {m : MethodId} {args : Array Value} {below : List Frame} {meth : Method} {c : Code} {z0 u0 n : Nat} (C : Cx G p s m args meth c prog_14_method_89_code 11 "BellPlateModel" ((some FieldType.boolean))) (IH : I_Md_findSmallest G p l e s m args below meth c z0 u0 n) (v0R : Nat) (v1J : Int64) (v3J : Int64) (v5I : Int32) (v6I : Int32) (v7I : Int32) (v8I : Int32) (σ : AM) : VX (QM eI G args s below z0 u0) G p l e s m args below meth c 3 z0 u0 11 (lpK (lpn F_Md_findSmallest n) (T_Md_findSmallest_3 v0R v1J v3J v5I v6I v7I v8I σ)) 74 [(0, .ref v0R), (1, .long v1J), (3, .long v3J), (5, .int v5I), (6, .int v6I), (7, .int v7I), (8, .int v8I)] [] σ := by
  unfold T_Md_findSmallest_3
  refine x_iload C d_Md_findSmallest_74 4 rfl ?_
  refine x_lv [0, 1, 2, 3, 5, 6] rfl ?_
  exact IH.2.2.2.2.1 v0R v1J v3J v5I v7I v8I v6I (σ)
set_option maxRecDepth 20000 in
theorem s_Md_findSmallest_4 {G : GX} {p : Program} {l : Launch} {e : Env} {s : State} {m : MethodId} {args : Array Value} {below : List Frame} {meth : Method} {c : Code} {z0 u0 n : Nat} (C : Cx G p s m args meth c prog_14_method_89_code 11 "BellPlateModel" ((some FieldType.boolean))) (IH : I_Md_findSmallest G p l e s m args below meth c z0 u0 n) (v0R : Nat) (v1J : Int64) (v3J : Int64) (v5I : Int32) (v7I : Int32) (v8I : Int32) (s0I : Int32) (σ : AM) : VX (QM eI G args s below z0 u0) G p l e s m args below meth c 3 z0 u0 11 (lpK (lpn F_Md_findSmallest n) (T_Md_findSmallest_4 v0R v1J v3J v5I v7I v8I s0I σ)) 76 [(0, .ref v0R), (1, .long v1J), (3, .long v3J), (5, .int v5I), (7, .int v7I), (8, .int v8I)] [.int s0I] σ := by
  unfold T_Md_findSmallest_4
  refine x_istore (lv' := [(6, .int s0I), (0, .ref v0R), (1, .long v1J), (3, .long v3J), (5, .int v5I), (7, .int v7I), (8, .int v8I)]) C d_Md_findSmallest_76 (by decide) rfl ?_
  refine x_lload_n C d_Md_findSmallest_78 2 rfl ?_
  refine x_iload C d_Md_findSmallest_79 6 rfl ?_
  refine x_callSI (As := [.long v1J, .int v8I]) C (c_Md_doesRing G l v1J v8I σ) w2235 w2234 w2236 w134 k_Md_doesRing rfl (by decide) (by decide) rfl (Nat.le_of_ble_eq_true rfl) d_Md_findSmallest_81 (fun r1 σ2 => ?_)
  refine x_if_eq (tgt := 109) C d_Md_findSmallest_84 (by decide) (fun _ => ?_) (fun _ => ?_)
  · refine x_lv [1, 2, 3, 4, 0, 5, 6] rfl ?_
    exact IH.2.2.2.2.2.1 v0R v1J v3J v5I s0I v7I v8I (σ2)
  · refine x_aload_n C d_Md_findSmallest_87 1 rfl ?_
    refine x_gd (fun h3 => ?_)
    refine x_gd (fun h4 => ?_)
    refine x_getR (k := 35) (kv := 101) C (okO_iff.mp h3) rfl j11_ok (by decide) rfl (okO_iff.mp h4) (by decide) w1887 d_Md_findSmallest_88 ?_
    refine x_iload C d_Md_findSmallest_91 6 rfl ?_
    refine x_gd (fun h5 => ?_)
    refine x_aldI C (okO_iff.mp h4) (inB_iff.mp h5) d_Md_findSmallest_93 ?_
    refine x_iload C d_Md_findSmallest_94 5 rfl ?_
    refine x_icmp_ge (tgt := 109) C d_Md_findSmallest_96 (by decide) (fun _ => ?_) (fun _ => ?_)
    · refine x_aload_n C d_Md_findSmallest_99 1 rfl ?_
      refine x_getR (k := 35) (kv := 101) C (okO_iff.mp h3) rfl j11_ok (by decide) rfl (okO_iff.mp h4) (by decide) w1887 d_Md_findSmallest_100 ?_
      refine x_iload C d_Md_findSmallest_103 6 rfl ?_
      refine x_aldI C (okO_iff.mp h4) (inB_iff.mp h5) d_Md_findSmallest_105 ?_
      refine x_goto (tgt := 111) C d_Md_findSmallest_106 (by decide) ?_
      refine x_lv [1, 2, 3, 4, 0, 6] rfl ?_
      exact IH.2.2.2.2.2.2.1 v0R v1J v3J v5I s0I v8I (aI σ2 (aR σ2 v0R 35) v8I.toNatClampNeg) (σ2)
    · refine x_lv [1, 2, 3, 4, 0, 5, 6] rfl ?_
      exact IH.2.2.2.2.2.1 v0R v1J v3J v5I s0I v7I v8I (σ2)
set_option maxRecDepth 20000 in
theorem s_Md_findSmallest_5 {G : GX} {p : Program} {l : Launch} {e : Env} {s : State} {m : MethodId} {args : Array Value} {below : List Frame} {meth : Method} {c : Code} {z0 u0 n : Nat} (C : Cx G p s m args meth c prog_14_method_89_code 11 "BellPlateModel" ((some FieldType.boolean))) (IH : I_Md_findSmallest G p l e s m args below meth c z0 u0 n) (v0R : Nat) (v1J : Int64) (v3J : Int64) (v5I : Int32) (v6I : Int32) (v7I : Int32) (v8I : Int32) (σ : AM) : VX (QM eI G args s below z0 u0) G p l e s m args below meth c 3 z0 u0 11 (lpK (lpn F_Md_findSmallest n) (T_Md_findSmallest_5 v0R v1J v3J v5I v6I v7I v8I σ)) 109 [(0, .ref v0R), (1, .long v1J), (3, .long v3J), (5, .int v5I), (6, .int v6I), (7, .int v7I), (8, .int v8I)] [] σ := by
  unfold T_Md_findSmallest_5
  refine x_iload C d_Md_findSmallest_109 5 rfl ?_
  refine x_lv [0, 1, 2, 3, 4, 6] rfl ?_
  exact IH.2.2.2.2.2.2.1 v0R v1J v3J v5I v6I v8I v7I (σ)
set_option maxRecDepth 20000 in
theorem s_Md_findSmallest_6 {G : GX} {p : Program} {l : Launch} {e : Env} {s : State} {m : MethodId} {args : Array Value} {below : List Frame} {meth : Method} {c : Code} {z0 u0 n : Nat} (C : Cx G p s m args meth c prog_14_method_89_code 11 "BellPlateModel" ((some FieldType.boolean))) (IH : I_Md_findSmallest G p l e s m args below meth c z0 u0 n) (v0R : Nat) (v1J : Int64) (v3J : Int64) (v5I : Int32) (v6I : Int32) (v8I : Int32) (s0I : Int32) (σ : AM) : VX (QM eI G args s below z0 u0) G p l e s m args below meth c 3 z0 u0 11 (lpK (lpn F_Md_findSmallest n) (T_Md_findSmallest_6 v0R v1J v3J v5I v6I v8I s0I σ)) 111 [(0, .ref v0R), (1, .long v1J), (3, .long v3J), (5, .int v5I), (6, .int v6I), (8, .int v8I)] [.int s0I] σ := by
  unfold T_Md_findSmallest_6
  refine x_istore (lv' := [(7, .int s0I), (0, .ref v0R), (1, .long v1J), (3, .long v3J), (5, .int v5I), (6, .int v6I), (8, .int v8I)]) C d_Md_findSmallest_111 (by decide) rfl ?_
  refine x_iinc (v := v8I + (1 : Int32)) (lv' := [(8, .int (v8I + (1 : Int32))), (7, .int s0I), (0, .ref v0R), (1, .long v1J), (3, .long v3J), (5, .int v5I), (6, .int v6I)]) C d_Md_findSmallest_113 6 rfl rfl (by decide) rfl ?_
  refine x_goto (tgt := 34) C d_Md_findSmallest_116 (by decide) ?_
  refine x_lv [2, 3, 4, 5, 6, 1, 0] rfl ?_
  exact IH.2.2.1 v0R v1J v3J v5I v6I s0I (v8I + (1 : Int32)) (σ)
set_option maxRecDepth 20000 in
theorem s_Md_findSmallest_7 {G : GX} {p : Program} {l : Launch} {e : Env} {s : State} {m : MethodId} {args : Array Value} {below : List Frame} {meth : Method} {c : Code} {z0 u0 n : Nat} (C : Cx G p s m args meth c prog_14_method_89_code 11 "BellPlateModel" ((some FieldType.boolean))) (IH : I_Md_findSmallest G p l e s m args below meth c z0 u0 n) (v0R : Nat) (v1J : Int64) (v3J : Int64) (v5I : Int32) (v6I : Int32) (v8I : Int32) (s0I : Int32) (σ : AM) : VX (QM eI G args s below z0 u0) G p l e s m args below meth c 3 z0 u0 11 (lpK (lpn F_Md_findSmallest n) (T_Md_findSmallest_7 v0R v1J v3J v5I v6I v8I s0I σ)) 146 [(0, .ref v0R), (1, .long v1J), (3, .long v3J), (5, .int v5I), (6, .int v6I), (8, .int v8I)] [.int s0I] σ := by
  unfold T_Md_findSmallest_7
  refine x_istore (lv' := [(9, .int s0I), (0, .ref v0R), (1, .long v1J), (3, .long v3J), (5, .int v5I), (6, .int v6I), (8, .int v8I)]) C d_Md_findSmallest_146 (by decide) rfl ?_
  refine x_aload_n C d_Md_findSmallest_148 1 rfl ?_
  refine x_gd (fun h1 => ?_)
  refine x_getI (k := 60) C (okO_iff.mp h1) rfl j11_ok (by decide) rfl w1912 d_Md_findSmallest_149 ?_
  refine x_if_lt (tgt := 184) C d_Md_findSmallest_152 (by decide) (fun _ => ?_) (fun _ => ?_)
  · refine x_lv [1, 2, 3, 4, 5, 6, 0] rfl ?_
    exact IH.2.2.2.2.2.2.2.2.1 v0R v1J v3J v5I v6I v8I s0I (σ)
  · refine x_iload C d_Md_findSmallest_155 6 rfl ?_
    refine x_aload_n C d_Md_findSmallest_157 1 rfl ?_
    refine x_getI (k := 62) C (okO_iff.mp h1) rfl j11_ok (by decide) rfl w1914 d_Md_findSmallest_158 ?_
    refine x_icmp_lt (tgt := 184) C d_Md_findSmallest_161 (by decide) (fun _ => ?_) (fun _ => ?_)
    · refine x_lv [1, 2, 3, 4, 5, 6, 0] rfl ?_
      exact IH.2.2.2.2.2.2.2.2.1 v0R v1J v3J v5I v6I v8I s0I (σ)
    · refine x_iload C d_Md_findSmallest_164 6 rfl ?_
      refine x_aload_n C d_Md_findSmallest_166 1 rfl ?_
      refine x_getI (k := 62) C (okO_iff.mp h1) rfl j11_ok (by decide) rfl w1914 d_Md_findSmallest_167 ?_
      refine x_icmp_ne (tgt := 188) C d_Md_findSmallest_170 (by decide) (fun _ => ?_) (fun _ => ?_)
      · refine x_iload C d_Md_findSmallest_173 5 rfl ?_
        refine x_iconst (v := (1 : Int32)) C d_Md_findSmallest_175 (by decide) ?_
        refine x_iadd C d_Md_findSmallest_176 ?_
        refine x_aload_n C d_Md_findSmallest_177 1 rfl ?_
        refine x_getI (k := 61) C (okO_iff.mp h1) rfl j11_ok (by decide) rfl w1913 d_Md_findSmallest_178 ?_
        refine x_icmp_ge (tgt := 188) C d_Md_findSmallest_181 (by decide) (fun _ => ?_) (fun _ => ?_)
        · refine x_lv [1, 2, 3, 4, 5, 6, 0] rfl ?_
          exact IH.2.2.2.2.2.2.2.2.1 v0R v1J v3J v5I v6I v8I s0I (σ)
        · refine x_lv [1, 2, 3, 4, 5, 6, 0] rfl ?_
          exact IH.2.2.2.2.2.2.2.2.2.1 v0R v1J v3J v5I v6I v8I s0I (σ)
      · refine x_lv [1, 2, 3, 4, 5, 6, 0] rfl ?_
        exact IH.2.2.2.2.2.2.2.2.2.1 v0R v1J v3J v5I v6I v8I s0I (σ)
set_option maxRecDepth 20000 in
theorem s_Md_findSmallest_8 {G : GX} {p : Program} {l : Launch} {e : Env} {s : State} {m : MethodId} {args : Array Value} {below : List Frame} {meth : Method} {c : Code} {z0 u0 n : Nat} (C : Cx G p s m args meth c prog_14_method_89_code 11 "BellPlateModel" ((some FieldType.boolean))) (IH : I_Md_findSmallest G p l e s m args below meth c z0 u0 n) (v0R : Nat) (v1J : Int64) (v3J : Int64) (v5I : Int32) (v6I : Int32) (v8I : Int32) (v9I : Int32) (σ : AM) : VX (QM eI G args s below z0 u0) G p l e s m args below meth c 3 z0 u0 11 (lpK (lpn F_Md_findSmallest n) (T_Md_findSmallest_8 v0R v1J v3J v5I v6I v8I v9I σ)) 184 [(0, .ref v0R), (1, .long v1J), (3, .long v3J), (5, .int v5I), (6, .int v6I), (8, .int v8I), (9, .int v9I)] [] σ := by
  unfold T_Md_findSmallest_8
  refine x_iconst (v := (1 : Int32)) C d_Md_findSmallest_184 (by decide) ?_
  refine x_goto (tgt := 189) C d_Md_findSmallest_185 (by decide) ?_
  exact IH.2.2.2.2.2.2.2.2.2.2.1 v0R v1J v3J v5I v6I v8I v9I ((1 : Int32)) (σ)
set_option maxRecDepth 20000 in
theorem s_Md_findSmallest_9 {G : GX} {p : Program} {l : Launch} {e : Env} {s : State} {m : MethodId} {args : Array Value} {below : List Frame} {meth : Method} {c : Code} {z0 u0 n : Nat} (C : Cx G p s m args meth c prog_14_method_89_code 11 "BellPlateModel" ((some FieldType.boolean))) (IH : I_Md_findSmallest G p l e s m args below meth c z0 u0 n) (v0R : Nat) (v1J : Int64) (v3J : Int64) (v5I : Int32) (v6I : Int32) (v8I : Int32) (v9I : Int32) (σ : AM) : VX (QM eI G args s below z0 u0) G p l e s m args below meth c 3 z0 u0 11 (lpK (lpn F_Md_findSmallest n) (T_Md_findSmallest_9 v0R v1J v3J v5I v6I v8I v9I σ)) 188 [(0, .ref v0R), (1, .long v1J), (3, .long v3J), (5, .int v5I), (6, .int v6I), (8, .int v8I), (9, .int v9I)] [] σ := by
  unfold T_Md_findSmallest_9
  refine x_iconst (v := (0 : Int32)) C d_Md_findSmallest_188 (by decide) ?_
  exact IH.2.2.2.2.2.2.2.2.2.2.1 v0R v1J v3J v5I v6I v8I v9I ((0 : Int32)) (σ)
set_option maxRecDepth 20000 in
theorem s_Md_findSmallest_10 {G : GX} {p : Program} {l : Launch} {e : Env} {s : State} {m : MethodId} {args : Array Value} {below : List Frame} {meth : Method} {c : Code} {z0 u0 n : Nat} (C : Cx G p s m args meth c prog_14_method_89_code 11 "BellPlateModel" ((some FieldType.boolean))) (IH : I_Md_findSmallest G p l e s m args below meth c z0 u0 n) (v0R : Nat) (v1J : Int64) (v3J : Int64) (v5I : Int32) (v6I : Int32) (v8I : Int32) (v9I : Int32) (s0I : Int32) (σ : AM) : VX (QM eI G args s below z0 u0) G p l e s m args below meth c 3 z0 u0 11 (lpK (lpn F_Md_findSmallest n) (T_Md_findSmallest_10 v0R v1J v3J v5I v6I v8I v9I s0I σ)) 189 [(0, .ref v0R), (1, .long v1J), (3, .long v3J), (5, .int v5I), (6, .int v6I), (8, .int v8I), (9, .int v9I)] [.int s0I] σ := by
  unfold T_Md_findSmallest_10
  refine x_istore (lv' := [(10, .int s0I), (0, .ref v0R), (1, .long v1J), (3, .long v3J), (5, .int v5I), (6, .int v6I), (8, .int v8I), (9, .int v9I)]) C d_Md_findSmallest_189 (by decide) rfl ?_
  refine x_iload C d_Md_findSmallest_191 7 rfl ?_
  refine x_if_eq (tgt := 221) C d_Md_findSmallest_193 (by decide) (fun _ => ?_) (fun _ => ?_)
  · refine x_lv [1, 2, 3, 4] rfl ?_
    exact IH.2.2.2.2.2.2.2.2.2.2.2.1 v0R v1J v3J v5I (σ)
  · refine x_iload C d_Md_findSmallest_196 0 rfl ?_
    refine x_if_eq (tgt := 221) C d_Md_findSmallest_198 (by decide) (fun _ => ?_) (fun _ => ?_)
    · refine x_lv [1, 2, 3, 4] rfl ?_
      exact IH.2.2.2.2.2.2.2.2.2.2.2.1 v0R v1J v3J v5I (σ)
    · refine x_aload_n C d_Md_findSmallest_201 1 rfl ?_
      refine x_iload C d_Md_findSmallest_202 4 rfl ?_
      refine x_gd (fun h1 => ?_)
      refine x_putI (k := 60) C (okO_iff.mp h1) rfl j11_ok y11_ok n11_ok (by decide) rfl rfl rfl rfl w1912 d_Md_findSmallest_204 ?_
      refine x_letS (fun σ2 e3 => ?_)
      refine x_aload_n C d_Md_findSmallest_207 1 rfl ?_
      refine x_iload C d_Md_findSmallest_208 5 rfl ?_
      refine x_iconst (v := (1 : Int32)) C d_Md_findSmallest_210 (by decide) ?_
      refine x_iadd C d_Md_findSmallest_211 ?_
      refine x_putI (k := 61) C (by first | exact (okO_iff.mp h1) | (rw [e3]; exact (okO_iff.mp h1))) rfl j11_ok y11_ok n11_ok (by decide) rfl rfl rfl rfl w1913 d_Md_findSmallest_212 ?_
      refine x_letS (fun σ4 e5 => ?_)
      refine x_aload_n C d_Md_findSmallest_215 1 rfl ?_
      refine x_iload C d_Md_findSmallest_216 6 rfl ?_
      refine x_putI (k := 62) C (by first | exact (okO_iff.mp h1) | (rw [e5, e3]; exact (okO_iff.mp h1))) rfl j11_ok y11_ok n11_ok (by decide) rfl rfl rfl rfl w1914 d_Md_findSmallest_218 ?_
      refine x_letS (fun σ6 e7 => ?_)
      refine x_lv [1, 2, 3, 4] rfl ?_
      exact IH.2.2.2.2.2.2.2.2.2.2.2.1 v0R v1J v3J v5I (σ6)
set_option maxRecDepth 20000 in
theorem s_Md_findSmallest_11 {G : GX} {p : Program} {l : Launch} {e : Env} {s : State} {m : MethodId} {args : Array Value} {below : List Frame} {meth : Method} {c : Code} {z0 u0 n : Nat} (C : Cx G p s m args meth c prog_14_method_89_code 11 "BellPlateModel" ((some FieldType.boolean))) (IH : I_Md_findSmallest G p l e s m args below meth c z0 u0 n) (v0R : Nat) (v1J : Int64) (v3J : Int64) (v5I : Int32) (σ : AM) : VX (QM eI G args s below z0 u0) G p l e s m args below meth c 3 z0 u0 11 (lpK (lpn F_Md_findSmallest n) (T_Md_findSmallest_11 v0R v1J v3J v5I σ)) 221 [(0, .ref v0R), (1, .long v1J), (3, .long v3J), (5, .int v5I)] [] σ := by
  unfold T_Md_findSmallest_11
  refine x_iinc (v := v5I + (1 : Int32)) (lv' := [(5, .int (v5I + (1 : Int32))), (0, .ref v0R), (1, .long v1J), (3, .long v3J)]) C d_Md_findSmallest_221 3 rfl rfl (by decide) rfl ?_
  refine x_goto (tgt := 8) C d_Md_findSmallest_224 (by decide) ?_
  refine x_lv [1, 2, 3, 0] rfl ?_
  exact IH.2.1 v0R v1J v3J (v5I + (1 : Int32)) (σ)
set_option maxRecDepth 20000 in
theorem s_Md_findSmallest_12 {G : GX} {p : Program} {l : Launch} {e : Env} {s : State} {m : MethodId} {args : Array Value} {below : List Frame} {meth : Method} {c : Code} {z0 u0 n : Nat} (C : Cx G p s m args meth c prog_14_method_89_code 11 "BellPlateModel" ((some FieldType.boolean))) (IH : I_Md_findSmallest G p l e s m args below meth c z0 u0 n) (s0I : Int32) (σ : AM) : VX (QM eI G args s below z0 u0) G p l e s m args below meth c 3 z0 u0 11 (lpK (lpn F_Md_findSmallest n) (T_Md_findSmallest_12 s0I σ)) 239 [] [.int s0I] σ := by
  unfold T_Md_findSmallest_12
  refine x_gd (fun h1 => ?_)
  exact x_zret C (isB_narrow h1) d_Md_findSmallest_239
theorem i_Md_findSmallest {G : GX} {p : Program} {l : Launch} {e : Env} {s : State} {m : MethodId} {args : Array Value} {below : List Frame} {meth : Method} {c : Code} {z0 u0 : Nat} (C : Cx G p s m args meth c prog_14_method_89_code 11 "BellPlateModel" ((some FieldType.boolean))) (n : Nat) : I_Md_findSmallest G p l e s m args below meth c z0 u0 n := by
  induction n with
  | zero => exact ⟨fun _ _ _ _ => x_none, fun _ _ _ _ _ => x_none, fun _ _ _ _ _ _ _ _ => x_none, fun _ _ _ _ _ _ _ _ => x_none, fun _ _ _ _ _ _ _ _ => x_none, fun _ _ _ _ _ _ _ _ => x_none, fun _ _ _ _ _ _ _ _ => x_none, fun _ _ _ _ _ _ _ _ => x_none, fun _ _ _ _ _ _ _ _ => x_none, fun _ _ _ _ _ _ _ _ => x_none, fun _ _ _ _ _ _ _ _ _ => x_none, fun _ _ _ _ _ => x_none, fun _ _ => x_none⟩
  | succ n IH => exact ⟨fun v0R v1J v3J σ => s_Md_findSmallest_0 C IH v0R v1J v3J σ, fun v0R v1J v3J v5I σ => s_Md_findSmallest_1 C IH v0R v1J v3J v5I σ, fun v0R v1J v3J v5I v6I v7I v8I σ => s_Md_findSmallest_2 C IH v0R v1J v3J v5I v6I v7I v8I σ, fun v0R v1J v3J v5I v6I v7I v8I σ => s_Md_findSmallest_3 C IH v0R v1J v3J v5I v6I v7I v8I σ, fun v0R v1J v3J v5I v7I v8I s0I σ => s_Md_findSmallest_4 C IH v0R v1J v3J v5I v7I v8I s0I σ, fun v0R v1J v3J v5I v6I v7I v8I σ => s_Md_findSmallest_5 C IH v0R v1J v3J v5I v6I v7I v8I σ, fun v0R v1J v3J v5I v6I v8I s0I σ => s_Md_findSmallest_6 C IH v0R v1J v3J v5I v6I v8I s0I σ, fun v0R v1J v3J v5I v6I v8I s0I σ => s_Md_findSmallest_7 C IH v0R v1J v3J v5I v6I v8I s0I σ, fun v0R v1J v3J v5I v6I v8I v9I σ => s_Md_findSmallest_8 C IH v0R v1J v3J v5I v6I v8I v9I σ, fun v0R v1J v3J v5I v6I v8I v9I σ => s_Md_findSmallest_9 C IH v0R v1J v3J v5I v6I v8I v9I σ, fun v0R v1J v3J v5I v6I v8I v9I s0I σ => s_Md_findSmallest_10 C IH v0R v1J v3J v5I v6I v8I v9I s0I σ, fun v0R v1J v3J v5I σ => s_Md_findSmallest_11 C IH v0R v1J v3J v5I σ, fun s0I σ => s_Md_findSmallest_12 C IH s0I σ⟩
theorem c_Md_findSmallest (G : GX) (l : Launch) (v0R : Nat) (v1J : Int64) (v3J : Int64) (σ : AM) : CT eI G l 3 y_Md_findSmallest prog_14_method_89_code 11 ((some FieldType.boolean)) [.ref v0R, .long v1J, .long v3J] σ (M_Md_findSmallest v0R v1J v3J σ) := by
  refine ct_of (by decide +kernel) (Nat.le_of_ble_eq_true rfl) (fun p e s m args below meth c C hin => ?_)
  refine x_lve (lv' := [(0, .ref v0R), (1, .long v1J), (3, .long v3J)]) rfl ?_
  intro r σ' h
  obtain ⟨n, hn⟩ := (lp_iff _ _ _).mp h
  exact (i_Md_findSmallest C n).1 v0R v1J v3J σ r σ' hn
/-! BellPlateModel.smallest(I)I -/
abbrev y_Md_smallest : MethodName := ⟨"BellPlateModel", "smallest", "(I)I"⟩
theorem k_Md_smallest : y_Md_smallest.cls ≠ "java/lang/invoke/MethodHandle" ∧ y_Md_smallest.cls ≠ "java/lang/invoke/VarHandle" ∧ (parseMethodDescriptor y_Md_smallest.desc).map (fun d => d.parameters.length) = some 1 := by decide +kernel
theorem d_Md_smallest_0 : decode prog_14_method_90_code 0 = .ok (.aload_n 0, 1) := by decide +kernel
theorem d_Md_smallest_1 : decode prog_14_method_90_code 1 = .ok (.iconst 0, 1) := by decide +kernel
theorem d_Md_smallest_2 : decode prog_14_method_90_code 2 = .ok (.putfield 1, 3) := by decide +kernel
theorem d_Md_smallest_5 : decode prog_14_method_90_code 5 = .ok (.aload_n 0, 1) := by decide +kernel
theorem d_Md_smallest_6 : decode prog_14_method_90_code 6 = .ok (.invokevirtual 369, 3) := by decide +kernel
theorem d_Md_smallest_9 : decode prog_14_method_90_code 9 = .ok (.iload_n 1, 1) := by decide +kernel
theorem d_Md_smallest_10 : decode prog_14_method_90_code 10 = .ok (.iconst 0, 1) := by decide +kernel
theorem d_Md_smallest_11 : decode prog_14_method_90_code 11 = .ok (.iconst 2, 1) := by decide +kernel
theorem d_Md_smallest_12 : decode prog_14_method_90_code 12 = .ok (.invokestatic 350, 3) := by decide +kernel
theorem d_Md_smallest_15 : decode prog_14_method_90_code 15 = .ok (.ifCond .eq 18, 3) := by decide +kernel
theorem d_Md_smallest_18 : decode prog_14_method_90_code 18 = .ok (.aload_n 0, 1) := by decide +kernel
theorem d_Md_smallest_19 : decode prog_14_method_90_code 19 = .ok (.aload_n 0, 1) := by decide +kernel
theorem d_Md_smallest_20 : decode prog_14_method_90_code 20 = .ok (.getfield 343, 3) := by decide +kernel
theorem d_Md_smallest_23 : decode prog_14_method_90_code 23 = .ok (.aload_n 0, 1) := by decide +kernel
theorem d_Md_smallest_24 : decode prog_14_method_90_code 24 = .ok (.getfield 347, 3) := by decide +kernel
theorem d_Md_smallest_27 : decode prog_14_method_90_code 27 = .ok (.invokevirtual 487, 3) := by decide +kernel
theorem d_Md_smallest_30 : decode prog_14_method_90_code 30 = .ok (.ifCond .ne 5, 3) := by decide +kernel
theorem d_Md_smallest_33 : decode prog_14_method_90_code 33 = .ok (.iconst (-1), 1) := by decide +kernel
theorem d_Md_smallest_34 : decode prog_14_method_90_code 34 = .ok (.ireturn, 1) := by decide +kernel
theorem d_Md_smallest_35 : decode prog_14_method_90_code 35 = .ok (.iload_n 1, 1) := by decide +kernel
theorem d_Md_smallest_36 : decode prog_14_method_90_code 36 = .ok (.ifCond .ne 10, 3) := by decide +kernel
theorem d_Md_smallest_39 : decode prog_14_method_90_code 39 = .ok (.aload_n 0, 1) := by decide +kernel
theorem d_Md_smallest_40 : decode prog_14_method_90_code 40 = .ok (.getfield 481, 3) := by decide +kernel
theorem d_Md_smallest_43 : decode prog_14_method_90_code 43 = .ok (.goto 19, 3) := by decide +kernel
theorem d_Md_smallest_46 : decode prog_14_method_90_code 46 = .ok (.iload_n 1, 1) := by decide +kernel
theorem d_Md_smallest_47 : decode prog_14_method_90_code 47 = .ok (.iconst 1, 1) := by decide +kernel
theorem d_Md_smallest_48 : decode prog_14_method_90_code 48 = .ok (.if_icmp .ne 10, 3) := by decide +kernel
theorem d_Md_smallest_51 : decode prog_14_method_90_code 51 = .ok (.aload_n 0, 1) := by decide +kernel
theorem d_Md_smallest_52 : decode prog_14_method_90_code 52 = .ok (.getfield 484, 3) := by decide +kernel
theorem d_Md_smallest_55 : decode prog_14_method_90_code 55 = .ok (.goto 7, 3) := by decide +kernel
theorem d_Md_smallest_58 : decode prog_14_method_90_code 58 = .ok (.aload_n 0, 1) := by decide +kernel
theorem d_Md_smallest_59 : decode prog_14_method_90_code 59 = .ok (.getfield 478, 3) := by decide +kernel
theorem d_Md_smallest_62 : decode prog_14_method_90_code 62 = .ok (.ireturn, 1) := by decide +kernel
abbrev S_Md_smallest : Type := Nat × Nat × Int32 × Int32 × AM
noncomputable def T_Md_smallest_0 (v0R : Nat) (v1I : Int32) (σ : AM) : S_Md_smallest ⊕ Option (Int32 × AM) :=
  gdT (okO σ v0R 12) <| letT (sI σ v0R 0 (0 : Int32)) fun σ2 => bndT (M_Md_findMust v0R σ2) fun _ σ5 => bndT (M_Md_within v1I (0 : Int32) (2 : Int32) σ5) fun r6 σ7 => if r6 = 0 then (.inl (1, 0, 0, 0, σ7)) else (gdT (okO σ7 v0R 12) <| bndT (M_Md_findSmallest v0R (aL σ7 v0R 40) (aL σ7 v0R 41) σ7) fun r9 σ10 => if r9 = 0 then (.inl (1, 0, 0, 0, σ10)) else (if v1I = 0 then (gdT (okO σ10 v0R 12) <| .inl (2, 0, 0, aI σ10 v0R 62, σ10)) else (if v1I = (1 : Int32) then (gdT (okO σ10 v0R 12) <| .inl (2, 0, 0, aI σ10 v0R 61, σ10)) else (gdT (okO σ10 v0R 12) <| .inl (2, 0, 0, aI σ10 v0R 60, σ10)))))
noncomputable def T_Md_smallest_1  (σ : AM) : S_Md_smallest ⊕ Option (Int32 × AM) :=
  .inr (some (((-1) : Int32), σ))
noncomputable def T_Md_smallest_2 (s0I : Int32) (σ : AM) : S_Md_smallest ⊕ Option (Int32 × AM) :=
  .inr (some (s0I, σ))
noncomputable def F_Md_smallest : S_Md_smallest → S_Md_smallest ⊕ Option (Int32 × AM) := fun s => match s.1 with
  | 0 => T_Md_smallest_0 (s.2.1) (s.2.2.1) (s.2.2.2.2)
  | 1 => T_Md_smallest_1  (s.2.2.2.2)
  | _ => T_Md_smallest_2 (s.2.2.2.1) (s.2.2.2.2)
noncomputable def L_Md_smallest_0 (v0R : Nat) (v1I : Int32) (σ : AM) : Option (Int32 × AM) := lp F_Md_smallest (0, v0R, v1I, 0, σ)
noncomputable def L_Md_smallest_1  (σ : AM) : Option (Int32 × AM) := lp F_Md_smallest (1, 0, 0, 0, σ)
noncomputable def L_Md_smallest_2 (s0I : Int32) (σ : AM) : Option (Int32 × AM) := lp F_Md_smallest (2, 0, 0, s0I, σ)
set_option maxRecDepth 20000 in
theorem E_Md_smallest_0 (v0R : Nat) (v1I : Int32) (σ : AM) : L_Md_smallest_0 v0R v1I σ = (gd (okO σ v0R 12) <| letT (sI σ v0R 0 (0 : Int32)) fun σ2 => bnd (M_Md_findMust v0R σ2) fun _ σ5 => bnd (M_Md_within v1I (0 : Int32) (2 : Int32) σ5) fun r6 σ7 => if r6 = 0 then (L_Md_smallest_1 σ7) else (gd (okO σ7 v0R 12) <| bnd (M_Md_findSmallest v0R (aL σ7 v0R 40) (aL σ7 v0R 41) σ7) fun r9 σ10 => if r9 = 0 then (L_Md_smallest_1 σ10) else (if v1I = 0 then (gd (okO σ10 v0R 12) <| L_Md_smallest_2 (aI σ10 v0R 62) σ10) else (if v1I = (1 : Int32) then (gd (okO σ10 v0R 12) <| L_Md_smallest_2 (aI σ10 v0R 61) σ10) else (gd (okO σ10 v0R 12) <| L_Md_smallest_2 (aI σ10 v0R 60) σ10))))) := by
  unfold L_Md_smallest_0
  rw [lp_eq]
  show lpK (lp F_Md_smallest) (T_Md_smallest_0 v0R v1I σ) = _
  unfold T_Md_smallest_0
  simp only [lpK_ite, lq_inl, lq_inr, lpK_bnd, lpK_gd, lq_let]
  try rfl
set_option maxRecDepth 20000 in
theorem E_Md_smallest_1  (σ : AM) : L_Md_smallest_1  σ = ((some (((-1) : Int32), σ))) := by
  unfold L_Md_smallest_1
  rw [lp_eq]
  show lpK (lp F_Md_smallest) (T_Md_smallest_1  σ) = _
  unfold T_Md_smallest_1
  simp only [lpK_ite, lq_inl, lq_inr, lpK_bnd, lpK_gd, lq_let]
  try rfl
set_option maxRecDepth 20000 in
theorem E_Md_smallest_2 (s0I : Int32) (σ : AM) : L_Md_smallest_2 s0I σ = ((some (s0I, σ))) := by
  unfold L_Md_smallest_2
  rw [lp_eq]
  show lpK (lp F_Md_smallest) (T_Md_smallest_2 s0I σ) = _
  unfold T_Md_smallest_2
  simp only [lpK_ite, lq_inl, lq_inr, lpK_bnd, lpK_gd, lq_let]
  try rfl
noncomputable def M_Md_smallest (v0R : Nat) (v1I : Int32) (σ : AM) : Option (Int32 × AM) := mw σ (L_Md_smallest_0 v0R v1I σ)
def I_Md_smallest (G : GX) (p : Program) (l : Launch) (e : Env) (s : State) (m : MethodId) (args : Array Value) (below : List Frame) (meth : Method) (c : Code) (z0 u0 n : Nat) : Prop :=
  (∀ (v0R : Nat) (v1I : Int32) (σ : AM), VX (QM eI G args s below z0 u0) G p l e s m args below meth c 4 z0 u0 2 (lpn F_Md_smallest n (0, v0R, v1I, 0, σ)) 0 [(0, .ref v0R), (1, .int v1I)] [] σ) ∧
  (∀ (σ : AM), VX (QM eI G args s below z0 u0) G p l e s m args below meth c 4 z0 u0 2 (lpn F_Md_smallest n (1, 0, 0, 0, σ)) 33 [] [] σ) ∧
  (∀ (s0I : Int32) (σ : AM), VX (QM eI G args s below z0 u0) G p l e s m args below meth c 4 z0 u0 2 (lpn F_Md_smallest n (2, 0, 0, s0I, σ)) 62 [] [.int s0I] σ)
set_option maxRecDepth 20000 in
theorem s_Md_smallest_0 {G : GX} {p : Program} {l : Launch} {e : Env} {s : State} {m : MethodId} {args : Array Value} {below : List Frame} {meth : Method} {c : Code} {z0 u0 n : Nat} (C : Cx G p s m args meth c prog_14_method_90_code 2 "BellPlateModel" ((some FieldType.int))) (IH : I_Md_smallest G p l e s m args below meth c z0 u0 n) (v0R : Nat) (v1I : Int32) (σ : AM) : VX (QM eI G args s below z0 u0) G p l e s m args below meth c 4 z0 u0 2 (lpK (lpn F_Md_smallest n) (T_Md_smallest_0 v0R v1I σ)) 0 [(0, .ref v0R), (1, .int v1I)] [] σ := by
  unfold T_Md_smallest_0
  refine x_aload_n C d_Md_smallest_0 0 rfl ?_
  refine x_iconst (v := (0 : Int32)) C d_Md_smallest_1 (by decide) ?_
  refine x_gd (fun h1 => ?_)
  refine x_putI (k := 0) C (okO_iff.mp h1) rfl j11_ok y11_ok n11_ok (by decide) rfl rfl rfl rfl w1852 d_Md_smallest_2 ?_
  refine x_letS (fun σ2 e3 => ?_)
  refine x_aload_n C d_Md_smallest_5 0 rfl ?_
  refine x_callVV (As := []) C (c_Md_findMust G l v0R  σ2) (by first | exact (okO_iff.mp h1) | (rw [e3]; exact (okO_iff.mp h1))) rfl w2217 w86 w2215 w2218 w134 k_Md_findMust rfl (by decide) (by decide) rfl (Nat.le_of_ble_eq_true rfl) d_Md_smallest_6 (fun r4 σ5 => ?_)
  refine x_iload_n C d_Md_smallest_9 1 rfl ?_
  refine x_iconst (v := (0 : Int32)) C d_Md_smallest_10 (by decide) ?_
  refine x_iconst (v := (2 : Int32)) C d_Md_smallest_11 (by decide) ?_
  refine x_callSI (As := [.int v1I, .int (0 : Int32), .int (2 : Int32)]) C (c_Md_within G l v1I (0 : Int32) (2 : Int32) σ5) w2205 w2204 w2206 w134 k_Md_within rfl (by decide) (by decide) rfl (Nat.le_of_ble_eq_true rfl) d_Md_smallest_12 (fun r6 σ7 => ?_)
  refine x_if_eq (tgt := 33) C d_Md_smallest_15 (by decide) (fun _ => ?_) (fun _ => ?_)
  · refine x_lv [] rfl ?_
    exact IH.2.1  (σ7)
  · refine x_aload_n C d_Md_smallest_18 0 rfl ?_
    refine x_aload_n C d_Md_smallest_19 0 rfl ?_
    refine x_gd (fun h8 => ?_)
    refine x_getJ (k := 40) C (okO_iff.mp h8) rfl j11_ok (by decide) rfl w1892 d_Md_smallest_20 ?_
    refine x_aload_n C d_Md_smallest_23 0 rfl ?_
    refine x_getJ (k := 41) C (okO_iff.mp h8) rfl j11_ok (by decide) rfl w1893 d_Md_smallest_24 ?_
    refine x_callVI (As := [.long (aL σ7 v0R 40), .long (aL σ7 v0R 41)]) C (c_Md_findSmallest G l v0R (aL σ7 v0R 40) (aL σ7 v0R 41) σ7) (okO_iff.mp h8) rfl w2371 w108 w2369 w2372 w134 k_Md_findSmallest rfl (by decide) (by decide) rfl (Nat.le_of_ble_eq_true rfl) d_Md_smallest_27 (fun r9 σ10 => ?_)
    refine x_if_ne (tgt := 35) C d_Md_smallest_30 (by decide) (fun _ => ?_) (fun _ => ?_)
    · refine x_lv [] rfl ?_
      exact IH.2.1  (σ10)
    · refine x_iload_n C d_Md_smallest_35 1 rfl ?_
      refine x_if_ne (tgt := 46) C d_Md_smallest_36 (by decide) (fun _ => ?_) (fun _ => ?_)
      · refine x_aload_n C d_Md_smallest_39 0 rfl ?_
        refine x_gd (fun h11 => ?_)
        refine x_getI (k := 62) C (okO_iff.mp h11) rfl j11_ok (by decide) rfl w1914 d_Md_smallest_40 ?_
        refine x_goto (tgt := 62) C d_Md_smallest_43 (by decide) ?_
        refine x_lv [] rfl ?_
        exact IH.2.2 (aI σ10 v0R 62) (σ10)
      · refine x_iload_n C d_Md_smallest_46 1 rfl ?_
        refine x_iconst (v := (1 : Int32)) C d_Md_smallest_47 (by decide) ?_
        refine x_icmp_ne (tgt := 58) C d_Md_smallest_48 (by decide) (fun _ => ?_) (fun _ => ?_)
        · refine x_aload_n C d_Md_smallest_51 0 rfl ?_
          refine x_gd (fun h12 => ?_)
          refine x_getI (k := 61) C (okO_iff.mp h12) rfl j11_ok (by decide) rfl w1913 d_Md_smallest_52 ?_
          refine x_goto (tgt := 62) C d_Md_smallest_55 (by decide) ?_
          refine x_lv [] rfl ?_
          exact IH.2.2 (aI σ10 v0R 61) (σ10)
        · refine x_aload_n C d_Md_smallest_58 0 rfl ?_
          refine x_gd (fun h13 => ?_)
          refine x_getI (k := 60) C (okO_iff.mp h13) rfl j11_ok (by decide) rfl w1912 d_Md_smallest_59 ?_
          refine x_lv [] rfl ?_
          exact IH.2.2 (aI σ10 v0R 60) (σ10)
set_option maxRecDepth 20000 in
theorem s_Md_smallest_1 {G : GX} {p : Program} {l : Launch} {e : Env} {s : State} {m : MethodId} {args : Array Value} {below : List Frame} {meth : Method} {c : Code} {z0 u0 n : Nat} (C : Cx G p s m args meth c prog_14_method_90_code 2 "BellPlateModel" ((some FieldType.int))) (IH : I_Md_smallest G p l e s m args below meth c z0 u0 n)  (σ : AM) : VX (QM eI G args s below z0 u0) G p l e s m args below meth c 4 z0 u0 2 (lpK (lpn F_Md_smallest n) (T_Md_smallest_1  σ)) 33 [] [] σ := by
  unfold T_Md_smallest_1
  refine x_iconst (v := ((-1) : Int32)) C d_Md_smallest_33 (by decide) ?_
  exact x_iret C d_Md_smallest_34
set_option maxRecDepth 20000 in
theorem s_Md_smallest_2 {G : GX} {p : Program} {l : Launch} {e : Env} {s : State} {m : MethodId} {args : Array Value} {below : List Frame} {meth : Method} {c : Code} {z0 u0 n : Nat} (C : Cx G p s m args meth c prog_14_method_90_code 2 "BellPlateModel" ((some FieldType.int))) (IH : I_Md_smallest G p l e s m args below meth c z0 u0 n) (s0I : Int32) (σ : AM) : VX (QM eI G args s below z0 u0) G p l e s m args below meth c 4 z0 u0 2 (lpK (lpn F_Md_smallest n) (T_Md_smallest_2 s0I σ)) 62 [] [.int s0I] σ := by
  unfold T_Md_smallest_2
  exact x_iret C d_Md_smallest_62
theorem i_Md_smallest {G : GX} {p : Program} {l : Launch} {e : Env} {s : State} {m : MethodId} {args : Array Value} {below : List Frame} {meth : Method} {c : Code} {z0 u0 : Nat} (C : Cx G p s m args meth c prog_14_method_90_code 2 "BellPlateModel" ((some FieldType.int))) (n : Nat) : I_Md_smallest G p l e s m args below meth c z0 u0 n := by
  induction n with
  | zero => exact ⟨fun _ _ _ => x_none, fun _ => x_none, fun _ _ => x_none⟩
  | succ n IH => exact ⟨fun v0R v1I σ => s_Md_smallest_0 C IH v0R v1I σ, fun σ => s_Md_smallest_1 C IH σ, fun s0I σ => s_Md_smallest_2 C IH s0I σ⟩
theorem c_Md_smallest (G : GX) (l : Launch) (v0R : Nat) (v1I : Int32) (σ : AM) : CT eI G l 4 y_Md_smallest prog_14_method_90_code 2 ((some FieldType.int)) [.ref v0R, .int v1I] σ (M_Md_smallest v0R v1I σ) := by
  refine ct_of (by decide +kernel) (Nat.le_of_ble_eq_true rfl) (fun p e s m args below meth c C hin => ?_)
  refine x_lve (lv' := [(0, .ref v0R), (1, .int v1I)]) rfl ?_
  intro r σ' h
  obtain ⟨n, hn⟩ := (lp_iff _ _ _).mp h
  exact (i_Md_smallest C n).1 v0R v1I σ r σ' hn
/-! BellPlateModel.same(II)I -/
abbrev y_Md_same : MethodName := ⟨"BellPlateModel", "same", "(II)I"⟩
theorem k_Md_same : y_Md_same.cls ≠ "java/lang/invoke/MethodHandle" ∧ y_Md_same.cls ≠ "java/lang/invoke/VarHandle" ∧ (parseMethodDescriptor y_Md_same.desc).map (fun d => d.parameters.length) = some 2 := by decide +kernel
theorem d_Md_same_0 : decode prog_14_method_91_code 0 = .ok (.aload_n 0, 1) := by decide +kernel
theorem d_Md_same_1 : decode prog_14_method_91_code 1 = .ok (.iconst 0, 1) := by decide +kernel
theorem d_Md_same_2 : decode prog_14_method_91_code 2 = .ok (.putfield 1, 3) := by decide +kernel
theorem d_Md_same_5 : decode prog_14_method_91_code 5 = .ok (.aload_n 0, 1) := by decide +kernel
theorem d_Md_same_6 : decode prog_14_method_91_code 6 = .ok (.iload_n 1, 1) := by decide +kernel
theorem d_Md_same_7 : decode prog_14_method_91_code 7 = .ok (.invokevirtual 337, 3) := by decide +kernel
theorem d_Md_same_10 : decode prog_14_method_91_code 10 = .ok (.ifCond .eq 12, 3) := by decide +kernel
theorem d_Md_same_13 : decode prog_14_method_91_code 13 = .ok (.iload_n 2, 1) := by decide +kernel
theorem d_Md_same_14 : decode prog_14_method_91_code 14 = .ok (.iconst 0, 1) := by decide +kernel
theorem d_Md_same_15 : decode prog_14_method_91_code 15 = .ok (.iconst 2, 1) := by decide +kernel
theorem d_Md_same_16 : decode prog_14_method_91_code 16 = .ok (.invokestatic 350, 3) := by decide +kernel
theorem d_Md_same_19 : decode prog_14_method_91_code 19 = .ok (.ifCond .ne 5, 3) := by decide +kernel
theorem d_Md_same_22 : decode prog_14_method_91_code 22 = .ok (.iconst (-1), 1) := by decide +kernel
theorem d_Md_same_23 : decode prog_14_method_91_code 23 = .ok (.ireturn, 1) := by decide +kernel
theorem d_Md_same_24 : decode prog_14_method_91_code 24 = .ok (.aload_n 0, 1) := by decide +kernel
theorem d_Md_same_25 : decode prog_14_method_91_code 25 = .ok (.getfield 75, 3) := by decide +kernel
theorem d_Md_same_28 : decode prog_14_method_91_code 28 = .ok (.iload_n 1, 1) := by decide +kernel
theorem d_Md_same_29 : decode prog_14_method_91_code 29 = .ok (.laload, 1) := by decide +kernel
theorem d_Md_same_30 : decode prog_14_method_91_code 30 = .ok (.lstore_n 3, 1) := by decide +kernel
theorem d_Md_same_31 : decode prog_14_method_91_code 31 = .ok (.lconst 0, 1) := by decide +kernel
theorem d_Md_same_32 : decode prog_14_method_91_code 32 = .ok (.lstore 5, 2) := by decide +kernel
theorem d_Md_same_34 : decode prog_14_method_91_code 34 = .ok (.iconst 0, 1) := by decide +kernel
theorem d_Md_same_35 : decode prog_14_method_91_code 35 = .ok (.istore 7, 2) := by decide +kernel
theorem d_Md_same_37 : decode prog_14_method_91_code 37 = .ok (.iload 7, 2) := by decide +kernel
theorem d_Md_same_39 : decode prog_14_method_91_code 39 = .ok (.aload_n 0, 1) := by decide +kernel
theorem d_Md_same_40 : decode prog_14_method_91_code 40 = .ok (.invokevirtual 306, 3) := by decide +kernel
theorem d_Md_same_43 : decode prog_14_method_91_code 43 = .ok (.if_icmp .ge 31, 3) := by decide +kernel
theorem d_Md_same_46 : decode prog_14_method_91_code 46 = .ok (.lload 5, 2) := by decide +kernel
theorem d_Md_same_48 : decode prog_14_method_91_code 48 = .ok (.lload_n 3, 1) := by decide +kernel
theorem d_Md_same_49 : decode prog_14_method_91_code 49 = .ok (.iload 7, 2) := by decide +kernel
theorem d_Md_same_51 : decode prog_14_method_91_code 51 = .ok (.invokestatic 357, 3) := by decide +kernel
theorem d_Md_same_54 : decode prog_14_method_91_code 54 = .ok (.ifCond .eq 7, 3) := by decide +kernel
theorem d_Md_same_57 : decode prog_14_method_91_code 57 = .ok (.lconst 0, 1) := by decide +kernel
theorem d_Md_same_58 : decode prog_14_method_91_code 58 = .ok (.goto 7, 3) := by decide +kernel
theorem d_Md_same_61 : decode prog_14_method_91_code 61 = .ok (.lconst 1, 1) := by decide +kernel
theorem d_Md_same_62 : decode prog_14_method_91_code 62 = .ok (.iload 7, 2) := by decide +kernel
theorem d_Md_same_64 : decode prog_14_method_91_code 64 = .ok (.lshl, 1) := by decide +kernel
theorem d_Md_same_65 : decode prog_14_method_91_code 65 = .ok (.lor, 1) := by decide +kernel
theorem d_Md_same_66 : decode prog_14_method_91_code 66 = .ok (.lstore 5, 2) := by decide +kernel
theorem d_Md_same_68 : decode prog_14_method_91_code 68 = .ok (.iinc 7 1, 3) := by decide +kernel
theorem d_Md_same_71 : decode prog_14_method_91_code 71 = .ok (.goto (-34), 3) := by decide +kernel
theorem d_Md_same_74 : decode prog_14_method_91_code 74 = .ok (.aload_n 0, 1) := by decide +kernel
theorem d_Md_same_75 : decode prog_14_method_91_code 75 = .ok (.lload_n 3, 1) := by decide +kernel
theorem d_Md_same_76 : decode prog_14_method_91_code 76 = .ok (.lload 5, 2) := by decide +kernel
theorem d_Md_same_78 : decode prog_14_method_91_code 78 = .ok (.invokevirtual 487, 3) := by decide +kernel
theorem d_Md_same_81 : decode prog_14_method_91_code 81 = .ok (.pop, 1) := by decide +kernel
theorem d_Md_same_82 : decode prog_14_method_91_code 82 = .ok (.iload_n 2, 1) := by decide +kernel
theorem d_Md_same_83 : decode prog_14_method_91_code 83 = .ok (.ifCond .ne 10, 3) := by decide +kernel
theorem d_Md_same_86 : decode prog_14_method_91_code 86 = .ok (.aload_n 0, 1) := by decide +kernel
theorem d_Md_same_87 : decode prog_14_method_91_code 87 = .ok (.getfield 481, 3) := by decide +kernel
theorem d_Md_same_90 : decode prog_14_method_91_code 90 = .ok (.goto 19, 3) := by decide +kernel
theorem d_Md_same_93 : decode prog_14_method_91_code 93 = .ok (.iload_n 2, 1) := by decide +kernel
theorem d_Md_same_94 : decode prog_14_method_91_code 94 = .ok (.iconst 1, 1) := by decide +kernel
theorem d_Md_same_95 : decode prog_14_method_91_code 95 = .ok (.if_icmp .ne 10, 3) := by decide +kernel
theorem d_Md_same_98 : decode prog_14_method_91_code 98 = .ok (.aload_n 0, 1) := by decide +kernel
theorem d_Md_same_99 : decode prog_14_method_91_code 99 = .ok (.getfield 484, 3) := by decide +kernel
theorem d_Md_same_102 : decode prog_14_method_91_code 102 = .ok (.goto 7, 3) := by decide +kernel
theorem d_Md_same_105 : decode prog_14_method_91_code 105 = .ok (.aload_n 0, 1) := by decide +kernel
theorem d_Md_same_106 : decode prog_14_method_91_code 106 = .ok (.getfield 478, 3) := by decide +kernel
theorem d_Md_same_109 : decode prog_14_method_91_code 109 = .ok (.ireturn, 1) := by decide +kernel
abbrev S_Md_same : Type := Nat × Nat × Int32 × Int32 × Int64 × Int64 × Int32 × Int32 × Int64 × Int64 × AM
noncomputable def T_Md_same_0 (v0R : Nat) (v1I : Int32) (v2I : Int32) (σ : AM) : S_Md_same ⊕ Option (Int32 × AM) :=
  gdT (okO σ v0R 12) <| letT (sI σ v0R 0 (0 : Int32)) fun σ2 => bndT (M_Md_isWeights v0R v1I σ2) fun r4 σ5 => if r4 = 0 then (.inl (1, 0, 0, 0, 0, 0, 0, 0, 0, 0, σ5)) else (bndT (M_Md_within v2I (0 : Int32) (2 : Int32) σ5) fun r6 σ7 => if r6 = 0 then (.inl (1, 0, 0, 0, 0, 0, 0, 0, 0, 0, σ7)) else (gdT (okO σ7 v0R 12) <| gdT (okO σ7 (aR σ7 v0R 27) 102) <| gdT (inB v1I (aN σ7 (aR σ7 v0R 27))) <| letT (aL σ7 (aR σ7 v0R 27) v1I.toNatClampNeg) fun x11 => .inl (2, v0R, 0, v2I, x11, (0 : Int64), (0 : Int32), 0, 0, 0, σ7)))
noncomputable def T_Md_same_1  (σ : AM) : S_Md_same ⊕ Option (Int32 × AM) :=
  .inr (some (((-1) : Int32), σ))
noncomputable def T_Md_same_2 (v0R : Nat) (v2I : Int32) (v3J : Int64) (v5J : Int64) (v7I : Int32) (σ : AM) : S_Md_same ⊕ Option (Int32 × AM) :=
  gdT (okO σ v0R 12) <| bndT (M_Md_sets v0R σ) fun r1 σ2 => if v7I < r1 then (bndT (M_Md_doesRing v3J v7I σ2) fun r4 σ5 => if r4 = 0 then (.inl (3, v0R, 0, v2I, v3J, 0, v7I, 0, v5J, (1 : Int64) <<< (v7I.toInt64 &&& 63), σ5)) else (.inl (3, v0R, 0, v2I, v3J, 0, v7I, 0, v5J, (0 : Int64), σ5))) else (gdT (okO σ2 v0R 12) <| bndT (M_Md_findSmallest v0R v3J v5J σ2) fun r6 σ7 => if v2I = 0 then (gdT (okO σ7 v0R 12) <| .inl (4, 0, 0, 0, 0, 0, 0, aI σ7 v0R 62, 0, 0, σ7)) else (if v2I = (1 : Int32) then (gdT (okO σ7 v0R 12) <| .inl (4, 0, 0, 0, 0, 0, 0, aI σ7 v0R 61, 0, 0, σ7)) else (gdT (okO σ7 v0R 12) <| .inl (4, 0, 0, 0, 0, 0, 0, aI σ7 v0R 60, 0, 0, σ7))))
noncomputable def T_Md_same_3 (v0R : Nat) (v2I : Int32) (v3J : Int64) (v7I : Int32) (s0J : Int64) (s1J : Int64) (σ : AM) : S_Md_same ⊕ Option (Int32 × AM) :=
  letT (s0J ||| s1J) fun x1 => .inl (2, v0R, 0, v2I, v3J, x1, v7I + (1 : Int32), 0, 0, 0, σ)
noncomputable def T_Md_same_4 (s0I : Int32) (σ : AM) : S_Md_same ⊕ Option (Int32 × AM) :=
  .inr (some (s0I, σ))
noncomputable def F_Md_same : S_Md_same → S_Md_same ⊕ Option (Int32 × AM) := fun s => match s.1 with
  | 0 => T_Md_same_0 (s.2.1) (s.2.2.1) (s.2.2.2.1) (s.2.2.2.2.2.2.2.2.2.2)
  | 1 => T_Md_same_1  (s.2.2.2.2.2.2.2.2.2.2)
  | 2 => T_Md_same_2 (s.2.1) (s.2.2.2.1) (s.2.2.2.2.1) (s.2.2.2.2.2.1) (s.2.2.2.2.2.2.1) (s.2.2.2.2.2.2.2.2.2.2)
  | 3 => T_Md_same_3 (s.2.1) (s.2.2.2.1) (s.2.2.2.2.1) (s.2.2.2.2.2.2.1) (s.2.2.2.2.2.2.2.2.1) (s.2.2.2.2.2.2.2.2.2.1) (s.2.2.2.2.2.2.2.2.2.2)
  | _ => T_Md_same_4 (s.2.2.2.2.2.2.2.1) (s.2.2.2.2.2.2.2.2.2.2)
noncomputable def L_Md_same_0 (v0R : Nat) (v1I : Int32) (v2I : Int32) (σ : AM) : Option (Int32 × AM) := lp F_Md_same (0, v0R, v1I, v2I, 0, 0, 0, 0, 0, 0, σ)
noncomputable def L_Md_same_1  (σ : AM) : Option (Int32 × AM) := lp F_Md_same (1, 0, 0, 0, 0, 0, 0, 0, 0, 0, σ)
noncomputable def L_Md_same_2 (v0R : Nat) (v2I : Int32) (v3J : Int64) (v5J : Int64) (v7I : Int32) (σ : AM) : Option (Int32 × AM) := lp F_Md_same (2, v0R, 0, v2I, v3J, v5J, v7I, 0, 0, 0, σ)
noncomputable def L_Md_same_3 (v0R : Nat) (v2I : Int32) (v3J : Int64) (v7I : Int32) (s0J : Int64) (s1J : Int64) (σ : AM) : Option (Int32 × AM) := lp F_Md_same (3, v0R, 0, v2I, v3J, 0, v7I, 0, s0J, s1J, σ)
noncomputable def L_Md_same_4 (s0I : Int32) (σ : AM) : Option (Int32 × AM) := lp F_Md_same (4, 0, 0, 0, 0, 0, 0, s0I, 0, 0, σ)
set_option maxRecDepth 20000 in
theorem E_Md_same_0 (v0R : Nat) (v1I : Int32) (v2I : Int32) (σ : AM) : L_Md_same_0 v0R v1I v2I σ = (gd (okO σ v0R 12) <| letT (sI σ v0R 0 (0 : Int32)) fun σ2 => bnd (M_Md_isWeights v0R v1I σ2) fun r4 σ5 => if r4 = 0 then (L_Md_same_1 σ5) else (bnd (M_Md_within v2I (0 : Int32) (2 : Int32) σ5) fun r6 σ7 => if r6 = 0 then (L_Md_same_1 σ7) else (gd (okO σ7 v0R 12) <| gd (okO σ7 (aR σ7 v0R 27) 102) <| gd (inB v1I (aN σ7 (aR σ7 v0R 27))) <| letT (aL σ7 (aR σ7 v0R 27) v1I.toNatClampNeg) fun x11 => L_Md_same_2 v0R v2I x11 ((0 : Int64)) ((0 : Int32)) σ7))) := by
  unfold L_Md_same_0
  rw [lp_eq]
  show lpK (lp F_Md_same) (T_Md_same_0 v0R v1I v2I σ) = _
  unfold T_Md_same_0
  simp only [lpK_ite, lq_inl, lq_inr, lpK_bnd, lpK_gd, lq_let]
  try rfl
set_option maxRecDepth 20000 in
theorem E_Md_same_1  (σ : AM) : L_Md_same_1  σ = ((some (((-1) : Int32), σ))) := by
  unfold L_Md_same_1
  rw [lp_eq]
  show lpK (lp F_Md_same) (T_Md_same_1  σ) = _
  unfold T_Md_same_1
  simp only [lpK_ite, lq_inl, lq_inr, lpK_bnd, lpK_gd, lq_let]
  try rfl
set_option maxRecDepth 20000 in
theorem E_Md_same_2 (v0R : Nat) (v2I : Int32) (v3J : Int64) (v5J : Int64) (v7I : Int32) (σ : AM) : L_Md_same_2 v0R v2I v3J v5J v7I σ = (gd (okO σ v0R 12) <| bnd (M_Md_sets v0R σ) fun r1 σ2 => if v7I < r1 then (bnd (M_Md_doesRing v3J v7I σ2) fun r4 σ5 => if r4 = 0 then (L_Md_same_3 v0R v2I v3J v7I v5J ((1 : Int64) <<< (v7I.toInt64 &&& 63)) σ5) else (L_Md_same_3 v0R v2I v3J v7I v5J ((0 : Int64)) σ5)) else (gd (okO σ2 v0R 12) <| bnd (M_Md_findSmallest v0R v3J v5J σ2) fun r6 σ7 => if v2I = 0 then (gd (okO σ7 v0R 12) <| L_Md_same_4 (aI σ7 v0R 62) σ7) else (if v2I = (1 : Int32) then (gd (okO σ7 v0R 12) <| L_Md_same_4 (aI σ7 v0R 61) σ7) else (gd (okO σ7 v0R 12) <| L_Md_same_4 (aI σ7 v0R 60) σ7)))) := by
  unfold L_Md_same_2
  rw [lp_eq]
  show lpK (lp F_Md_same) (T_Md_same_2 v0R v2I v3J v5J v7I σ) = _
  unfold T_Md_same_2
  simp only [lpK_ite, lq_inl, lq_inr, lpK_bnd, lpK_gd, lq_let]
  try rfl
set_option maxRecDepth 20000 in
theorem E_Md_same_3 (v0R : Nat) (v2I : Int32) (v3J : Int64) (v7I : Int32) (s0J : Int64) (s1J : Int64) (σ : AM) : L_Md_same_3 v0R v2I v3J v7I s0J s1J σ = (letT (s0J ||| s1J) fun x1 => L_Md_same_2 v0R v2I v3J x1 (v7I + (1 : Int32)) σ) := by
  unfold L_Md_same_3
  rw [lp_eq]
  show lpK (lp F_Md_same) (T_Md_same_3 v0R v2I v3J v7I s0J s1J σ) = _
  unfold T_Md_same_3
  simp only [lpK_ite, lq_inl, lq_inr, lpK_bnd, lpK_gd, lq_let]
  try rfl
set_option maxRecDepth 20000 in
theorem E_Md_same_4 (s0I : Int32) (σ : AM) : L_Md_same_4 s0I σ = ((some (s0I, σ))) := by
  unfold L_Md_same_4
  rw [lp_eq]
  show lpK (lp F_Md_same) (T_Md_same_4 s0I σ) = _
  unfold T_Md_same_4
  simp only [lpK_ite, lq_inl, lq_inr, lpK_bnd, lpK_gd, lq_let]
  try rfl
noncomputable def M_Md_same (v0R : Nat) (v1I : Int32) (v2I : Int32) (σ : AM) : Option (Int32 × AM) := mw σ (L_Md_same_0 v0R v1I v2I σ)
def I_Md_same (G : GX) (p : Program) (l : Launch) (e : Env) (s : State) (m : MethodId) (args : Array Value) (below : List Frame) (meth : Method) (c : Code) (z0 u0 n : Nat) : Prop :=
  (∀ (v0R : Nat) (v1I : Int32) (v2I : Int32) (σ : AM), VX (QM eI G args s below z0 u0) G p l e s m args below meth c 4 z0 u0 8 (lpn F_Md_same n (0, v0R, v1I, v2I, 0, 0, 0, 0, 0, 0, σ)) 0 [(0, .ref v0R), (1, .int v1I), (2, .int v2I)] [] σ) ∧
  (∀ (σ : AM), VX (QM eI G args s below z0 u0) G p l e s m args below meth c 4 z0 u0 8 (lpn F_Md_same n (1, 0, 0, 0, 0, 0, 0, 0, 0, 0, σ)) 22 [] [] σ) ∧
  (∀ (v0R : Nat) (v2I : Int32) (v3J : Int64) (v5J : Int64) (v7I : Int32) (σ : AM), VX (QM eI G args s below z0 u0) G p l e s m args below meth c 4 z0 u0 8 (lpn F_Md_same n (2, v0R, 0, v2I, v3J, v5J, v7I, 0, 0, 0, σ)) 37 [(0, .ref v0R), (2, .int v2I), (3, .long v3J), (5, .long v5J), (7, .int v7I)] [] σ) ∧
  (∀ (v0R : Nat) (v2I : Int32) (v3J : Int64) (v7I : Int32) (s0J : Int64) (s1J : Int64) (σ : AM), VX (QM eI G args s below z0 u0) G p l e s m args below meth c 4 z0 u0 8 (lpn F_Md_same n (3, v0R, 0, v2I, v3J, 0, v7I, 0, s0J, s1J, σ)) 65 [(0, .ref v0R), (2, .int v2I), (3, .long v3J), (7, .int v7I)] [.long s1J, .long s0J] σ) ∧
  (∀ (s0I : Int32) (σ : AM), VX (QM eI G args s below z0 u0) G p l e s m args below meth c 4 z0 u0 8 (lpn F_Md_same n (4, 0, 0, 0, 0, 0, 0, s0I, 0, 0, σ)) 109 [] [.int s0I] σ)
set_option maxRecDepth 20000 in
theorem s_Md_same_0 {G : GX} {p : Program} {l : Launch} {e : Env} {s : State} {m : MethodId} {args : Array Value} {below : List Frame} {meth : Method} {c : Code} {z0 u0 n : Nat} (C : Cx G p s m args meth c prog_14_method_91_code 8 "BellPlateModel" ((some FieldType.int))) (IH : I_Md_same G p l e s m args below meth c z0 u0 n) (v0R : Nat) (v1I : Int32) (v2I : Int32) (σ : AM) : VX (QM eI G args s below z0 u0) G p l e s m args below meth c 4 z0 u0 8 (lpK (lpn F_Md_same n) (T_Md_same_0 v0R v1I v2I σ)) 0 [(0, .ref v0R), (1, .int v1I), (2, .int v2I)] [] σ := by
  unfold T_Md_same_0
  refine x_aload_n C d_Md_same_0 0 rfl ?_
  refine x_iconst (v := (0 : Int32)) C d_Md_same_1 (by decide) ?_
  refine x_gd (fun h1 => ?_)
  refine x_putI (k := 0) C (okO_iff.mp h1) rfl j11_ok y11_ok n11_ok (by decide) rfl rfl rfl rfl w1852 d_Md_same_2 ?_
  refine x_letS (fun σ2 e3 => ?_)
  refine x_aload_n C d_Md_same_5 0 rfl ?_
  refine x_iload_n C d_Md_same_6 1 rfl ?_
  refine x_callVI (As := [.int v1I]) C (c_Md_isWeights G l v0R v1I σ2) (by first | exact (okO_iff.mp h1) | (rw [e3]; exact (okO_iff.mp h1))) rfl w2182 w83 w2180 w2183 w134 k_Md_isWeights rfl (by decide) (by decide) rfl (Nat.le_of_ble_eq_true rfl) d_Md_same_7 (fun r4 σ5 => ?_)
  refine x_if_eq (tgt := 22) C d_Md_same_10 (by decide) (fun _ => ?_) (fun _ => ?_)
  · refine x_lv [] rfl ?_
    exact IH.2.1  (σ5)
  · refine x_iload_n C d_Md_same_13 2 rfl ?_
    refine x_iconst (v := (0 : Int32)) C d_Md_same_14 (by decide) ?_
    refine x_iconst (v := (2 : Int32)) C d_Md_same_15 (by decide) ?_
    refine x_callSI (As := [.int v2I, .int (0 : Int32), .int (2 : Int32)]) C (c_Md_within G l v2I (0 : Int32) (2 : Int32) σ5) w2205 w2204 w2206 w134 k_Md_within rfl (by decide) (by decide) rfl (Nat.le_of_ble_eq_true rfl) d_Md_same_16 (fun r6 σ7 => ?_)
    refine x_if_ne (tgt := 24) C d_Md_same_19 (by decide) (fun _ => ?_) (fun _ => ?_)
    · refine x_lv [] rfl ?_
      exact IH.2.1  (σ7)
    · refine x_aload_n C d_Md_same_24 0 rfl ?_
      refine x_gd (fun h8 => ?_)
      refine x_gd (fun h9 => ?_)
      refine x_getR (k := 27) (kv := 102) C (okO_iff.mp h8) rfl j11_ok (by decide) rfl (okO_iff.mp h9) (by decide) w1879 d_Md_same_25 ?_
      refine x_iload_n C d_Md_same_28 1 rfl ?_
      refine x_gd (fun h10 => ?_)
      refine x_aldJ C (okO_iff.mp h9) (inB_iff.mp h10) d_Md_same_29 ?_
      refine x_letJ (fun x11 _ => ?_)
      refine x_lstore_n (lv' := [(3, .long x11), (0, .ref v0R), (1, .int v1I), (2, .int v2I)]) C d_Md_same_30 (by decide) rfl rfl ?_
      refine x_lconst (v := (0 : Int64)) C d_Md_same_31 (by decide) ?_
      refine x_lstore (lv' := [(5, .long (0 : Int64)), (3, .long x11), (0, .ref v0R), (1, .int v1I), (2, .int v2I)]) C d_Md_same_32 (by decide) rfl ?_
      refine x_iconst (v := (0 : Int32)) C d_Md_same_34 (by decide) ?_
      refine x_istore (lv' := [(7, .int (0 : Int32)), (5, .long (0 : Int64)), (3, .long x11), (0, .ref v0R), (1, .int v1I), (2, .int v2I)]) C d_Md_same_35 (by decide) rfl ?_
      refine x_lv [3, 5, 2, 1, 0] rfl ?_
      exact IH.2.2.1 v0R v2I x11 ((0 : Int64)) ((0 : Int32)) (σ7)
set_option maxRecDepth 20000 in
theorem s_Md_same_1 {G : GX} {p : Program} {l : Launch} {e : Env} {s : State} {m : MethodId} {args : Array Value} {below : List Frame} {meth : Method} {c : Code} {z0 u0 n : Nat} (C : Cx G p s m args meth c prog_14_method_91_code 8 "BellPlateModel" ((some FieldType.int))) (IH : I_Md_same G p l e s m args below meth c z0 u0 n)  (σ : AM) : VX (QM eI G args s below z0 u0) G p l e s m args below meth c 4 z0 u0 8 (lpK (lpn F_Md_same n) (T_Md_same_1  σ)) 22 [] [] σ := by
  unfold T_Md_same_1
  refine x_iconst (v := ((-1) : Int32)) C d_Md_same_22 (by decide) ?_
  exact x_iret C d_Md_same_23
set_option maxRecDepth 20000 in
theorem s_Md_same_2 {G : GX} {p : Program} {l : Launch} {e : Env} {s : State} {m : MethodId} {args : Array Value} {below : List Frame} {meth : Method} {c : Code} {z0 u0 n : Nat} (C : Cx G p s m args meth c prog_14_method_91_code 8 "BellPlateModel" ((some FieldType.int))) (IH : I_Md_same G p l e s m args below meth c z0 u0 n) (v0R : Nat) (v2I : Int32) (v3J : Int64) (v5J : Int64) (v7I : Int32) (σ : AM) : VX (QM eI G args s below z0 u0) G p l e s m args below meth c 4 z0 u0 8 (lpK (lpn F_Md_same n) (T_Md_same_2 v0R v2I v3J v5J v7I σ)) 37 [(0, .ref v0R), (2, .int v2I), (3, .long v3J), (5, .long v5J), (7, .int v7I)] [] σ := by
  unfold T_Md_same_2
  refine x_iload C d_Md_same_37 4 rfl ?_
  refine x_aload_n C d_Md_same_39 0 rfl ?_
  refine x_gd (fun h3 => ?_)
  refine x_callVI (As := []) C (c_Md_sets G l v0R  σ) (okO_iff.mp h3) rfl w1826 w58 w1824 w1827 w134 k_Md_sets rfl (by decide) (by decide) rfl (Nat.le_of_ble_eq_true rfl) d_Md_same_40 (fun r1 σ2 => ?_)
  refine x_icmp_ge (tgt := 74) C d_Md_same_43 (by decide) (fun _ => ?_) (fun _ => ?_)
  · refine x_lload C d_Md_same_46 3 rfl ?_
    refine x_lload_n C d_Md_same_48 2 rfl ?_
    refine x_iload C d_Md_same_49 4 rfl ?_
    refine x_callSI (As := [.long v3J, .int v7I]) C (c_Md_doesRing G l v3J v7I σ2) w2235 w2234 w2236 w134 k_Md_doesRing rfl (by decide) (by decide) rfl (Nat.le_of_ble_eq_true rfl) d_Md_same_51 (fun r4 σ5 => ?_)
    refine x_if_eq (tgt := 61) C d_Md_same_54 (by decide) (fun _ => ?_) (fun _ => ?_)
    · refine x_lconst (v := (1 : Int64)) C d_Md_same_61 (by decide) ?_
      refine x_iload C d_Md_same_62 4 rfl ?_
      refine x_lshl C d_Md_same_64 ?_
      refine x_lv [0, 1, 2, 4] rfl ?_
      exact IH.2.2.2.1 v0R v2I v3J v7I v5J ((1 : Int64) <<< (v7I.toInt64 &&& 63)) (σ5)
    · refine x_lconst (v := (0 : Int64)) C d_Md_same_57 (by decide) ?_
      refine x_goto (tgt := 65) C d_Md_same_58 (by decide) ?_
      refine x_lv [0, 1, 2, 4] rfl ?_
      exact IH.2.2.2.1 v0R v2I v3J v7I v5J ((0 : Int64)) (σ5)
  · refine x_aload_n C d_Md_same_74 0 rfl ?_
    refine x_lload_n C d_Md_same_75 2 rfl ?_
    refine x_lload C d_Md_same_76 3 rfl ?_
    refine x_gd (fun h8 => ?_)
    refine x_callVI (As := [.long v3J, .long v5J]) C (c_Md_findSmallest G l v0R v3J v5J σ2) (okO_iff.mp h8) rfl w2371 w108 w2369 w2372 w134 k_Md_findSmallest rfl (by decide) (by decide) rfl (Nat.le_of_ble_eq_true rfl) d_Md_same_78 (fun r6 σ7 => ?_)
    refine x_pop C d_Md_same_81 rfl ?_
    refine x_iload_n C d_Md_same_82 1 rfl ?_
    refine x_if_ne (tgt := 93) C d_Md_same_83 (by decide) (fun _ => ?_) (fun _ => ?_)
    · refine x_aload_n C d_Md_same_86 0 rfl ?_
      refine x_gd (fun h9 => ?_)
      refine x_getI (k := 62) C (okO_iff.mp h9) rfl j11_ok (by decide) rfl w1914 d_Md_same_87 ?_
      refine x_goto (tgt := 109) C d_Md_same_90 (by decide) ?_
      refine x_lv [] rfl ?_
      exact IH.2.2.2.2 (aI σ7 v0R 62) (σ7)
    · refine x_iload_n C d_Md_same_93 1 rfl ?_
      refine x_iconst (v := (1 : Int32)) C d_Md_same_94 (by decide) ?_
      refine x_icmp_ne (tgt := 105) C d_Md_same_95 (by decide) (fun _ => ?_) (fun _ => ?_)
      · refine x_aload_n C d_Md_same_98 0 rfl ?_
        refine x_gd (fun h10 => ?_)
        refine x_getI (k := 61) C (okO_iff.mp h10) rfl j11_ok (by decide) rfl w1913 d_Md_same_99 ?_
        refine x_goto (tgt := 109) C d_Md_same_102 (by decide) ?_
        refine x_lv [] rfl ?_
        exact IH.2.2.2.2 (aI σ7 v0R 61) (σ7)
      · refine x_aload_n C d_Md_same_105 0 rfl ?_
        refine x_gd (fun h11 => ?_)
        refine x_getI (k := 60) C (okO_iff.mp h11) rfl j11_ok (by decide) rfl w1912 d_Md_same_106 ?_
        refine x_lv [] rfl ?_
        exact IH.2.2.2.2 (aI σ7 v0R 60) (σ7)
set_option maxRecDepth 20000 in
theorem s_Md_same_3 {G : GX} {p : Program} {l : Launch} {e : Env} {s : State} {m : MethodId} {args : Array Value} {below : List Frame} {meth : Method} {c : Code} {z0 u0 n : Nat} (C : Cx G p s m args meth c prog_14_method_91_code 8 "BellPlateModel" ((some FieldType.int))) (IH : I_Md_same G p l e s m args below meth c z0 u0 n) (v0R : Nat) (v2I : Int32) (v3J : Int64) (v7I : Int32) (s0J : Int64) (s1J : Int64) (σ : AM) : VX (QM eI G args s below z0 u0) G p l e s m args below meth c 4 z0 u0 8 (lpK (lpn F_Md_same n) (T_Md_same_3 v0R v2I v3J v7I s0J s1J σ)) 65 [(0, .ref v0R), (2, .int v2I), (3, .long v3J), (7, .int v7I)] [.long s1J, .long s0J] σ := by
  unfold T_Md_same_3
  refine x_lor C d_Md_same_65 ?_
  refine x_letJ (fun x1 _ => ?_)
  refine x_lstore (lv' := [(5, .long x1), (0, .ref v0R), (2, .int v2I), (3, .long v3J), (7, .int v7I)]) C d_Md_same_66 (by decide) rfl ?_
  refine x_iinc (v := v7I + (1 : Int32)) (lv' := [(7, .int (v7I + (1 : Int32))), (5, .long x1), (0, .ref v0R), (2, .int v2I), (3, .long v3J)]) C d_Md_same_68 4 rfl rfl (by decide) rfl ?_
  refine x_goto (tgt := 37) C d_Md_same_71 (by decide) ?_
  refine x_lv [2, 3, 4, 1, 0] rfl ?_
  exact IH.2.2.1 v0R v2I v3J x1 (v7I + (1 : Int32)) (σ)
set_option maxRecDepth 20000 in
theorem s_Md_same_4 {G : GX} {p : Program} {l : Launch} {e : Env} {s : State} {m : MethodId} {args : Array Value} {below : List Frame} {meth : Method} {c : Code} {z0 u0 n : Nat} (C : Cx G p s m args meth c prog_14_method_91_code 8 "BellPlateModel" ((some FieldType.int))) (IH : I_Md_same G p l e s m args below meth c z0 u0 n) (s0I : Int32) (σ : AM) : VX (QM eI G args s below z0 u0) G p l e s m args below meth c 4 z0 u0 8 (lpK (lpn F_Md_same n) (T_Md_same_4 s0I σ)) 109 [] [.int s0I] σ := by
  unfold T_Md_same_4
  exact x_iret C d_Md_same_109
theorem i_Md_same {G : GX} {p : Program} {l : Launch} {e : Env} {s : State} {m : MethodId} {args : Array Value} {below : List Frame} {meth : Method} {c : Code} {z0 u0 : Nat} (C : Cx G p s m args meth c prog_14_method_91_code 8 "BellPlateModel" ((some FieldType.int))) (n : Nat) : I_Md_same G p l e s m args below meth c z0 u0 n := by
  induction n with
  | zero => exact ⟨fun _ _ _ _ => x_none, fun _ => x_none, fun _ _ _ _ _ _ => x_none, fun _ _ _ _ _ _ _ => x_none, fun _ _ => x_none⟩
  | succ n IH => exact ⟨fun v0R v1I v2I σ => s_Md_same_0 C IH v0R v1I v2I σ, fun σ => s_Md_same_1 C IH σ, fun v0R v2I v3J v5J v7I σ => s_Md_same_2 C IH v0R v2I v3J v5J v7I σ, fun v0R v2I v3J v7I s0J s1J σ => s_Md_same_3 C IH v0R v2I v3J v7I s0J s1J σ, fun s0I σ => s_Md_same_4 C IH s0I σ⟩
theorem c_Md_same (G : GX) (l : Launch) (v0R : Nat) (v1I : Int32) (v2I : Int32) (σ : AM) : CT eI G l 4 y_Md_same prog_14_method_91_code 8 ((some FieldType.int)) [.ref v0R, .int v1I, .int v2I] σ (M_Md_same v0R v1I v2I σ) := by
  refine ct_of (by decide +kernel) (Nat.le_of_ble_eq_true rfl) (fun p e s m args below meth c C hin => ?_)
  refine x_lve (lv' := [(0, .ref v0R), (1, .int v1I), (2, .int v2I)]) rfl ?_
  intro r σ' h
  obtain ⟨n, hn⟩ := (lp_iff _ _ _).mp h
  exact (i_Md_same C n).1 v0R v1I v2I σ r σ' hn
