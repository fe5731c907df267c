/-! BellPlateModel.faulty(I)V -/
abbrev y_Md_faulty : MethodName := ⟨"BellPlateModel", "faulty", "(I)V"⟩
theorem k_Md_faulty : y_Md_faulty.cls ≠ "java/lang/invoke/MethodHandle" ∧ y_Md_faulty.cls ≠ "java/lang/invoke/VarHandle" ∧ (parseMethodDescriptor y_Md_faulty.desc).map (fun d => d.parameters.length) = some 1 := by decide +kernel
theorem d_Md_faulty_0 : decode prog_14_method_10_code 0 = .ok (.aload_n 0, 1) := by decide +kernel
theorem d_Md_faulty_1 : decode prog_14_method_10_code 1 = .ok (.getfield 196, 3) := by decide +kernel
theorem d_Md_faulty_4 : decode prog_14_method_10_code 4 = .ok (.ifCond .ne 21, 3) := by decide +kernel
theorem d_Md_faulty_7 : decode prog_14_method_10_code 7 = .ok (.aload_n 0, 1) := by decide +kernel
theorem d_Md_faulty_8 : decode prog_14_method_10_code 8 = .ok (.iload_n 1, 1) := by decide +kernel
theorem d_Md_faulty_9 : decode prog_14_method_10_code 9 = .ok (.bipush 16, 2) := by decide +kernel
theorem d_Md_faulty_11 : decode prog_14_method_10_code 11 = .ok (.aload_n 0, 1) := by decide +kernel
theorem d_Md_faulty_12 : decode prog_14_method_10_code 12 = .ok (.getfield 27, 3) := by decide +kernel
theorem d_Md_faulty_15 : decode prog_14_method_10_code 15 = .ok (.aload_n 0, 1) := by decide +kernel
theorem d_Md_faulty_16 : decode prog_14_method_10_code 16 = .ok (.getfield 193, 3) := by decide +kernel
theorem d_Md_faulty_19 : decode prog_14_method_10_code 19 = .ok (.iaload, 1) := by decide +kernel
theorem d_Md_faulty_20 : decode prog_14_method_10_code 20 = .ok (.imul, 1) := by decide +kernel
theorem d_Md_faulty_21 : decode prog_14_method_10_code 21 = .ok (.iadd, 1) := by decide +kernel
theorem d_Md_faulty_22 : decode prog_14_method_10_code 22 = .ok (.putfield 196, 3) := by decide +kernel
theorem d_Md_faulty_25 : decode prog_14_method_10_code 25 = .ok (.return_, 1) := by decide +kernel
abbrev S_Md_faulty : Type := Nat × Nat × Int32 × AM
noncomputable def T_Md_faulty_0 (v0R : Nat) (v1I : Int32) (σ : AM) : S_Md_faulty ⊕ Option (Unit × AM) :=
  gdT (okO σ v0R 12) <| if (aI σ v0R 8) = 0 then (gdT (okO σ (aR σ v0R 5) 101) <| gdT (inB (aI σ v0R 7) (aN σ (aR σ v0R 5))) <| letT (sI σ v0R 8 (v1I + ((16 : Int32) * (aI σ (aR σ v0R 5) (aI σ v0R 7).toNatClampNeg)))) fun σ4 => .inl (1, 0, 0, σ4)) else (.inl (1, 0, 0, σ))
noncomputable def T_Md_faulty_1  (σ : AM) : S_Md_faulty ⊕ Option (Unit × AM) :=
  .inr (some ((), σ))
noncomputable def F_Md_faulty : S_Md_faulty → S_Md_faulty ⊕ Option (Unit × AM) := fun s => match s.1 with
  | 0 => T_Md_faulty_0 (s.2.1) (s.2.2.1) (s.2.2.2)
  | _ => T_Md_faulty_1  (s.2.2.2)
noncomputable def L_Md_faulty_0 (v0R : Nat) (v1I : Int32) (σ : AM) : Option (Unit × AM) := lp F_Md_faulty (0, v0R, v1I, σ)
noncomputable def L_Md_faulty_1  (σ : AM) : Option (Unit × AM) := lp F_Md_faulty (1, 0, 0, σ)
set_option maxRecDepth 20000 in
theorem E_Md_faulty_0 (v0R : Nat) (v1I : Int32) (σ : AM) : L_Md_faulty_0 v0R v1I σ = (gd (okO σ v0R 12) <| if (aI σ v0R 8) = 0 then (gd (okO σ (aR σ v0R 5) 101) <| gd (inB (aI σ v0R 7) (aN σ (aR σ v0R 5))) <| letT (sI σ v0R 8 (v1I + ((16 : Int32) * (aI σ (aR σ v0R 5) (aI σ v0R 7).toNatClampNeg)))) fun σ4 => L_Md_faulty_1 σ4) else (L_Md_faulty_1 σ)) := by
  unfold L_Md_faulty_0
  rw [lp_eq]
  show lpK (lp F_Md_faulty) (T_Md_faulty_0 v0R v1I σ) = _
  unfold T_Md_faulty_0
  simp only [lpK_ite, lq_inl, lq_inr, lpK_bnd, lpK_gd, lq_let]
  try rfl
set_option maxRecDepth 20000 in
theorem E_Md_faulty_1  (σ : AM) : L_Md_faulty_1  σ = ((some ((), σ))) := by
  unfold L_Md_faulty_1
  rw [lp_eq]
  show lpK (lp F_Md_faulty) (T_Md_faulty_1  σ) = _
  unfold T_Md_faulty_1
  simp only [lpK_ite, lq_inl, lq_inr, lpK_bnd, lpK_gd, lq_let]
  try rfl
noncomputable def M_Md_faulty (v0R : Nat) (v1I : Int32) (σ : AM) : Option (Unit × AM) := mw σ (L_Md_faulty_0 v0R v1I σ)
def I_Md_faulty (G : GX) (p : Program) (l : Launch) (e : Env) (s : State) (m : MethodId) (args : Array Value) (below : List Frame) (meth : Method) (c : Code) (z0 u0 n : Nat) : Prop :=
  (∀ (v0R : Nat) (v1I : Int32) (σ : AM), VX (QM eV G args s below z0 u0) G p l e s m args below meth c 0 z0 u0 2 (lpn F_Md_faulty n (0, v0R, v1I, σ)) 0 [(0, .ref v0R), (1, .int v1I)] [] σ) ∧
  (∀ (σ : AM), VX (QM eV G args s below z0 u0) G p l e s m args below meth c 0 z0 u0 2 (lpn F_Md_faulty n (1, 0, 0, σ)) 25 [] [] σ)
set_option maxRecDepth 20000 in
theorem s_Md_faulty_0 {G : GX} {p : Program} {l : Launch} {e : Env} {s : State} {m : MethodId} {args : Array Value} {below : List Frame} {meth : Method} {c : Code} {z0 u0 n : Nat} (C : Cx G p s m args meth c prog_14_method_10_code 2 "BellPlateModel" ((none))) (IH : I_Md_faulty G p l e s m args below meth c z0 u0 n) (v0R : Nat) (v1I : Int32) (σ : AM) : VX (QM eV G args s below z0 u0) G p l e s m args below meth c 0 z0 u0 2 (lpK (lpn F_Md_faulty n) (T_Md_faulty_0 v0R v1I σ)) 0 [(0, .ref v0R), (1, .int v1I)] [] σ := by
  unfold T_Md_faulty_0
  refine x_aload_n C d_Md_faulty_0 0 rfl ?_
  refine x_gd (fun h1 => ?_)
  refine x_getI (k := 8) C (okO_iff.mp h1) rfl j11_ok (by decide) rfl w1860 d_Md_faulty_1 ?_
  refine x_if_ne (tgt := 25) C d_Md_faulty_4 (by decide) (fun _ => ?_) (fun _ => ?_)
  · refine x_aload_n C d_Md_faulty_7 0 rfl ?_
    refine x_iload_n C d_Md_faulty_8 1 rfl ?_
    refine x_bipush (v := (16 : Int32)) C d_Md_faulty_9 (by decide) ?_
    refine x_aload_n C d_Md_faulty_11 0 rfl ?_
    refine x_gd (fun h2 => ?_)
    refine x_getR (k := 5) (kv := 101) C (okO_iff.mp h1) rfl j11_ok (by decide) rfl (okO_iff.mp h2) (by decide) w1857 d_Md_faulty_12 ?_
    refine x_aload_n C d_Md_faulty_15 0 rfl ?_
    refine x_getI (k := 7) C (okO_iff.mp h1) rfl j11_ok (by decide) rfl w1859 d_Md_faulty_16 ?_
    refine x_gd (fun h3 => ?_)
    refine x_aldI C (okO_iff.mp h2) (inB_iff.mp h3) d_Md_faulty_19 ?_
    refine x_imul C d_Md_faulty_20 ?_
    refine x_iadd C d_Md_faulty_21 ?_
    refine x_putI (k := 8) C (okO_iff.mp h1) rfl j11_ok y11_ok n11_ok (by decide) rfl rfl rfl rfl w1860 d_Md_faulty_22 ?_
    refine x_letS (fun σ4 e5 => ?_)
    refine x_lv [] rfl ?_
    exact IH.2  (σ4)
  · refine x_lv [] rfl ?_
    exact IH.2  (σ)
set_option maxRecDepth 20000 in
theorem s_Md_faulty_1 {G : GX} {p : Program} {l : Launch} {e : Env} {s : State} {m : MethodId} {args : Array Value} {below : List Frame} {meth : Method} {c : Code} {z0 u0 n : Nat} (C : Cx G p s m args meth c prog_14_method_10_code 2 "BellPlateModel" ((none))) (IH : I_Md_faulty G p l e s m args below meth c z0 u0 n)  (σ : AM) : VX (QM eV G args s below z0 u0) G p l e s m args below meth c 0 z0 u0 2 (lpK (lpn F_Md_faulty n) (T_Md_faulty_1  σ)) 25 [] [] σ := by
  unfold T_Md_faulty_1
  exact x_vret C d_Md_faulty_25
theorem i_Md_faulty {G : GX} {p : Program} {l : Launch} {e : Env} {s : State} {m : MethodId} {args : Array Value} {below : List Frame} {meth : Method} {c : Code} {z0 u0 : Nat} (C : Cx G p s m args meth c prog_14_method_10_code 2 "BellPlateModel" ((none))) (n : Nat) : I_Md_faulty G p l e s m args below meth c z0 u0 n := by
  induction n with
  | zero => exact ⟨fun _ _ _ => x_none, fun _ => x_none⟩
  | succ n IH => exact ⟨fun v0R v1I σ => s_Md_faulty_0 C IH v0R v1I σ, fun σ => s_Md_faulty_1 C IH σ⟩
theorem c_Md_faulty (G : GX) (l : Launch) (v0R : Nat) (v1I : Int32) (σ : AM) : CT eV G l 0 y_Md_faulty prog_14_method_10_code 2 (none) [.ref v0R, .int v1I] σ (M_Md_faulty v0R v1I σ) := by
  refine ct_of (by decide +kernel) (Nat.le_of_ble_eq_true rfl) (fun p e s m args below meth c C hin => ?_)
  refine x_lve (lv' := [(0, .ref v0R), (1, .int v1I)]) rfl ?_
  intro r σ' h
  obtain ⟨n, hn⟩ := (lp_iff _ _ _).mp h
  exact (i_Md_faulty C n).1 v0R v1I σ r σ' hn
/-! BellPlateModel.isSign(I)Z -/
abbrev y_Md_isSign : MethodName := ⟨"BellPlateModel", "isSign", "(I)Z"⟩
theorem k_Md_isSign : y_Md_isSign.cls ≠ "java/lang/invoke/MethodHandle" ∧ y_Md_isSign.cls ≠ "java/lang/invoke/VarHandle" ∧ (parseMethodDescriptor y_Md_isSign.desc).map (fun d => d.parameters.length) = some 1 := by decide +kernel
theorem d_Md_isSign_0 : decode prog_14_method_11_code 0 = .ok (.aload_n 0, 1) := by decide +kernel
theorem d_Md_isSign_1 : decode prog_14_method_11_code 1 = .ok (.getfield 196, 3) := by decide +kernel
theorem d_Md_isSign_4 : decode prog_14_method_11_code 4 = .ok (.ifCond .ne 35, 3) := by decide +kernel
theorem d_Md_isSign_7 : decode prog_14_method_11_code 7 = .ok (.aload_n 0, 1) := by decide +kernel
theorem d_Md_isSign_8 : decode prog_14_method_11_code 8 = .ok (.getfield 24, 3) := by decide +kernel
theorem d_Md_isSign_11 : decode prog_14_method_11_code 11 = .ok (.aload_n 0, 1) := by decide +kernel
theorem d_Md_isSign_12 : decode prog_14_method_11_code 12 = .ok (.getfield 193, 3) := by decide +kernel
theorem d_Md_isSign_15 : decode prog_14_method_11_code 15 = .ok (.iaload, 1) := by decide +kernel
theorem d_Md_isSign_16 : decode prog_14_method_11_code 16 = .ok (.iconst 3, 1) := by decide +kernel
theorem d_Md_isSign_17 : decode prog_14_method_11_code 17 = .ok (.if_icmp .ne 22, 3) := by decide +kernel
theorem d_Md_isSign_20 : decode prog_14_method_11_code 20 = .ok (.aload_n 0, 1) := by decide +kernel
theorem d_Md_isSign_21 : decode prog_14_method_11_code 21 = .ok (.getfield 30, 3) := by decide +kernel
theorem d_Md_isSign_24 : decode prog_14_method_11_code 24 = .ok (.aload_n 0, 1) := by decide +kernel
theorem d_Md_isSign_25 : decode prog_14_method_11_code 25 = .ok (.getfield 193, 3) := by decide +kernel
theorem d_Md_isSign_28 : decode prog_14_method_11_code 28 = .ok (.laload, 1) := by decide +kernel
theorem d_Md_isSign_29 : decode prog_14_method_11_code 29 = .ok (.iload_n 1, 1) := by decide +kernel
theorem d_Md_isSign_30 : decode prog_14_method_11_code 30 = .ok (.i2l, 1) := by decide +kernel
theorem d_Md_isSign_31 : decode prog_14_method_11_code 31 = .ok (.lcmp, 1) := by decide +kernel
theorem d_Md_isSign_32 : decode prog_14_method_11_code 32 = .ok (.ifCond .ne 7, 3) := by decide +kernel
theorem d_Md_isSign_35 : decode prog_14_method_11_code 35 = .ok (.iconst 1, 1) := by decide +kernel
theorem d_Md_isSign_36 : decode prog_14_method_11_code 36 = .ok (.goto 4, 3) := by decide +kernel
theorem d_Md_isSign_39 : decode prog_14_method_11_code 39 = .ok (.iconst 0, 1) := by decide +kernel
theorem d_Md_isSign_40 : decode prog_14_method_11_code 40 = .ok (.ireturn, 1) := by decide +kernel
abbrev S_Md_isSign : Type := Nat × Nat × Int32 × Int32 × AM
noncomputable def T_Md_isSign_0 (v0R : Nat) (v1I : Int32) (σ : AM) : S_Md_isSign ⊕ Option (Int32 × AM) :=
  gdT (okO σ v0R 12) <| if (aI σ v0R 8) = 0 then (gdT (okO σ (aR σ v0R 4) 101) <| gdT (inB (aI σ v0R 7) (aN σ (aR σ v0R 4))) <| if (aI σ (aR σ v0R 4) (aI σ v0R 7).toNatClampNeg) = (3 : Int32) then (gdT (okO σ (aR σ v0R 6) 102) <| gdT (inB (aI σ v0R 7) (aN σ (aR σ v0R 6))) <| if (lg_cmp (aL σ (aR σ v0R 6) (aI σ v0R 7).toNatClampNeg) (v1I.toInt64)) = 0 then (.inl (2, 0, 0, (1 : Int32), σ)) else (.inl (1, 0, 0, 0, σ))) else (.inl (1, 0, 0, 0, σ))) else (.inl (1, 0, 0, 0, σ))
noncomputable def T_Md_isSign_1  (σ : AM) : S_Md_isSign ⊕ Option (Int32 × AM) :=
  .inl (2, 0, 0, (0 : Int32), σ)
noncomputable def T_Md_isSign_2 (s0I : Int32) (σ : AM) : S_Md_isSign ⊕ Option (Int32 × AM) :=
  gdT (isB s0I) <| .inr (some (s0I, σ))
noncomputable def F_Md_isSign : S_Md_isSign → S_Md_isSign ⊕ Option (Int32 × AM) := fun s => match s.1 with
  | 0 => T_Md_isSign_0 (s.2.1) (s.2.2.1) (s.2.2.2.2)
  | 1 => T_Md_isSign_1  (s.2.2.2.2)
  | _ => T_Md_isSign_2 (s.2.2.2.1) (s.2.2.2.2)
noncomputable def L_Md_isSign_0 (v0R : Nat) (v1I : Int32) (σ : AM) : Option (Int32 × AM) := lp F_Md_isSign (0, v0R, v1I, 0, σ)
noncomputable def L_Md_isSign_1  (σ : AM) : Option (Int32 × AM) := lp F_Md_isSign (1, 0, 0, 0, σ)
noncomputable def L_Md_isSign_2 (s0I : Int32) (σ : AM) : Option (Int32 × AM) := lp F_Md_isSign (2, 0, 0, s0I, σ)
set_option maxRecDepth 20000 in
theorem E_Md_isSign_0 (v0R : Nat) (v1I : Int32) (σ : AM) : L_Md_isSign_0 v0R v1I σ = (gd (okO σ v0R 12) <| if (aI σ v0R 8) = 0 then (gd (okO σ (aR σ v0R 4) 101) <| gd (inB (aI σ v0R 7) (aN σ (aR σ v0R 4))) <| if (aI σ (aR σ v0R 4) (aI σ v0R 7).toNatClampNeg) = (3 : Int32) then (gd (okO σ (aR σ v0R 6) 102) <| gd (inB (aI σ v0R 7) (aN σ (aR σ v0R 6))) <| if (lg_cmp (aL σ (aR σ v0R 6) (aI σ v0R 7).toNatClampNeg) (v1I.toInt64)) = 0 then (L_Md_isSign_2 ((1 : Int32)) σ) else (L_Md_isSign_1 σ)) else (L_Md_isSign_1 σ)) else (L_Md_isSign_1 σ)) := by
  unfold L_Md_isSign_0
  rw [lp_eq]
  show lpK (lp F_Md_isSign) (T_Md_isSign_0 v0R v1I σ) = _
  unfold T_Md_isSign_0
  simp only [lpK_ite, lq_inl, lq_inr, lpK_bnd, lpK_gd, lq_let]
  try rfl
set_option maxRecDepth 20000 in
theorem E_Md_isSign_1  (σ : AM) : L_Md_isSign_1  σ = (L_Md_isSign_2 ((0 : Int32)) σ) := by
  unfold L_Md_isSign_1
  rw [lp_eq]
  show lpK (lp F_Md_isSign) (T_Md_isSign_1  σ) = _
  unfold T_Md_isSign_1
  simp only [lpK_ite, lq_inl, lq_inr, lpK_bnd, lpK_gd, lq_let]
  try rfl
set_option maxRecDepth 20000 in
theorem E_Md_isSign_2 (s0I : Int32) (σ : AM) : L_Md_isSign_2 s0I σ = (gd (isB s0I) <| (some (s0I, σ))) := by
  unfold L_Md_isSign_2
  rw [lp_eq]
  show lpK (lp F_Md_isSign) (T_Md_isSign_2 s0I σ) = _
  unfold T_Md_isSign_2
  simp only [lpK_ite, lq_inl, lq_inr, lpK_bnd, lpK_gd, lq_let]
  try rfl
noncomputable def M_Md_isSign (v0R : Nat) (v1I : Int32) (σ : AM) : Option (Int32 × AM) := mw σ (L_Md_isSign_0 v0R v1I σ)
def I_Md_isSign (G : GX) (p : Program) (l : Launch) (e : Env) (s : State) (m : MethodId) (args : Array Value) (below : List Frame) (meth : Method) (c : Code) (z0 u0 n : Nat) : Prop :=
  (∀ (v0R : Nat) (v1I : Int32) (σ : AM), VX (QM eI G args s below z0 u0) G p l e s m args below meth c 0 z0 u0 2 (lpn F_Md_isSign n (0, v0R, v1I, 0, σ)) 0 [(0, .ref v0R), (1, .int v1I)] [] σ) ∧
  (∀ (σ : AM), VX (QM eI G args s below z0 u0) G p l e s m args below meth c 0 z0 u0 2 (lpn F_Md_isSign n (1, 0, 0, 0, σ)) 39 [] [] σ) ∧
  (∀ (s0I : Int32) (σ : AM), VX (QM eI G args s below z0 u0) G p l e s m args below meth c 0 z0 u0 2 (lpn F_Md_isSign n (2, 0, 0, s0I, σ)) 40 [] [.int s0I] σ)
set_option maxRecDepth 20000 in
theorem s_Md_isSign_0 {G : GX} {p : Program} {l : Launch} {e : Env} {s : State} {m : MethodId} {args : Array Value} {below : List Frame} {meth : Method} {c : Code} {z0 u0 n : Nat} (C : Cx G p s m args meth c prog_14_method_11_code 2 "BellPlateModel" ((some FieldType.boolean))) (IH : I_Md_isSign G p l e s m args below meth c z0 u0 n) (v0R : Nat) (v1I : Int32) (σ : AM) : VX (QM eI G args s below z0 u0) G p l e s m args below meth c 0 z0 u0 2 (lpK (lpn F_Md_isSign n) (T_Md_isSign_0 v0R v1I σ)) 0 [(0, .ref v0R), (1, .int v1I)] [] σ := by
  unfold T_Md_isSign_0
  refine x_aload_n C d_Md_isSign_0 0 rfl ?_
  refine x_gd (fun h1 => ?_)
  refine x_getI (k := 8) C (okO_iff.mp h1) rfl j11_ok (by decide) rfl w1860 d_Md_isSign_1 ?_
  refine x_if_ne (tgt := 39) C d_Md_isSign_4 (by decide) (fun _ => ?_) (fun _ => ?_)
  · refine x_aload_n C d_Md_isSign_7 0 rfl ?_
    refine x_gd (fun h2 => ?_)
    refine x_getR (k := 4) (kv := 101) C (okO_iff.mp h1) rfl j11_ok (by decide) rfl (okO_iff.mp h2) (by decide) w1856 d_Md_isSign_8 ?_
    refine x_aload_n C d_Md_isSign_11 0 rfl ?_
    refine x_getI (k := 7) C (okO_iff.mp h1) rfl j11_ok (by decide) rfl w1859 d_Md_isSign_12 ?_
    refine x_gd (fun h3 => ?_)
    refine x_aldI C (okO_iff.mp h2) (inB_iff.mp h3) d_Md_isSign_15 ?_
    refine x_iconst (v := (3 : Int32)) C d_Md_isSign_16 (by decide) ?_
    refine x_icmp_ne (tgt := 39) C d_Md_isSign_17 (by decide) (fun _ => ?_) (fun _ => ?_)
    · refine x_aload_n C d_Md_isSign_20 0 rfl ?_
      refine x_gd (fun h4 => ?_)
      refine x_getR (k := 6) (kv := 102) C (okO_iff.mp h1) rfl j11_ok (by decide) rfl (okO_iff.mp h4) (by decide) w1858 d_Md_isSign_21 ?_
      refine x_aload_n C d_Md_isSign_24 0 rfl ?_
      refine x_getI (k := 7) C (okO_iff.mp h1) rfl j11_ok (by decide) rfl w1859 d_Md_isSign_25 ?_
      refine x_gd (fun h5 => ?_)
      refine x_aldJ C (okO_iff.mp h4) (inB_iff.mp h5) d_Md_isSign_28 ?_
      refine x_iload_n C d_Md_isSign_29 1 rfl ?_
      refine x_i2l C d_Md_isSign_30 ?_
      refine x_lcmp C d_Md_isSign_31 ?_
      refine x_if_ne (tgt := 39) C d_Md_isSign_32 (by decide) (fun _ => ?_) (fun _ => ?_)
      · refine x_iconst (v := (1 : Int32)) C d_Md_isSign_35 (by decide) ?_
        refine x_goto (tgt := 40) C d_Md_isSign_36 (by decide) ?_
        refine x_lv [] rfl ?_
        exact IH.2.2 ((1 : Int32)) (σ)
      · refine x_lv [] rfl ?_
        exact IH.2.1  (σ)
    · refine x_lv [] rfl ?_
      exact IH.2.1  (σ)
  · refine x_lv [] rfl ?_
    exact IH.2.1  (σ)
set_option maxRecDepth 20000 in
theorem s_Md_isSign_1 {G : GX} {p : Program} {l : Launch} {e : Env} {s : State} {m : MethodId} {args : Array Value} {below : List Frame} {meth : Method} {c : Code} {z0 u0 n : Nat} (C : Cx G p s m args meth c prog_14_method_11_code 2 "BellPlateModel" ((some FieldType.boolean))) (IH : I_Md_isSign G p l e s m args below meth c z0 u0 n)  (σ : AM) : VX (QM eI G args s below z0 u0) G p l e s m args below meth c 0 z0 u0 2 (lpK (lpn F_Md_isSign n) (T_Md_isSign_1  σ)) 39 [] [] σ := by
  unfold T_Md_isSign_1
  refine x_iconst (v := (0 : Int32)) C d_Md_isSign_39 (by decide) ?_
  exact IH.2.2 ((0 : Int32)) (σ)
set_option maxRecDepth 20000 in
theorem s_Md_isSign_2 {G : GX} {p : Program} {l : Launch} {e : Env} {s : State} {m : MethodId} {args : Array Value} {below : List Frame} {meth : Method} {c : Code} {z0 u0 n : Nat} (C : Cx G p s m args meth c prog_14_method_11_code 2 "BellPlateModel" ((some FieldType.boolean))) (IH : I_Md_isSign G p l e s m args below meth c z0 u0 n) (s0I : Int32) (σ : AM) : VX (QM eI G args s below z0 u0) G p l e s m args below meth c 0 z0 u0 2 (lpK (lpn F_Md_isSign n) (T_Md_isSign_2 s0I σ)) 40 [] [.int s0I] σ := by
  unfold T_Md_isSign_2
  refine x_gd (fun h1 => ?_)
  exact x_zret C (isB_narrow h1) d_Md_isSign_40
theorem i_Md_isSign {G : GX} {p : Program} {l : Launch} {e : Env} {s : State} {m : MethodId} {args : Array Value} {below : List Frame} {meth : Method} {c : Code} {z0 u0 : Nat} (C : Cx G p s m args meth c prog_14_method_11_code 2 "BellPlateModel" ((some FieldType.boolean))) (n : Nat) : I_Md_isSign G p l e s m args below meth c z0 u0 n := by
  induction n with
  | zero => exact ⟨fun _ _ _ => x_none, fun _ => x_none, fun _ _ => x_none⟩
  | succ n IH => exact ⟨fun v0R v1I σ => s_Md_isSign_0 C IH v0R v1I σ, fun σ => s_Md_isSign_1 C IH σ, fun s0I σ => s_Md_isSign_2 C IH s0I σ⟩
theorem c_Md_isSign (G : GX) (l : Launch) (v0R : Nat) (v1I : Int32) (σ : AM) : CT eI G l 0 y_Md_isSign prog_14_method_11_code 2 ((some FieldType.boolean)) [.ref v0R, .int v1I] σ (M_Md_isSign v0R v1I σ) := by
  refine ct_of (by decide +kernel) (Nat.le_of_ble_eq_true rfl) (fun p e s m args below meth c C hin => ?_)
  refine x_lve (lv' := [(0, .ref v0R), (1, .int v1I)]) rfl ?_
  intro r σ' h
  obtain ⟨n, hn⟩ := (lp_iff _ _ _).mp h
  exact (i_Md_isSign C n).1 v0R v1I σ r σ' hn
/-! BellPlateModel.isWord(I)Z -/
abbrev y_Md_isWord : MethodName := ⟨"BellPlateModel", "isWord", "(I)Z"⟩
theorem k_Md_isWord : y_Md_isWord.cls ≠ "java/lang/invoke/MethodHandle" ∧ y_Md_isWord.cls ≠ "java/lang/invoke/VarHandle" ∧ (parseMethodDescriptor y_Md_isWord.desc).map (fun d => d.parameters.length) = some 1 := by decide +kernel
theorem d_Md_isWord_0 : decode prog_14_method_12_code 0 = .ok (.aload_n 0, 1) := by decide +kernel
theorem d_Md_isWord_1 : decode prog_14_method_12_code 1 = .ok (.getfield 196, 3) := by decide +kernel
theorem d_Md_isWord_4 : decode prog_14_method_12_code 4 = .ok (.ifCond .ne 39, 3) := by decide +kernel
theorem d_Md_isWord_7 : decode prog_14_method_12_code 7 = .ok (.aload_n 0, 1) := by decide +kernel
theorem d_Md_isWord_8 : decode prog_14_method_12_code 8 = .ok (.getfield 24, 3) := by decide +kernel
theorem d_Md_isWord_11 : decode prog_14_method_12_code 11 = .ok (.aload_n 0, 1) := by decide +kernel
theorem d_Md_isWord_12 : decode prog_14_method_12_code 12 = .ok (.getfield 193, 3) := by decide +kernel
theorem d_Md_isWord_15 : decode prog_14_method_12_code 15 = .ok (.iaload, 1) := by decide +kernel
theorem d_Md_isWord_16 : decode prog_14_method_12_code 16 = .ok (.iconst 1, 1) := by decide +kernel
theorem d_Md_isWord_17 : decode prog_14_method_12_code 17 = .ok (.if_icmp .ne 26, 3) := by decide +kernel
theorem d_Md_isWord_20 : decode prog_14_method_12_code 20 = .ok (.aload_n 0, 1) := by decide +kernel
theorem d_Md_isWord_21 : decode prog_14_method_12_code 21 = .ok (.getfield 30, 3) := by decide +kernel
theorem d_Md_isWord_24 : decode prog_14_method_12_code 24 = .ok (.aload_n 0, 1) := by decide +kernel
theorem d_Md_isWord_25 : decode prog_14_method_12_code 25 = .ok (.getfield 193, 3) := by decide +kernel
theorem d_Md_isWord_28 : decode prog_14_method_12_code 28 = .ok (.laload, 1) := by decide +kernel
theorem d_Md_isWord_29 : decode prog_14_method_12_code 29 = .ok (.aload_n 0, 1) := by decide +kernel
theorem d_Md_isWord_30 : decode prog_14_method_12_code 30 = .ok (.getfield 54, 3) := by decide +kernel
theorem d_Md_isWord_33 : decode prog_14_method_12_code 33 = .ok (.iload_n 1, 1) := by decide +kernel
theorem d_Md_isWord_34 : decode prog_14_method_12_code 34 = .ok (.laload, 1) := by decide +kernel
theorem d_Md_isWord_35 : decode prog_14_method_12_code 35 = .ok (.lcmp, 1) := by decide +kernel
theorem d_Md_isWord_36 : decode prog_14_method_12_code 36 = .ok (.ifCond .ne 7, 3) := by decide +kernel
theorem d_Md_isWord_39 : decode prog_14_method_12_code 39 = .ok (.iconst 1, 1) := by decide +kernel
theorem d_Md_isWord_40 : decode prog_14_method_12_code 40 = .ok (.goto 4, 3) := by decide +kernel
theorem d_Md_isWord_43 : decode prog_14_method_12_code 43 = .ok (.iconst 0, 1) := by decide +kernel
theorem d_Md_isWord_44 : decode prog_14_method_12_code 44 = .ok (.ireturn, 1) := by decide +kernel
abbrev S_Md_isWord : Type := Nat × Nat × Int32 × Int32 × AM
noncomputable def T_Md_isWord_0 (v0R : Nat) (v1I : Int32) (σ : AM) : S_Md_isWord ⊕ Option (Int32 × AM) :=
  gdT (okO σ v0R 12) <| if (aI σ v0R 8) = 0 then (gdT (okO σ (aR σ v0R 4) 101) <| gdT (inB (aI σ v0R 7) (aN σ (aR σ v0R 4))) <| if (aI σ (aR σ v0R 4) (aI σ v0R 7).toNatClampNeg) = (1 : Int32) then (gdT (okO σ (aR σ v0R 6) 102) <| gdT (inB (aI σ v0R 7) (aN σ (aR σ v0R 6))) <| gdT (okO σ (aR σ v0R 9) 102) <| gdT (inB v1I (aN σ (aR σ v0R 9))) <| if (lg_cmp (aL σ (aR σ v0R 6) (aI σ v0R 7).toNatClampNeg) (aL σ (aR σ v0R 9) v1I.toNatClampNeg)) = 0 then (.inl (2, 0, 0, (1 : Int32), σ)) else (.inl (1, 0, 0, 0, σ))) else (.inl (1, 0, 0, 0, σ))) else (.inl (1, 0, 0, 0, σ))
noncomputable def T_Md_isWord_1  (σ : AM) : S_Md_isWord ⊕ Option (Int32 × AM) :=
  .inl (2, 0, 0, (0 : Int32), σ)
noncomputable def T_Md_isWord_2 (s0I : Int32) (σ : AM) : S_Md_isWord ⊕ Option (Int32 × AM) :=
  gdT (isB s0I) <| .inr (some (s0I, σ))
noncomputable def F_Md_isWord : S_Md_isWord → S_Md_isWord ⊕ Option (Int32 × AM) := fun s => match s.1 with
  | 0 => T_Md_isWord_0 (s.2.1) (s.2.2.1) (s.2.2.2.2)
  | 1 => T_Md_isWord_1  (s.2.2.2.2)
  | _ => T_Md_isWord_2 (s.2.2.2.1) (s.2.2.2.2)
noncomputable def L_Md_isWord_0 (v0R : Nat) (v1I : Int32) (σ : AM) : Option (Int32 × AM) := lp F_Md_isWord (0, v0R, v1I, 0, σ)
noncomputable def L_Md_isWord_1  (σ : AM) : Option (Int32 × AM) := lp F_Md_isWord (1, 0, 0, 0, σ)
noncomputable def L_Md_isWord_2 (s0I : Int32) (σ : AM) : Option (Int32 × AM) := lp F_Md_isWord (2, 0, 0, s0I, σ)
set_option maxRecDepth 20000 in
theorem E_Md_isWord_0 (v0R : Nat) (v1I : Int32) (σ : AM) : L_Md_isWord_0 v0R v1I σ = (gd (okO σ v0R 12) <| if (aI σ v0R 8) = 0 then (gd (okO σ (aR σ v0R 4) 101) <| gd (inB (aI σ v0R 7) (aN σ (aR σ v0R 4))) <| if (aI σ (aR σ v0R 4) (aI σ v0R 7).toNatClampNeg) = (1 : Int32) then (gd (okO σ (aR σ v0R 6) 102) <| gd (inB (aI σ v0R 7) (aN σ (aR σ v0R 6))) <| gd (okO σ (aR σ v0R 9) 102) <| gd (inB v1I (aN σ (aR σ v0R 9))) <| if (lg_cmp (aL σ (aR σ v0R 6) (aI σ v0R 7).toNatClampNeg) (aL σ (aR σ v0R 9) v1I.toNatClampNeg)) = 0 then (L_Md_isWord_2 ((1 : Int32)) σ) else (L_Md_isWord_1 σ)) else (L_Md_isWord_1 σ)) else (L_Md_isWord_1 σ)) := by
  unfold L_Md_isWord_0
  rw [lp_eq]
  show lpK (lp F_Md_isWord) (T_Md_isWord_0 v0R v1I σ) = _
  unfold T_Md_isWord_0
  simp only [lpK_ite, lq_inl, lq_inr, lpK_bnd, lpK_gd, lq_let]
  try rfl
set_option maxRecDepth 20000 in
theorem E_Md_isWord_1  (σ : AM) : L_Md_isWord_1  σ = (L_Md_isWord_2 ((0 : Int32)) σ) := by
  unfold L_Md_isWord_1
  rw [lp_eq]
  show lpK (lp F_Md_isWord) (T_Md_isWord_1  σ) = _
  unfold T_Md_isWord_1
  simp only [lpK_ite, lq_inl, lq_inr, lpK_bnd, lpK_gd, lq_let]
  try rfl
set_option maxRecDepth 20000 in
theorem E_Md_isWord_2 (s0I : Int32) (σ : AM) : L_Md_isWord_2 s0I σ = (gd (isB s0I) <| (some (s0I, σ))) := by
  unfold L_Md_isWord_2
  rw [lp_eq]
  show lpK (lp F_Md_isWord) (T_Md_isWord_2 s0I σ) = _
  unfold T_Md_isWord_2
  simp only [lpK_ite, lq_inl, lq_inr, lpK_bnd, lpK_gd, lq_let]
  try rfl
noncomputable def M_Md_isWord (v0R : Nat) (v1I : Int32) (σ : AM) : Option (Int32 × AM) := mw σ (L_Md_isWord_0 v0R v1I σ)
def I_Md_isWord (G : GX) (p : Program) (l : Launch) (e : Env) (s : State) (m : MethodId) (args : Array Value) (below : List Frame) (meth : Method) (c : Code) (z0 u0 n : Nat) : Prop :=
  (∀ (v0R : Nat) (v1I : Int32) (σ : AM), VX (QM eI G args s below z0 u0) G p l e s m args below meth c 0 z0 u0 2 (lpn F_Md_isWord n (0, v0R, v1I, 0, σ)) 0 [(0, .ref v0R), (1, .int v1I)] [] σ) ∧
  (∀ (σ : AM), VX (QM eI G args s below z0 u0) G p l e s m args below meth c 0 z0 u0 2 (lpn F_Md_isWord n (1, 0, 0, 0, σ)) 43 [] [] σ) ∧
  (∀ (s0I : Int32) (σ : AM), VX (QM eI G args s below z0 u0) G p l e s m args below meth c 0 z0 u0 2 (lpn F_Md_isWord n (2, 0, 0, s0I, σ)) 44 [] [.int s0I] σ)
set_option maxRecDepth 20000 in
theorem s_Md_isWord_0 {G : GX} {p : Program} {l : Launch} {e : Env} {s : State} {m : MethodId} {args : Array Value} {below : List Frame} {meth : Method} {c : Code} {z0 u0 n : Nat} (C : Cx G p s m args meth c prog_14_method_12_code 2 "BellPlateModel" ((some FieldType.boolean))) (IH : I_Md_isWord G p l e s m args below meth c z0 u0 n) (v0R : Nat) (v1I : Int32) (σ : AM) : VX (QM eI G args s below z0 u0) G p l e s m args below meth c 0 z0 u0 2 (lpK (lpn F_Md_isWord n) (T_Md_isWord_0 v0R v1I σ)) 0 [(0, .ref v0R), (1, .int v1I)] [] σ := by
  unfold T_Md_isWord_0
  refine x_aload_n C d_Md_isWord_0 0 rfl ?_
  refine x_gd (fun h1 => ?_)
  refine x_getI (k := 8) C (okO_iff.mp h1) rfl j11_ok (by decide) rfl w1860 d_Md_isWord_1 ?_
  refine x_if_ne (tgt := 43) C d_Md_isWord_4 (by decide) (fun _ => ?_) (fun _ => ?_)
  · refine x_aload_n C d_Md_isWord_7 0 rfl ?_
    refine x_gd (fun h2 => ?_)
    refine x_getR (k := 4) (kv := 101) C (okO_iff.mp h1) rfl j11_ok (by decide) rfl (okO_iff.mp h2) (by decide) w1856 d_Md_isWord_8 ?_
    refine x_aload_n C d_Md_isWord_11 0 rfl ?_
    refine x_getI (k := 7) C (okO_iff.mp h1) rfl j11_ok (by decide) rfl w1859 d_Md_isWord_12 ?_
    refine x_gd (fun h3 => ?_)
    refine x_aldI C (okO_iff.mp h2) (inB_iff.mp h3) d_Md_isWord_15 ?_
    refine x_iconst (v := (1 : Int32)) C d_Md_isWord_16 (by decide) ?_
    refine x_icmp_ne (tgt := 43) C d_Md_isWord_17 (by decide) (fun _ => ?_) (fun _ => ?_)
    · refine x_aload_n C d_Md_isWord_20 0 rfl ?_
      refine x_gd (fun h4 => ?_)
      refine x_getR (k := 6) (kv := 102) C (okO_iff.mp h1) rfl j11_ok (by decide) rfl (okO_iff.mp h4) (by decide) w1858 d_Md_isWord_21 ?_
      refine x_aload_n C d_Md_isWord_24 0 rfl ?_
      refine x_getI (k := 7) C (okO_iff.mp h1) rfl j11_ok (by decide) rfl w1859 d_Md_isWord_25 ?_
      refine x_gd (fun h5 => ?_)
      refine x_aldJ C (okO_iff.mp h4) (inB_iff.mp h5) d_Md_isWord_28 ?_
      refine x_aload_n C d_Md_isWord_29 0 rfl ?_
      refine x_gd (fun h6 => ?_)
      refine x_getR (k := 9) (kv := 102) C (okO_iff.mp h1) rfl j11_ok (by decide) rfl (okO_iff.mp h6) (by decide) w1861 d_Md_isWord_30 ?_
      refine x_iload_n C d_Md_isWord_33 1 rfl ?_
      refine x_gd (fun h7 => ?_)
      refine x_aldJ C (okO_iff.mp h6) (inB_iff.mp h7) d_Md_isWord_34 ?_
      refine x_lcmp C d_Md_isWord_35 ?_
      refine x_if_ne (tgt := 43) C d_Md_isWord_36 (by decide) (fun _ => ?_) (fun _ => ?_)
      · refine x_iconst (v := (1 : Int32)) C d_Md_isWord_39 (by decide) ?_
        refine x_goto (tgt := 44) C d_Md_isWord_40 (by decide) ?_
        refine x_lv [] rfl ?_
        exact IH.2.2 ((1 : Int32)) (σ)
      · refine x_lv [] rfl ?_
        exact IH.2.1  (σ)
    · refine x_lv [] rfl ?_
      exact IH.2.1  (σ)
  · refine x_lv [] rfl ?_
    exact IH.2.1  (σ)
set_option maxRecDepth 20000 in
theorem s_Md_isWord_1 {G : GX} {p : Program} {l : Launch} {e : Env} {s : State} {m : MethodId} {args : Array Value} {below : List Frame} {meth : Method} {c : Code} {z0 u0 n : Nat} (C : Cx G p s m args meth c prog_14_method_12_code 2 "BellPlateModel" ((some FieldType.boolean))) (IH : I_Md_isWord G p l e s m args below meth c z0 u0 n)  (σ : AM) : VX (QM eI G args s below z0 u0) G p l e s m args below meth c 0 z0 u0 2 (lpK (lpn F_Md_isWord n) (T_Md_isWord_1  σ)) 43 [] [] σ := by
  unfold T_Md_isWord_1
  refine x_iconst (v := (0 : Int32)) C d_Md_isWord_43 (by decide) ?_
  exact IH.2.2 ((0 : Int32)) (σ)
set_option maxRecDepth 20000 in
theorem s_Md_isWord_2 {G : GX} {p : Program} {l : Launch} {e : Env} {s : State} {m : MethodId} {args : Array Value} {below : List Frame} {meth : Method} {c : Code} {z0 u0 n : Nat} (C : Cx G p s m args meth c prog_14_method_12_code 2 "BellPlateModel" ((some FieldType.boolean))) (IH : I_Md_isWord G p l e s m args below meth c z0 u0 n) (s0I : Int32) (σ : AM) : VX (QM eI G args s below z0 u0) G p l e s m args below meth c 0 z0 u0 2 (lpK (lpn F_Md_isWord n) (T_Md_isWord_2 s0I σ)) 44 [] [.int s0I] σ := by
  unfold T_Md_isWord_2
  refine x_gd (fun h1 => ?_)
  exact x_zret C (isB_narrow h1) d_Md_isWord_44
theorem i_Md_isWord {G : GX} {p : Program} {l : Launch} {e : Env} {s : State} {m : MethodId} {args : Array Value} {below : List Frame} {meth : Method} {c : Code} {z0 u0 : Nat} (C : Cx G p s m args meth c prog_14_method_12_code 2 "BellPlateModel" ((some FieldType.boolean))) (n : Nat) : I_Md_isWord G p l e s m args below meth c z0 u0 n := by
  induction n with
  | zero => exact ⟨fun _ _ _ => x_none, fun _ => x_none, fun _ _ => x_none⟩
  | succ n IH => exact ⟨fun v0R v1I σ => s_Md_isWord_0 C IH v0R v1I σ, fun σ => s_Md_isWord_1 C IH σ, fun s0I σ => s_Md_isWord_2 C IH s0I σ⟩
theorem c_Md_isWord (G : GX) (l : Launch) (v0R : Nat) (v1I : Int32) (σ : AM) : CT eI G l 0 y_Md_isWord prog_14_method_12_code 2 ((some FieldType.boolean)) [.ref v0R, .int v1I] σ (M_Md_isWord v0R v1I σ) := by
  refine ct_of (by decide +kernel) (Nat.le_of_ble_eq_true rfl) (fun p e s m args below meth c C hin => ?_)
  refine x_lve (lv' := [(0, .ref v0R), (1, .int v1I)]) rfl ?_
  intro r σ' h
  obtain ⟨n, hn⟩ := (lp_iff _ _ _).mp h
  exact (i_Md_isWord C n).1 v0R v1I σ r σ' hn
/-! BellPlateModel.takeSign(I)V -/
abbrev y_Md_takeSign : MethodName := ⟨"BellPlateModel", "takeSign", "(I)V"⟩
theorem k_Md_takeSign : y_Md_takeSign.cls ≠ "java/lang/invoke/MethodHandle" ∧ y_Md_takeSign.cls ≠ "java/lang/invoke/VarHandle" ∧ (parseMethodDescriptor y_Md_takeSign.desc).map (fun d => d.parameters.length) = some 1 := by decide +kernel
theorem d_Md_takeSign_0 : decode prog_14_method_13_code 0 = .ok (.aload_n 0, 1) := by decide +kernel
theorem d_Md_takeSign_1 : decode prog_14_method_13_code 1 = .ok (.iload_n 1, 1) := by decide +kernel
theorem d_Md_takeSign_2 : decode prog_14_method_13_code 2 = .ok (.invokevirtual 199, 3) := by decide +kernel
theorem d_Md_takeSign_5 : decode prog_14_method_13_code 5 = .ok (.ifCond .eq 16, 3) := by decide +kernel
theorem d_Md_takeSign_8 : decode prog_14_method_13_code 8 = .ok (.aload_n 0, 1) := by decide +kernel
theorem d_Md_takeSign_9 : decode prog_14_method_13_code 9 = .ok (.dup, 1) := by decide +kernel
theorem d_Md_takeSign_10 : decode prog_14_method_13_code 10 = .ok (.getfield 193, 3) := by decide +kernel
theorem d_Md_takeSign_13 : decode prog_14_method_13_code 13 = .ok (.iconst 1, 1) := by decide +kernel
theorem d_Md_takeSign_14 : decode prog_14_method_13_code 14 = .ok (.iadd, 1) := by decide +kernel
theorem d_Md_takeSign_15 : decode prog_14_method_13_code 15 = .ok (.putfield 193, 3) := by decide +kernel
theorem d_Md_takeSign_18 : decode prog_14_method_13_code 18 = .ok (.goto 8, 3) := by decide +kernel
theorem d_Md_takeSign_21 : decode prog_14_method_13_code 21 = .ok (.aload_n 0, 1) := by decide +kernel
theorem d_Md_takeSign_22 : decode prog_14_method_13_code 22 = .ok (.iconst 1, 1) := by decide +kernel
theorem d_Md_takeSign_23 : decode prog_14_method_13_code 23 = .ok (.invokevirtual 202, 3) := by decide +kernel
theorem d_Md_takeSign_26 : decode prog_14_method_13_code 26 = .ok (.return_, 1) := by decide +kernel
abbrev S_Md_takeSign : Type := Nat × Nat × Int32 × AM
noncomputable def T_Md_takeSign_0 (v0R : Nat) (v1I : Int32) (σ : AM) : S_Md_takeSign ⊕ Option (Unit × AM) :=
  gdT (okO σ v0R 12) <| bndT (M_Md_isSign v0R v1I σ) fun r1 σ2 => if r1 = 0 then (gdT (okO σ2 v0R 12) <| bndT (M_Md_faulty v0R (1 : Int32) σ2) fun _ σ5 => .inl (1, 0, 0, σ5)) else (gdT (okO σ2 v0R 12) <| letT (sI σ2 v0R 7 ((aI σ2 v0R 7) + (1 : Int32))) fun σ8 => .inl (1, 0, 0, σ8))
noncomputable def T_Md_takeSign_1  (σ : AM) : S_Md_takeSign ⊕ Option (Unit × AM) :=
  .inr (some ((), σ))
noncomputable def F_Md_takeSign : S_Md_takeSign → S_Md_takeSign ⊕ Option (Unit × AM) := fun s => match s.1 with
  | 0 => T_Md_takeSign_0 (s.2.1) (s.2.2.1) (s.2.2.2)
  | _ => T_Md_takeSign_1  (s.2.2.2)
noncomputable def L_Md_takeSign_0 (v0R : Nat) (v1I : Int32) (σ : AM) : Option (Unit × AM) := lp F_Md_takeSign (0, v0R, v1I, σ)
noncomputable def L_Md_takeSign_1  (σ : AM) : Option (Unit × AM) := lp F_Md_takeSign (1, 0, 0, σ)
set_option maxRecDepth 20000 in
theorem E_Md_takeSign_0 (v0R : Nat) (v1I : Int32) (σ : AM) : L_Md_takeSign_0 v0R v1I σ = (gd (okO σ v0R 12) <| bnd (M_Md_isSign v0R v1I σ) fun r1 σ2 => if r1 = 0 then (gd (okO σ2 v0R 12) <| bnd (M_Md_faulty v0R (1 : Int32) σ2) fun _ σ5 => L_Md_takeSign_1 σ5) else (gd (okO σ2 v0R 12) <| letT (sI σ2 v0R 7 ((aI σ2 v0R 7) + (1 : Int32))) fun σ8 => L_Md_takeSign_1 σ8)) := by
  unfold L_Md_takeSign_0
  rw [lp_eq]
  show lpK (lp F_Md_takeSign) (T_Md_takeSign_0 v0R v1I σ) = _
  unfold T_Md_takeSign_0
  simp only [lpK_ite, lq_inl, lq_inr, lpK_bnd, lpK_gd, lq_let]
  try rfl
set_option maxRecDepth 20000 in
theorem E_Md_takeSign_1  (σ : AM) : L_Md_takeSign_1  σ = ((some ((), σ))) := by
  unfold L_Md_takeSign_1
  rw [lp_eq]
  show lpK (lp F_Md_takeSign) (T_Md_takeSign_1  σ) = _
  unfold T_Md_takeSign_1
  simp only [lpK_ite, lq_inl, lq_inr, lpK_bnd, lpK_gd, lq_let]
  try rfl
noncomputable def M_Md_takeSign (v0R : Nat) (v1I : Int32) (σ : AM) : Option (Unit × AM) := mw σ (L_Md_takeSign_0 v0R v1I σ)
def I_Md_takeSign (G : GX) (p : Program) (l : Launch) (e : Env) (s : State) (m : MethodId) (args : Array Value) (below : List Frame) (meth : Method) (c : Code) (z0 u0 n : Nat) : Prop :=
  (∀ (v0R : Nat) (v1I : Int32) (σ : AM), VX (QM eV G args s below z0 u0) G p l e s m args below meth c 1 z0 u0 2 (lpn F_Md_takeSign n (0, v0R, v1I, σ)) 0 [(0, .ref v0R), (1, .int v1I)] [] σ) ∧
  (∀ (σ : AM), VX (QM eV G args s below z0 u0) G p l e s m args below meth c 1 z0 u0 2 (lpn F_Md_takeSign n (1, 0, 0, σ)) 26 [] [] σ)
set_option maxRecDepth 20000 in
theorem s_Md_takeSign_0 {G : GX} {p : Program} {l : Launch} {e : Env} {s : State} {m : MethodId} {args : Array Value} {below : List Frame} {meth : Method} {c : Code} {z0 u0 n : Nat} (C : Cx G p s m args meth c prog_14_method_13_code 2 "BellPlateModel" ((none))) (IH : I_Md_takeSign G p l e s m args below meth c z0 u0 n) (v0R : Nat) (v1I : Int32) (σ : AM) : VX (QM eV G args s below z0 u0) G p l e s m args below meth c 1 z0 u0 2 (lpK (lpn F_Md_takeSign n) (T_Md_takeSign_0 v0R v1I σ)) 0 [(0, .ref v0R), (1, .int v1I)] [] σ := by
  unfold T_Md_takeSign_0
  refine x_aload_n C d_Md_takeSign_0 0 rfl ?_
  refine x_iload_n C d_Md_takeSign_1 1 rfl ?_
  refine x_gd (fun h3 => ?_)
  refine x_callVI (As := [.int v1I]) C (c_Md_isSign G l v0R v1I σ) (okO_iff.mp h3) rfl w2154 w77 w2152 w2155 w134 k_Md_isSign rfl (by decide) (by decide) rfl (Nat.le_of_ble_eq_true rfl) d_Md_takeSign_2 (fun r1 σ2 => ?_)
  refine x_if_eq (tgt := 21) C d_Md_takeSign_5 (by decide) (fun _ => ?_) (fun _ => ?_)
  · refine x_aload_n C d_Md_takeSign_21 0 rfl ?_
    refine x_iconst (v := (1 : Int32)) C d_Md_takeSign_22 (by decide) ?_
    refine x_gd (fun h6 => ?_)
    refine x_callVV (As := [.int (1 : Int32)]) C (c_Md_faulty G l v0R (1 : Int32) σ2) (okO_iff.mp h6) rfl w2114 w67 w2112 w2115 w134 k_Md_faulty rfl (by decide) (by decide) rfl (Nat.le_of_ble_eq_true rfl) d_Md_takeSign_23 (fun r4 σ5 => ?_)
    refine x_lv [] rfl ?_
    exact IH.2  (σ5)
  · refine x_aload_n C d_Md_takeSign_8 0 rfl ?_
    refine x_dup C d_Md_takeSign_9 rfl ?_
    refine x_gd (fun h7 => ?_)
    refine x_getI (k := 7) C (okO_iff.mp h7) rfl j11_ok (by decide) rfl w1859 d_Md_takeSign_10 ?_
    refine x_iconst (v := (1 : Int32)) C d_Md_takeSign_13 (by decide) ?_
    refine x_iadd C d_Md_takeSign_14 ?_
    refine x_putI (k := 7) C (okO_iff.mp h7) rfl j11_ok y11_ok n11_ok (by decide) rfl rfl rfl rfl w1859 d_Md_takeSign_15 ?_
    refine x_letS (fun σ8 e9 => ?_)
    refine x_goto (tgt := 26) C d_Md_takeSign_18 (by decide) ?_
    refine x_lv [] rfl ?_
    exact IH.2  (σ8)
set_option maxRecDepth 20000 in
theorem s_Md_takeSign_1 {G : GX} {p : Program} {l : Launch} {e : Env} {s : State} {m : MethodId} {args : Array Value} {below : List Frame} {meth : Method} {c : Code} {z0 u0 n : Nat} (C : Cx G p s m args meth c prog_14_method_13_code 2 "BellPlateModel" ((none))) (IH : I_Md_takeSign G p l e s m args below meth c z0 u0 n)  (σ : AM) : VX (QM eV G args s below z0 u0) G p l e s m args below meth c 1 z0 u0 2 (lpK (lpn F_Md_takeSign n) (T_Md_takeSign_1  σ)) 26 [] [] σ := by
  unfold T_Md_takeSign_1
  exact x_vret C d_Md_takeSign_26
theorem i_Md_takeSign {G : GX} {p : Program} {l : Launch} {e : Env} {s : State} {m : MethodId} {args : Array Value} {below : List Frame} {meth : Method} {c : Code} {z0 u0 : Nat} (C : Cx G p s m args meth c prog_14_method_13_code 2 "BellPlateModel" ((none))) (n : Nat) : I_Md_takeSign G p l e s m args below meth c z0 u0 n := by
  induction n with
  | zero => exact ⟨fun _ _ _ => x_none, fun _ => x_none⟩
  | succ n IH => exact ⟨fun v0R v1I σ => s_Md_takeSign_0 C IH v0R v1I σ, fun σ => s_Md_takeSign_1 C IH σ⟩
theorem c_Md_takeSign (G : GX) (l : Launch) (v0R : Nat) (v1I : Int32) (σ : AM) : CT eV G l 1 y_Md_takeSign prog_14_method_13_code 2 (none) [.ref v0R, .int v1I] σ (M_Md_takeSign v0R v1I σ) := by
  refine ct_of (by decide +kernel) (Nat.le_of_ble_eq_true rfl) (fun p e s m args below meth c C hin => ?_)
  refine x_lve (lv' := [(0, .ref v0R), (1, .int v1I)]) rfl ?_
  intro r σ' h
  obtain ⟨n, hn⟩ := (lp_iff _ _ _).mp h
  exact (i_Md_takeSign C n).1 v0R v1I σ r σ' hn
/-! BellPlateModel.hasSign(I)Z -/
abbrev y_Md_hasSign : MethodName := ⟨"BellPlateModel", "hasSign", "(I)Z"⟩
theorem k_Md_hasSign : y_Md_hasSign.cls ≠ "java/lang/invoke/MethodHandle" ∧ y_Md_hasSign.cls ≠ "java/lang/invoke/VarHandle" ∧ (parseMethodDescriptor y_Md_hasSign.desc).map (fun d => d.parameters.length) = some 1 := by decide +kernel
theorem d_Md_hasSign_0 : decode prog_14_method_14_code 0 = .ok (.aload_n 0, 1) := by decide +kernel
theorem d_Md_hasSign_1 : decode prog_14_method_14_code 1 = .ok (.iload_n 1, 1) := by decide +kernel
theorem d_Md_hasSign_2 : decode prog_14_method_14_code 2 = .ok (.invokevirtual 199, 3) := by decide +kernel
theorem d_Md_hasSign_5 : decode prog_14_method_14_code 5 = .ok (.istore_n 2, 1) := by decide +kernel
theorem d_Md_hasSign_6 : decode prog_14_method_14_code 6 = .ok (.aload_n 0, 1) := by decide +kernel
theorem d_Md_hasSign_7 : decode prog_14_method_14_code 7 = .ok (.dup, 1) := by decide +kernel
theorem d_Md_hasSign_8 : decode prog_14_method_14_code 8 = .ok (.getfield 193, 3) := by decide +kernel
theorem d_Md_hasSign_11 : decode prog_14_method_14_code 11 = .ok (.iload_n 2, 1) := by decide +kernel
theorem d_Md_hasSign_12 : decode prog_14_method_14_code 12 = .ok (.ifCond .eq 7, 3) := by decide +kernel
theorem d_Md_hasSign_15 : decode prog_14_method_14_code 15 = .ok (.iconst 1, 1) := by decide +kernel
theorem d_Md_hasSign_16 : decode prog_14_method_14_code 16 = .ok (.goto 4, 3) := by decide +kernel
theorem d_Md_hasSign_19 : decode prog_14_method_14_code 19 = .ok (.iconst 0, 1) := by decide +kernel
theorem d_Md_hasSign_20 : decode prog_14_method_14_code 20 = .ok (.iadd, 1) := by decide +kernel
theorem d_Md_hasSign_21 : decode prog_14_method_14_code 21 = .ok (.putfield 193, 3) := by decide +kernel
theorem d_Md_hasSign_24 : decode prog_14_method_14_code 24 = .ok (.iload_n 2, 1) := by decide +kernel
theorem d_Md_hasSign_25 : decode prog_14_method_14_code 25 = .ok (.ireturn, 1) := by decide +kernel
abbrev S_Md_hasSign : Type := Nat × Nat × Int32 × Int32 × Nat × Int32 × Int32 × AM
noncomputable def T_Md_hasSign_0 (v0R : Nat) (v1I : Int32) (σ : AM) : S_Md_hasSign ⊕ Option (Int32 × AM) :=
  gdT (okO σ v0R 12) <| bndT (M_Md_isSign v0R v1I σ) fun r1 σ2 => gdT (okO σ2 v0R 12) <| if r1 = 0 then (.inl (1, 0, 0, r1, v0R, aI σ2 v0R 7, (0 : Int32), σ2)) else (.inl (1, 0, 0, r1, v0R, aI σ2 v0R 7, (1 : Int32), σ2))
noncomputable def T_Md_hasSign_1 (v2I : Int32) (s0R : Nat) (s1I : Int32) (s2I : Int32) (σ : AM) : S_Md_hasSign ⊕ Option (Int32 × AM) :=
  gdT (okO σ s0R 12) <| letT (sI σ s0R 7 (s1I + s2I)) fun σ2 => gdT (isB v2I) <| .inr (some (v2I, σ2))
noncomputable def F_Md_hasSign : S_Md_hasSign → S_Md_hasSign ⊕ Option (Int32 × AM) := fun s => match s.1 with
  | 0 => T_Md_hasSign_0 (s.2.1) (s.2.2.1) (s.2.2.2.2.2.2.2)
  | _ => T_Md_hasSign_1 (s.2.2.2.1) (s.2.2.2.2.1) (s.2.2.2.2.2.1) (s.2.2.2.2.2.2.1) (s.2.2.2.2.2.2.2)
noncomputable def L_Md_hasSign_0 (v0R : Nat) (v1I : Int32) (σ : AM) : Option (Int32 × AM) := lp F_Md_hasSign (0, v0R, v1I, 0, 0, 0, 0, σ)
noncomputable def L_Md_hasSign_1 (v2I : Int32) (s0R : Nat) (s1I : Int32) (s2I : Int32) (σ : AM) : Option (Int32 × AM) := lp F_Md_hasSign (1, 0, 0, v2I, s0R, s1I, s2I, σ)
set_option maxRecDepth 20000 in
theorem E_Md_hasSign_0 (v0R : Nat) (v1I : Int32) (σ : AM) : L_Md_hasSign_0 v0R v1I σ = (gd (okO σ v0R 12) <| bnd (M_Md_isSign v0R v1I σ) fun r1 σ2 => gd (okO σ2 v0R 12) <| if r1 = 0 then (L_Md_hasSign_1 r1 v0R (aI σ2 v0R 7) ((0 : Int32)) σ2) else (L_Md_hasSign_1 r1 v0R (aI σ2 v0R 7) ((1 : Int32)) σ2)) := by
  unfold L_Md_hasSign_0
  rw [lp_eq]
  show lpK (lp F_Md_hasSign) (T_Md_hasSign_0 v0R v1I σ) = _
  unfold T_Md_hasSign_0
  simp only [lpK_ite, lq_inl, lq_inr, lpK_bnd, lpK_gd, lq_let]
  try rfl
set_option maxRecDepth 20000 in
theorem E_Md_hasSign_1 (v2I : Int32) (s0R : Nat) (s1I : Int32) (s2I : Int32) (σ : AM) : L_Md_hasSign_1 v2I s0R s1I s2I σ = (gd (okO σ s0R 12) <| letT (sI σ s0R 7 (s1I + s2I)) fun σ2 => gd (isB v2I) <| (some (v2I, σ2))) := by
  unfold L_Md_hasSign_1
  rw [lp_eq]
  show lpK (lp F_Md_hasSign) (T_Md_hasSign_1 v2I s0R s1I s2I σ) = _
  unfold T_Md_hasSign_1
  simp only [lpK_ite, lq_inl, lq_inr, lpK_bnd, lpK_gd, lq_let]
  try rfl
noncomputable def M_Md_hasSign (v0R : Nat) (v1I : Int32) (σ : AM) : Option (Int32 × AM) := mw σ (L_Md_hasSign_0 v0R v1I σ)
def I_Md_hasSign (G : GX) (p : Program) (l : Launch) (e : Env) (s : State) (m : MethodId) (args : Array Value) (below : List Frame) (meth : Method) (c : Code) (z0 u0 n : Nat) : Prop :=
  (∀ (v0R : Nat) (v1I : Int32) (σ : AM), VX (QM eI G args s below z0 u0) G p l e s m args below meth c 1 z0 u0 3 (lpn F_Md_hasSign n (0, v0R, v1I, 0, 0, 0, 0, σ)) 0 [(0, .ref v0R), (1, .int v1I)] [] σ) ∧
  (∀ (v2I : Int32) (s0R : Nat) (s1I : Int32) (s2I : Int32) (σ : AM), VX (QM eI G args s below z0 u0) G p l e s m args below meth c 1 z0 u0 3 (lpn F_Md_hasSign n (1, 0, 0, v2I, s0R, s1I, s2I, σ)) 20 [(2, .int v2I)] [.int s2I, .int s1I, .ref s0R] σ)
set_option maxRecDepth 20000 in
theorem s_Md_hasSign_0 {G : GX} {p : Program} {l : Launch} {e : Env} {s : State} {m : MethodId} {args : Array Value} {below : List Frame} {meth : Method} {c : Code} {z0 u0 n : Nat} (C : Cx G p s m args meth c prog_14_method_14_code 3 "BellPlateModel" ((some FieldType.boolean))) (IH : I_Md_hasSign G p l e s m args below meth c z0 u0 n) (v0R : Nat) (v1I : Int32) (σ : AM) : VX (QM eI G args s below z0 u0) G p l e s m args below meth c 1 z0 u0 3 (lpK (lpn F_Md_hasSign n) (T_Md_hasSign_0 v0R v1I σ)) 0 [(0, .ref v0R), (1, .int v1I)] [] σ := by
  unfold T_Md_hasSign_0
  refine x_aload_n C d_Md_hasSign_0 0 rfl ?_
  refine x_iload_n C d_Md_hasSign_1 1 rfl ?_
  refine x_gd (fun h3 => ?_)
  refine x_callVI (As := [.int v1I]) C (c_Md_isSign G l v0R v1I σ) (okO_iff.mp h3) rfl w2154 w77 w2152 w2155 w134 k_Md_isSign rfl (by decide) (by decide) rfl (Nat.le_of_ble_eq_true rfl) d_Md_hasSign_2 (fun r1 σ2 => ?_)
  refine x_istore_n (lv' := [(2, .int r1), (0, .ref v0R), (1, .int v1I)]) C d_Md_hasSign_5 (by decide) rfl rfl ?_
  refine x_aload_n C d_Md_hasSign_6 1 rfl ?_
  refine x_dup C d_Md_hasSign_7 rfl ?_
  refine x_gd (fun h4 => ?_)
  refine x_getI (k := 7) C (okO_iff.mp h4) rfl j11_ok (by decide) rfl w1859 d_Md_hasSign_8 ?_
  refine x_iload_n C d_Md_hasSign_11 0 rfl ?_
  refine x_if_eq (tgt := 19) C d_Md_hasSign_12 (by decide) (fun _ => ?_) (fun _ => ?_)
  · refine x_iconst (v := (0 : Int32)) C d_Md_hasSign_19 (by decide) ?_
    refine x_lv [0] rfl ?_
    exact IH.2 r1 v0R (aI σ2 v0R 7) ((0 : Int32)) (σ2)
  · refine x_iconst (v := (1 : Int32)) C d_Md_hasSign_15 (by decide) ?_
    refine x_goto (tgt := 20) C d_Md_hasSign_16 (by decide) ?_
    refine x_lv [0] rfl ?_
    exact IH.2 r1 v0R (aI σ2 v0R 7) ((1 : Int32)) (σ2)
set_option maxRecDepth 20000 in
theorem s_Md_hasSign_1 {G : GX} {p : Program} {l : Launch} {e : Env} {s : State} {m : MethodId} {args : Array Value} {below : List Frame} {meth : Method} {c : Code} {z0 u0 n : Nat} (C : Cx G p s m args meth c prog_14_method_14_code 3 "BellPlateModel" ((some FieldType.boolean))) (IH : I_Md_hasSign G p l e s m args below meth c z0 u0 n) (v2I : Int32) (s0R : Nat) (s1I : Int32) (s2I : Int32) (σ : AM) : VX (QM eI G args s below z0 u0) G p l e s m args below meth c 1 z0 u0 3 (lpK (lpn F_Md_hasSign n) (T_Md_hasSign_1 v2I s0R s1I s2I σ)) 20 [(2, .int v2I)] [.int s2I, .int s1I, .ref s0R] σ := by
  unfold T_Md_hasSign_1
  refine x_iadd C d_Md_hasSign_20 ?_
  refine x_gd (fun h1 => ?_)
  refine x_putI (k := 7) C (okO_iff.mp h1) rfl j11_ok y11_ok n11_ok (by decide) rfl rfl rfl rfl w1859 d_Md_hasSign_21 ?_
  refine x_letS (fun σ2 e3 => ?_)
  refine x_iload_n C d_Md_hasSign_24 0 rfl ?_
  refine x_gd (fun h4 => ?_)
  exact x_zret C (isB_narrow h4) d_Md_hasSign_25
theorem i_Md_hasSign {G : GX} {p : Program} {l : Launch} {e : Env} {s : State} {m : MethodId} {args : Array Value} {below : List Frame} {meth : Method} {c : Code} {z0 u0 : Nat} (C : Cx G p s m args meth c prog_14_method_14_code 3 "BellPlateModel" ((some FieldType.boolean))) (n : Nat) : I_Md_hasSign G p l e s m args below meth c z0 u0 n := by
  induction n with
  | zero => exact ⟨fun _ _ _ => x_none, fun _ _ _ _ _ => x_none⟩
  | succ n IH => exact ⟨fun v0R v1I σ => s_Md_hasSign_0 C IH v0R v1I σ, fun v2I s0R s1I s2I σ => s_Md_hasSign_1 C IH v2I s0R s1I s2I σ⟩
theorem c_Md_hasSign (G : GX) (l : Launch) (v0R : Nat) (v1I : Int32) (σ : AM) : CT eI G l 1 y_Md_hasSign prog_14_method_14_code 3 ((some FieldType.boolean)) [.ref v0R, .int v1I] σ (M_Md_hasSign v0R v1I σ) := by
  refine ct_of (by decide +kernel) (Nat.le_of_ble_eq_true rfl) (fun p e s m args below meth c C hin => ?_)
  refine x_lve (lv' := [(0, .ref v0R), (1, .int v1I)]) rfl ?_
  intro r σ' h
  obtain ⟨n, hn⟩ := (lp_iff _ _ _).mp h
  exact (i_Md_hasSign C n).1 v0R v1I σ r σ' hn
/-! BellPlateModel.hasWord(I)Z -/
abbrev y_Md_hasWord : MethodName := ⟨"BellPlateModel", "hasWord", "(I)Z"⟩
theorem k_Md_hasWord : y_Md_hasWord.cls ≠ "java/lang/invoke/MethodHandle" ∧ y_Md_hasWord.cls ≠ "java/lang/invoke/VarHandle" ∧ (parseMethodDescriptor y_Md_hasWord.desc).map (fun d => d.parameters.length) = some 1 := by decide +kernel
theorem d_Md_hasWord_0 : decode prog_14_method_15_code 0 = .ok (.aload_n 0, 1) := by decide +kernel
theorem d_Md_hasWord_1 : decode prog_14_method_15_code 1 = .ok (.iload_n 1, 1) := by decide +kernel
theorem d_Md_hasWord_2 : decode prog_14_method_15_code 2 = .ok (.invokevirtual 206, 3) := by decide +kernel
theorem d_Md_hasWord_5 : decode prog_14_method_15_code 5 = .ok (.istore_n 2, 1) := by decide +kernel
theorem d_Md_hasWord_6 : decode prog_14_method_15_code 6 = .ok (.aload_n 0, 1) := by decide +kernel
theorem d_Md_hasWord_7 : decode prog_14_method_15_code 7 = .ok (.dup, 1) := by decide +kernel
theorem d_Md_hasWord_8 : decode prog_14_method_15_code 8 = .ok (.getfield 193, 3) := by decide +kernel
theorem d_Md_hasWord_11 : decode prog_14_method_15_code 11 = .ok (.iload_n 2, 1) := by decide +kernel
theorem d_Md_hasWord_12 : decode prog_14_method_15_code 12 = .ok (.ifCond .eq 7, 3) := by decide +kernel
theorem d_Md_hasWord_15 : decode prog_14_method_15_code 15 = .ok (.iconst 1, 1) := by decide +kernel
theorem d_Md_hasWord_16 : decode prog_14_method_15_code 16 = .ok (.goto 4, 3) := by decide +kernel
theorem d_Md_hasWord_19 : decode prog_14_method_15_code 19 = .ok (.iconst 0, 1) := by decide +kernel
theorem d_Md_hasWord_20 : decode prog_14_method_15_code 20 = .ok (.iadd, 1) := by decide +kernel
theorem d_Md_hasWord_21 : decode prog_14_method_15_code 21 = .ok (.putfield 193, 3) := by decide +kernel
theorem d_Md_hasWord_24 : decode prog_14_method_15_code 24 = .ok (.iload_n 2, 1) := by decide +kernel
theorem d_Md_hasWord_25 : decode prog_14_method_15_code 25 = .ok (.ireturn, 1) := by decide +kernel
abbrev S_Md_hasWord : Type := Nat × Nat × Int32 × Int32 × Nat × Int32 × Int32 × AM
noncomputable def T_Md_hasWord_0 (v0R : Nat) (v1I : Int32) (σ : AM) : S_Md_hasWord ⊕ Option (Int32 × AM) :=
  gdT (okO σ v0R 12) <| bndT (M_Md_isWord v0R v1I σ) fun r1 σ2 => gdT (okO σ2 v0R 12) <| if r1 = 0 then (.inl (1, 0, 0, r1, v0R, aI σ2 v0R 7, (0 : Int32), σ2)) else (.inl (1, 0, 0, r1, v0R, aI σ2 v0R 7, (1 : Int32), σ2))
noncomputable def T_Md_hasWord_1 (v2I : Int32) (s0R : Nat) (s1I : Int32) (s2I : Int32) (σ : AM) : S_Md_hasWord ⊕ Option (Int32 × AM) :=
  gdT (okO σ s0R 12) <| letT (sI σ s0R 7 (s1I + s2I)) fun σ2 => gdT (isB v2I) <| .inr (some (v2I, σ2))
noncomputable def F_Md_hasWord : S_Md_hasWord → S_Md_hasWord ⊕ Option (Int32 × AM) := fun s => match s.1 with
  | 0 => T_Md_hasWord_0 (s.2.1) (s.2.2.1) (s.2.2.2.2.2.2.2)
  | _ => T_Md_hasWord_1 (s.2.2.2.1) (s.2.2.2.2.1) (s.2.2.2.2.2.1) (s.2.2.2.2.2.2.1) (s.2.2.2.2.2.2.2)
noncomputable def L_Md_hasWord_0 (v0R : Nat) (v1I : Int32) (σ : AM) : Option (Int32 × AM) := lp F_Md_hasWord (0, v0R, v1I, 0, 0, 0, 0, σ)
noncomputable def L_Md_hasWord_1 (v2I : Int32) (s0R : Nat) (s1I : Int32) (s2I : Int32) (σ : AM) : Option (Int32 × AM) := lp F_Md_hasWord (1, 0, 0, v2I, s0R, s1I, s2I, σ)
set_option maxRecDepth 20000 in
theorem E_Md_hasWord_0 (v0R : Nat) (v1I : Int32) (σ : AM) : L_Md_hasWord_0 v0R v1I σ = (gd (okO σ v0R 12) <| bnd (M_Md_isWord v0R v1I σ) fun r1 σ2 => gd (okO σ2 v0R 12) <| if r1 = 0 then (L_Md_hasWord_1 r1 v0R (aI σ2 v0R 7) ((0 : Int32)) σ2) else (L_Md_hasWord_1 r1 v0R (aI σ2 v0R 7) ((1 : Int32)) σ2)) := by
  unfold L_Md_hasWord_0
  rw [lp_eq]
  show lpK (lp F_Md_hasWord) (T_Md_hasWord_0 v0R v1I σ) = _
  unfold T_Md_hasWord_0
  simp only [lpK_ite, lq_inl, lq_inr, lpK_bnd, lpK_gd, lq_let]
  try rfl
set_option maxRecDepth 20000 in
theorem E_Md_hasWord_1 (v2I : Int32) (s0R : Nat) (s1I : Int32) (s2I : Int32) (σ : AM) : L_Md_hasWord_1 v2I s0R s1I s2I σ = (gd (okO σ s0R 12) <| letT (sI σ s0R 7 (s1I + s2I)) fun σ2 => gd (isB v2I) <| (some (v2I, σ2))) := by
  unfold L_Md_hasWord_1
  rw [lp_eq]
  show lpK (lp F_Md_hasWord) (T_Md_hasWord_1 v2I s0R s1I s2I σ) = _
  unfold T_Md_hasWord_1
  simp only [lpK_ite, lq_inl, lq_inr, lpK_bnd, lpK_gd, lq_let]
  try rfl
noncomputable def M_Md_hasWord (v0R : Nat) (v1I : Int32) (σ : AM) : Option (Int32 × AM) := mw σ (L_Md_hasWord_0 v0R v1I σ)
def I_Md_hasWord (G : GX) (p : Program) (l : Launch) (e : Env) (s : State) (m : MethodId) (args : Array Value) (below : List Frame) (meth : Method) (c : Code) (z0 u0 n : Nat) : Prop :=
  (∀ (v0R : Nat) (v1I : Int32) (σ : AM), VX (QM eI G args s below z0 u0) G p l e s m args below meth c 1 z0 u0 3 (lpn F_Md_hasWord n (0, v0R, v1I, 0, 0, 0, 0, σ)) 0 [(0, .ref v0R), (1, .int v1I)] [] σ) ∧
  (∀ (v2I : Int32) (s0R : Nat) (s1I : Int32) (s2I : Int32) (σ : AM), VX (QM eI G args s below z0 u0) G p l e s m args below meth c 1 z0 u0 3 (lpn F_Md_hasWord n (1, 0, 0, v2I, s0R, s1I, s2I, σ)) 20 [(2, .int v2I)] [.int s2I, .int s1I, .ref s0R] σ)
set_option maxRecDepth 20000 in
theorem s_Md_hasWord_0 {G : GX} {p : Program} {l : Launch} {e : Env} {s : State} {m : MethodId} {args : Array Value} {below : List Frame} {meth : Method} {c : Code} {z0 u0 n : Nat} (C : Cx G p s m args meth c prog_14_method_15_code 3 "BellPlateModel" ((some FieldType.boolean))) (IH : I_Md_hasWord G p l e s m args below meth c z0 u0 n) (v0R : Nat) (v1I : Int32) (σ : AM) : VX (QM eI G args s below z0 u0) G p l e s m args below meth c 1 z0 u0 3 (lpK (lpn F_Md_hasWord n) (T_Md_hasWord_0 v0R v1I σ)) 0 [(0, .ref v0R), (1, .int v1I)] [] σ := by
  unfold T_Md_hasWord_0
  refine x_aload_n C d_Md_hasWord_0 0 rfl ?_
  refine x_iload_n C d_Md_hasWord_1 1 rfl ?_
  refine x_gd (fun h3 => ?_)
  refine x_callVI (As := [.int v1I]) C (c_Md_isWord G l v0R v1I σ) (okO_iff.mp h3) rfl w2110 w66 w2108 w2111 w134 k_Md_isWord rfl (by decide) (by decide) rfl (Nat.le_of_ble_eq_true rfl) d_Md_hasWord_2 (fun r1 σ2 => ?_)
  refine x_istore_n (lv' := [(2, .int r1), (0, .ref v0R), (1, .int v1I)]) C d_Md_hasWord_5 (by decide) rfl rfl ?_
  refine x_aload_n C d_Md_hasWord_6 1 rfl ?_
  refine x_dup C d_Md_hasWord_7 rfl ?_
  refine x_gd (fun h4 => ?_)
  refine x_getI (k := 7) C (okO_iff.mp h4) rfl j11_ok (by decide) rfl w1859 d_Md_hasWord_8 ?_
  refine x_iload_n C d_Md_hasWord_11 0 rfl ?_
  refine x_if_eq (tgt := 19) C d_Md_hasWord_12 (by decide) (fun _ => ?_) (fun _ => ?_)
  · refine x_iconst (v := (0 : Int32)) C d_Md_hasWord_19 (by decide) ?_
    refine x_lv [0] rfl ?_
    exact IH.2 r1 v0R (aI σ2 v0R 7) ((0 : Int32)) (σ2)
  · refine x_iconst (v := (1 : Int32)) C d_Md_hasWord_15 (by decide) ?_
    refine x_goto (tgt := 20) C d_Md_hasWord_16 (by decide) ?_
    refine x_lv [0] rfl ?_
    exact IH.2 r1 v0R (aI σ2 v0R 7) ((1 : Int32)) (σ2)
set_option maxRecDepth 20000 in
theorem s_Md_hasWord_1 {G : GX} {p : Program} {l : Launch} {e : Env} {s : State} {m : MethodId} {args : Array Value} {below : List Frame} {meth : Method} {c : Code} {z0 u0 n : Nat} (C : Cx G p s m args meth c prog_14_method_15_code 3 "BellPlateModel" ((some FieldType.boolean))) (IH : I_Md_hasWord G p l e s m args below meth c z0 u0 n) (v2I : Int32) (s0R : Nat) (s1I : Int32) (s2I : Int32) (σ : AM) : VX (QM eI G args s below z0 u0) G p l e s m args below meth c 1 z0 u0 3 (lpK (lpn F_Md_hasWord n) (T_Md_hasWord_1 v2I s0R s1I s2I σ)) 20 [(2, .int v2I)] [.int s2I, .int s1I, .ref s0R] σ := by
  unfold T_Md_hasWord_1
  refine x_iadd C d_Md_hasWord_20 ?_
  refine x_gd (fun h1 => ?_)
  refine x_putI (k := 7) C (okO_iff.mp h1) rfl j11_ok y11_ok n11_ok (by decide) rfl rfl rfl rfl w1859 d_Md_hasWord_21 ?_
  refine x_letS (fun σ2 e3 => ?_)
  refine x_iload_n C d_Md_hasWord_24 0 rfl ?_
  refine x_gd (fun h4 => ?_)
  exact x_zret C (isB_narrow h4) d_Md_hasWord_25
theorem i_Md_hasWord {G : GX} {p : Program} {l : Launch} {e : Env} {s : State} {m : MethodId} {args : Array Value} {below : List Frame} {meth : Method} {c : Code} {z0 u0 : Nat} (C : Cx G p s m args meth c prog_14_method_15_code 3 "BellPlateModel" ((some FieldType.boolean))) (n : Nat) : I_Md_hasWord G p l e s m args below meth c z0 u0 n := by
  induction n with
  | zero => exact ⟨fun _ _ _ => x_none, fun _ _ _ _ _ => x_none⟩
  | succ n IH => exact ⟨fun v0R v1I σ => s_Md_hasWord_0 C IH v0R v1I σ, fun v2I s0R s1I s2I σ => s_Md_hasWord_1 C IH v2I s0R s1I s2I σ⟩
theorem c_Md_hasWord (G : GX) (l : Launch) (v0R : Nat) (v1I : Int32) (σ : AM) : CT eI G l 1 y_Md_hasWord prog_14_method_15_code 3 ((some FieldType.boolean)) [.ref v0R, .int v1I] σ (M_Md_hasWord v0R v1I σ) := by
  refine ct_of (by decide +kernel) (Nat.le_of_ble_eq_true rfl) (fun p e s m args below meth c C hin => ?_)
  refine x_lve (lv' := [(0, .ref v0R), (1, .int v1I)]) rfl ?_
  intro r σ' h
  obtain ⟨n, hn⟩ := (lp_iff _ _ _).mp h
  exact (i_Md_hasWord C n).1 v0R v1I σ r σ' hn
/-! BellPlateModel.within(III)Z -/
abbrev y_Md_within : MethodName := ⟨"BellPlateModel", "within", "(III)Z"⟩
theorem k_Md_within : y_Md_within.cls ≠ "java/lang/invoke/MethodHandle" ∧ y_Md_within.cls ≠ "java/lang/invoke/VarHandle" ∧ (parseMethodDescriptor y_Md_within.desc).map (fun d => d.parameters.length) = some 3 := by decide +kernel
theorem d_Md_within_0 : decode prog_14_method_17_code 0 = .ok (.iload_n 0, 1) := by decide +kernel
theorem d_Md_within_1 : decode prog_14_method_17_code 1 = .ok (.iload_n 1, 1) := by decide +kernel
theorem d_Md_within_2 : decode prog_14_method_17_code 2 = .ok (.if_icmp .lt 12, 3) := by decide +kernel
theorem d_Md_within_5 : decode prog_14_method_17_code 5 = .ok (.iload_n 0, 1) := by decide +kernel
theorem d_Md_within_6 : decode prog_14_method_17_code 6 = .ok (.iload_n 2, 1) := by decide +kernel
theorem d_Md_within_7 : decode prog_14_method_17_code 7 = .ok (.if_icmp .gt 7, 3) := by decide +kernel
theorem d_Md_within_10 : decode prog_14_method_17_code 10 = .ok (.iconst 1, 1) := by decide +kernel
theorem d_Md_within_11 : decode prog_14_method_17_code 11 = .ok (.goto 4, 3) := by decide +kernel
theorem d_Md_within_14 : decode prog_14_method_17_code 14 = .ok (.iconst 0, 1) := by decide +kernel
theorem d_Md_within_15 : decode prog_14_method_17_code 15 = .ok (.ireturn, 1) := by decide +kernel
abbrev S_Md_within : Type := Nat × Int32 × Int32 × Int32 × Int32 × AM
noncomputable def T_Md_within_0 (v0I : Int32) (v1I : Int32) (v2I : Int32) (σ : AM) : S_Md_within ⊕ Option (Int32 × AM) :=
  if v0I < v1I then (.inl (1, 0, 0, 0, 0, σ)) else (if v2I < v0I then (.inl (1, 0, 0, 0, 0, σ)) else (.inl (2, 0, 0, 0, (1 : Int32), σ)))
noncomputable def T_Md_within_1  (σ : AM) : S_Md_within ⊕ Option (Int32 × AM) :=
  .inl (2, 0, 0, 0, (0 : Int32), σ)
noncomputable def T_Md_within_2 (s0I : Int32) (σ : AM) : S_Md_within ⊕ Option (Int32 × AM) :=
  gdT (isB s0I) <| .inr (some (s0I, σ))
noncomputable def F_Md_within : S_Md_within → S_Md_within ⊕ Option (Int32 × AM) := fun s => match s.1 with
  | 0 => T_Md_within_0 (s.2.1) (s.2.2.1) (s.2.2.2.1) (s.2.2.2.2.2)
  | 1 => T_Md_within_1  (s.2.2.2.2.2)
  | _ => T_Md_within_2 (s.2.2.2.2.1) (s.2.2.2.2.2)
noncomputable def L_Md_within_0 (v0I : Int32) (v1I : Int32) (v2I : Int32) (σ : AM) : Option (Int32 × AM) := lp F_Md_within (0, v0I, v1I, v2I, 0, σ)
noncomputable def L_Md_within_1  (σ : AM) : Option (Int32 × AM) := lp F_Md_within (1, 0, 0, 0, 0, σ)
noncomputable def L_Md_within_2 (s0I : Int32) (σ : AM) : Option (Int32 × AM) := lp F_Md_within (2, 0, 0, 0, s0I, σ)
set_option maxRecDepth 20000 in
theorem E_Md_within_0 (v0I : Int32) (v1I : Int32) (v2I : Int32) (σ : AM) : L_Md_within_0 v0I v1I v2I σ = (if v0I < v1I then (L_Md_within_1 σ) else (if v2I < v0I then (L_Md_within_1 σ) else (L_Md_within_2 ((1 : Int32)) σ))) := by
  unfold L_Md_within_0
  rw [lp_eq]
  show lpK (lp F_Md_within) (T_Md_within_0 v0I v1I v2I σ) = _
  unfold T_Md_within_0
  simp only [lpK_ite, lq_inl, lq_inr, lpK_bnd, lpK_gd, lq_let]
  try rfl
set_option maxRecDepth 20000 in
theorem E_Md_within_1  (σ : AM) : L_Md_within_1  σ = (L_Md_within_2 ((0 : Int32)) σ) := by
  unfold L_Md_within_1
  rw [lp_eq]
  show lpK (lp F_Md_within) (T_Md_within_1  σ) = _
  unfold T_Md_within_1
  simp only [lpK_ite, lq_inl, lq_inr, lpK_bnd, lpK_gd, lq_let]
  try rfl
set_option maxRecDepth 20000 in
theorem E_Md_within_2 (s0I : Int32) (σ : AM) : L_Md_within_2 s0I σ = (gd (isB s0I) <| (some (s0I, σ))) := by
  unfold L_Md_within_2
  rw [lp_eq]
  show lpK (lp F_Md_within) (T_Md_within_2 s0I σ) = _
  unfold T_Md_within_2
  simp only [lpK_ite, lq_inl, lq_inr, lpK_bnd, lpK_gd, lq_let]
  try rfl
noncomputable def M_Md_within (v0I : Int32) (v1I : Int32) (v2I : Int32) (σ : AM) : Option (Int32 × AM) := mw σ (L_Md_within_0 v0I v1I v2I σ)
def I_Md_within (G : GX) (p : Program) (l : Launch) (e : Env) (s : State) (m : MethodId) (args : Array Value) (below : List Frame) (meth : Method) (c : Code) (z0 u0 n : Nat) : Prop :=
  (∀ (v0I : Int32) (v1I : Int32) (v2I : Int32) (σ : AM), VX (QM eI G args s below z0 u0) G p l e s m args below meth c 0 z0 u0 3 (lpn F_Md_within n (0, v0I, v1I, v2I, 0, σ)) 0 [(0, .int v0I), (1, .int v1I), (2, .int v2I)] [] σ) ∧
  (∀ (σ : AM), VX (QM eI G args s below z0 u0) G p l e s m args below meth c 0 z0 u0 3 (lpn F_Md_within n (1, 0, 0, 0, 0, σ)) 14 [] [] σ) ∧
  (∀ (s0I : Int32) (σ : AM), VX (QM eI G args s below z0 u0) G p l e s m args below meth c 0 z0 u0 3 (lpn F_Md_within n (2, 0, 0, 0, s0I, σ)) 15 [] [.int s0I] σ)
set_option maxRecDepth 20000 in
theorem s_Md_within_0 {G : GX} {p : Program} {l : Launch} {e : Env} {s : State} {m : MethodId} {args : Array Value} {below : List Frame} {meth : Method} {c : Code} {z0 u0 n : Nat} (C : Cx G p s m args meth c prog_14_method_17_code 3 "BellPlateModel" ((some FieldType.boolean))) (IH : I_Md_within G p l e s m args below meth c z0 u0 n) (v0I : Int32) (v1I : Int32) (v2I : Int32) (σ : AM) : VX (QM eI G args s below z0 u0) G p l e s m args below meth c 0 z0 u0 3 (lpK (lpn F_Md_within n) (T_Md_within_0 v0I v1I v2I σ)) 0 [(0, .int v0I), (1, .int v1I), (2, .int v2I)] [] σ := by
  unfold T_Md_within_0
  refine x_iload_n C d_Md_within_0 0 rfl ?_
  refine x_iload_n C d_Md_within_1 1 rfl ?_
  refine x_icmp_lt (tgt := 14) C d_Md_within_2 (by decide) (fun _ => ?_) (fun _ => ?_)
  · refine x_lv [] rfl ?_
    exact IH.2.1  (σ)
  · refine x_iload_n C d_Md_within_5 0 rfl ?_
    refine x_iload_n C d_Md_within_6 2 rfl ?_
    refine x_icmp_gt (tgt := 14) C d_Md_within_7 (by decide) (fun _ => ?_) (fun _ => ?_)
    · refine x_lv [] rfl ?_
      exact IH.2.1  (σ)
    · refine x_iconst (v := (1 : Int32)) C d_Md_within_10 (by decide) ?_
      refine x_goto (tgt := 15) C d_Md_within_11 (by decide) ?_
      refine x_lv [] rfl ?_
      exact IH.2.2 ((1 : Int32)) (σ)
set_option maxRecDepth 20000 in
theorem s_Md_within_1 {G : GX} {p : Program} {l : Launch} {e : Env} {s : State} {m : MethodId} {args : Array Value} {below : List Frame} {meth : Method} {c : Code} {z0 u0 n : Nat} (C : Cx G p s m args meth c prog_14_method_17_code 3 "BellPlateModel" ((some FieldType.boolean))) (IH : I_Md_within G p l e s m args below meth c z0 u0 n)  (σ : AM) : VX (QM eI G args s below z0 u0) G p l e s m args below meth c 0 z0 u0 3 (lpK (lpn F_Md_within n) (T_Md_within_1  σ)) 14 [] [] σ := by
  unfold T_Md_within_1
  refine x_iconst (v := (0 : Int32)) C d_Md_within_14 (by decide) ?_
  exact IH.2.2 ((0 : Int32)) (σ)
set_option maxRecDepth 20000 in
theorem s_Md_within_2 {G : GX} {p : Program} {l : Launch} {e : Env} {s : State} {m : MethodId} {args : Array Value} {below : List Frame} {meth : Method} {c : Code} {z0 u0 n : Nat} (C : Cx G p s m args meth c prog_14_method_17_code 3 "BellPlateModel" ((some FieldType.boolean))) (IH : I_Md_within G p l e s m args below meth c z0 u0 n) (s0I : Int32) (σ : AM) : VX (QM eI G args s below z0 u0) G p l e s m args below meth c 0 z0 u0 3 (lpK (lpn F_Md_within n) (T_Md_within_2 s0I σ)) 15 [] [.int s0I] σ := by
  unfold T_Md_within_2
  refine x_gd (fun h1 => ?_)
  exact x_zret C (isB_narrow h1) d_Md_within_15
theorem i_Md_within {G : GX} {p : Program} {l : Launch} {e : Env} {s : State} {m : MethodId} {args : Array Value} {below : List Frame} {meth : Method} {c : Code} {z0 u0 : Nat} (C : Cx G p s m args meth c prog_14_method_17_code 3 "BellPlateModel" ((some FieldType.boolean))) (n : Nat) : I_Md_within G p l e s m args below meth c z0 u0 n := by
  induction n with
  | zero => exact ⟨fun _ _ _ _ => x_none, fun _ => x_none, fun _ _ => x_none⟩
  | succ n IH => exact ⟨fun v0I v1I v2I σ => s_Md_within_0 C IH v0I v1I v2I σ, fun σ => s_Md_within_1 C IH σ, fun s0I σ => s_Md_within_2 C IH s0I σ⟩
theorem c_Md_within (G : GX) (l : Launch) (v0I : Int32) (v1I : Int32) (v2I : Int32) (σ : AM) : CT eI G l 0 y_Md_within prog_14_method_17_code 3 ((some FieldType.boolean)) [.int v0I, .int v1I, .int v2I] σ (M_Md_within v0I v1I v2I σ) := by
  refine ct_of (by decide +kernel) (Nat.le_of_ble_eq_true rfl) (fun p e s m args below meth c C hin => ?_)
  refine x_lve (lv' := [(0, .int v0I), (1, .int v1I), (2, .int v2I)]) rfl ?_
  intro r σ' h
  obtain ⟨n, hn⟩ := (lp_iff _ _ _).mp h
  exact (i_Md_within C n).1 v0I v1I v2I σ r σ' hn
/-! BellPlateModel.takeNumber(II)I -/
abbrev y_Md_takeNumber : MethodName := ⟨"BellPlateModel", "takeNumber", "(II)I"⟩
theorem k_Md_takeNumber : y_Md_takeNumber.cls ≠ "java/lang/invoke/MethodHandle" ∧ y_Md_takeNumber.cls ≠ "java/lang/invoke/VarHandle" ∧ (parseMethodDescriptor y_Md_takeNumber.desc).map (fun d => d.parameters.length) = some 2 := by decide +kernel
theorem d_Md_takeNumber_0 : decode prog_14_method_18_code 0 = .ok (.aload_n 0, 1) := by decide +kernel
theorem d_Md_takeNumber_1 : decode prog_14_method_18_code 1 = .ok (.getfield 196, 3) := by decide +kernel
theorem d_Md_takeNumber_4 : decode prog_14_method_18_code 4 = .ok (.ifCond .ne 24, 3) := by decide +kernel
theorem d_Md_takeNumber_7 : decode prog_14_method_18_code 7 = .ok (.aload_n 0, 1) := by decide +kernel
theorem d_Md_takeNumber_8 : decode prog_14_method_18_code 8 = .ok (.getfield 24, 3) := by decide +kernel
theorem d_Md_takeNumber_11 : decode prog_14_method_18_code 11 = .ok (.aload_n 0, 1) := by decide +kernel
theorem d_Md_takeNumber_12 : decode prog_14_method_18_code 12 = .ok (.getfield 193, 3) := by decide +kernel
theorem d_Md_takeNumber_15 : decode prog_14_method_18_code 15 = .ok (.iaload, 1) := by decide +kernel
theorem d_Md_takeNumber_16 : decode prog_14_method_18_code 16 = .ok (.iconst 2, 1) := by decide +kernel
theorem d_Md_takeNumber_17 : decode prog_14_method_18_code 17 = .ok (.if_icmp .eq 11, 3) := by decide +kernel
theorem d_Md_takeNumber_20 : decode prog_14_method_18_code 20 = .ok (.aload_n 0, 1) := by decide +kernel
theorem d_Md_takeNumber_21 : decode prog_14_method_18_code 21 = .ok (.iconst 1, 1) := by decide +kernel
theorem d_Md_takeNumber_22 : decode prog_14_method_18_code 22 = .ok (.invokevirtual 202, 3) := by decide +kernel
theorem d_Md_takeNumber_25 : decode prog_14_method_18_code 25 = .ok (.goto 45, 3) := by decide +kernel
theorem d_Md_takeNumber_28 : decode prog_14_method_18_code 28 = .ok (.aload_n 0, 1) := by decide +kernel
theorem d_Md_takeNumber_29 : decode prog_14_method_18_code 29 = .ok (.getfield 196, 3) := by decide +kernel
theorem d_Md_takeNumber_32 : decode prog_14_method_18_code 32 = .ok (.ifCond .ne 38, 3) := by decide +kernel
theorem d_Md_takeNumber_35 : decode prog_14_method_18_code 35 = .ok (.aload_n 0, 1) := by decide +kernel
theorem d_Md_takeNumber_36 : decode prog_14_method_18_code 36 = .ok (.getfield 30, 3) := by decide +kernel
theorem d_Md_takeNumber_39 : decode prog_14_method_18_code 39 = .ok (.aload_n 0, 1) := by decide +kernel
theorem d_Md_takeNumber_40 : decode prog_14_method_18_code 40 = .ok (.getfield 193, 3) := by decide +kernel
theorem d_Md_takeNumber_43 : decode prog_14_method_18_code 43 = .ok (.laload, 1) := by decide +kernel
theorem d_Md_takeNumber_44 : decode prog_14_method_18_code 44 = .ok (.iload_n 1, 1) := by decide +kernel
theorem d_Md_takeNumber_45 : decode prog_14_method_18_code 45 = .ok (.i2l, 1) := by decide +kernel
theorem d_Md_takeNumber_46 : decode prog_14_method_18_code 46 = .ok (.lcmp, 1) := by decide +kernel
theorem d_Md_takeNumber_47 : decode prog_14_method_18_code 47 = .ok (.ifCond .lt 18, 3) := by decide +kernel
theorem d_Md_takeNumber_50 : decode prog_14_method_18_code 50 = .ok (.aload_n 0, 1) := by decide +kernel
theorem d_Md_takeNumber_51 : decode prog_14_method_18_code 51 = .ok (.getfield 30, 3) := by decide +kernel
theorem d_Md_takeNumber_54 : decode prog_14_method_18_code 54 = .ok (.aload_n 0, 1) := by decide +kernel
theorem d_Md_takeNumber_55 : decode prog_14_method_18_code 55 = .ok (.getfield 193, 3) := by decide +kernel
theorem d_Md_takeNumber_58 : decode prog_14_method_18_code 58 = .ok (.laload, 1) := by decide +kernel
theorem d_Md_takeNumber_59 : decode prog_14_method_18_code 59 = .ok (.iload_n 2, 1) := by decide +kernel
theorem d_Md_takeNumber_60 : decode prog_14_method_18_code 60 = .ok (.i2l, 1) := by decide +kernel
theorem d_Md_takeNumber_61 : decode prog_14_method_18_code 61 = .ok (.lcmp, 1) := by decide +kernel
theorem d_Md_takeNumber_62 : decode prog_14_method_18_code 62 = .ok (.ifCond .le 8, 3) := by decide +kernel
theorem d_Md_takeNumber_65 : decode prog_14_method_18_code 65 = .ok (.aload_n 0, 1) := by decide +kernel
theorem d_Md_takeNumber_66 : decode prog_14_method_18_code 66 = .ok (.iconst 4, 1) := by decide +kernel
theorem d_Md_takeNumber_67 : decode prog_14_method_18_code 67 = .ok (.invokevirtual 202, 3) := by decide +kernel
theorem d_Md_takeNumber_70 : decode prog_14_method_18_code 70 = .ok (.aload_n 0, 1) := by decide +kernel
theorem d_Md_takeNumber_71 : decode prog_14_method_18_code 71 = .ok (.getfield 196, 3) := by decide +kernel
theorem d_Md_takeNumber_74 : decode prog_14_method_18_code 74 = .ok (.ifCond .le 5, 3) := by decide +kernel
theorem d_Md_takeNumber_77 : decode prog_14_method_18_code 77 = .ok (.iconst 0, 1) := by decide +kernel
theorem d_Md_takeNumber_78 : decode prog_14_method_18_code 78 = .ok (.ireturn, 1) := by decide +kernel
theorem d_Md_takeNumber_79 : decode prog_14_method_18_code 79 = .ok (.aload_n 0, 1) := by decide +kernel
theorem d_Md_takeNumber_80 : decode prog_14_method_18_code 80 = .ok (.dup, 1) := by decide +kernel
theorem d_Md_takeNumber_81 : decode prog_14_method_18_code 81 = .ok (.getfield 193, 3) := by decide +kernel
theorem d_Md_takeNumber_84 : decode prog_14_method_18_code 84 = .ok (.iconst 1, 1) := by decide +kernel
theorem d_Md_takeNumber_85 : decode prog_14_method_18_code 85 = .ok (.iadd, 1) := by decide +kernel
theorem d_Md_takeNumber_86 : decode prog_14_method_18_code 86 = .ok (.putfield 193, 3) := by decide +kernel
theorem d_Md_takeNumber_89 : decode prog_14_method_18_code 89 = .ok (.aload_n 0, 1) := by decide +kernel
theorem d_Md_takeNumber_90 : decode prog_14_method_18_code 90 = .ok (.getfield 30, 3) := by decide +kernel
theorem d_Md_takeNumber_93 : decode prog_14_method_18_code 93 = .ok (.aload_n 0, 1) := by decide +kernel
theorem d_Md_takeNumber_94 : decode prog_14_method_18_code 94 = .ok (.getfield 193, 3) := by decide +kernel
theorem d_Md_takeNumber_97 : decode prog_14_method_18_code 97 = .ok (.iconst 1, 1) := by decide +kernel
theorem d_Md_takeNumber_98 : decode prog_14_method_18_code 98 = .ok (.isub, 1) := by decide +kernel
theorem d_Md_takeNumber_99 : decode prog_14_method_18_code 99 = .ok (.laload, 1) := by decide +kernel
theorem d_Md_takeNumber_100 : decode prog_14_method_18_code 100 = .ok (.l2i, 1) := by decide +kernel
theorem d_Md_takeNumber_101 : decode prog_14_method_18_code 101 = .ok (.ireturn, 1) := by decide +kernel
abbrev S_Md_takeNumber : Type := Nat × Nat × Int32 × Int32 × AM
noncomputable def T_Md_takeNumber_0 (v0R : Nat) (v1I : Int32) (v2I : Int32) (σ : AM) : S_Md_takeNumber ⊕ Option (Int32 × AM) :=
  gdT (okO σ v0R 12) <| if (aI σ v0R 8) = 0 then (gdT (okO σ (aR σ v0R 4) 101) <| gdT (inB (aI σ v0R 7) (aN σ (aR σ v0R 4))) <| if (aI σ (aR σ v0R 4) (aI σ v0R 7).toNatClampNeg) = (2 : Int32) then (.inl (1, v0R, v1I, v2I, σ)) else (bndT (M_Md_faulty v0R (1 : Int32) σ) fun _ σ5 => .inl (3, v0R, 0, 0, σ5))) else (.inl (1, v0R, v1I, v2I, σ))
noncomputable def T_Md_takeNumber_1 (v0R : Nat) (v1I : Int32) (v2I : Int32) (σ : AM) : S_Md_takeNumber ⊕ Option (Int32 × AM) :=
  gdT (okO σ v0R 12) <| if (aI σ v0R 8) = 0 then (gdT (okO σ (aR σ v0R 6) 102) <| gdT (inB (aI σ v0R 7) (aN σ (aR σ v0R 6))) <| if (lg_cmp (aL σ (aR σ v0R 6) (aI σ v0R 7).toNatClampNeg) (v1I.toInt64)) < 0 then (.inl (2, v0R, 0, 0, σ)) else (if 0 < (lg_cmp (aL σ (aR σ v0R 6) (aI σ v0R 7).toNatClampNeg) (v2I.toInt64)) then (.inl (2, v0R, 0, 0, σ)) else (.inl (3, v0R, 0, 0, σ)))) else (.inl (3, v0R, 0, 0, σ))
noncomputable def T_Md_takeNumber_2 (v0R : Nat) (σ : AM) : S_Md_takeNumber ⊕ Option (Int32 × AM) :=
  gdT (okO σ v0R 12) <| bndT (M_Md_faulty v0R (4 : Int32) σ) fun _ σ2 => .inl (3, v0R, 0, 0, σ2)
noncomputable def T_Md_takeNumber_3 (v0R : Nat) (σ : AM) : S_Md_takeNumber ⊕ Option (Int32 × AM) :=
  gdT (okO σ v0R 12) <| if 0 < (aI σ v0R 8) then (.inr (some ((0 : Int32), σ))) else (letT (sI σ v0R 7 ((aI σ v0R 7) + (1 : Int32))) fun σ2 => gdT (okO σ2 (aR σ2 v0R 6) 102) <| gdT (inB ((aI σ2 v0R 7) - (1 : Int32)) (aN σ2 (aR σ2 v0R 6))) <| .inr (some (((aL σ2 (aR σ2 v0R 6) ((aI σ2 v0R 7) - (1 : Int32)).toNatClampNeg).toInt32), σ2)))
noncomputable def F_Md_takeNumber : S_Md_takeNumber → S_Md_takeNumber ⊕ Option (Int32 × AM) := fun s => match s.1 with
  | 0 => T_Md_takeNumber_0 (s.2.1) (s.2.2.1) (s.2.2.2.1) (s.2.2.2.2)
  | 1 => T_Md_takeNumber_1 (s.2.1) (s.2.2.1) (s.2.2.2.1) (s.2.2.2.2)
  | 2 => T_Md_takeNumber_2 (s.2.1) (s.2.2.2.2)
  | _ => T_Md_takeNumber_3 (s.2.1) (s.2.2.2.2)
noncomputable def L_Md_takeNumber_0 (v0R : Nat) (v1I : Int32) (v2I : Int32) (σ : AM) : Option (Int32 × AM) := lp F_Md_takeNumber (0, v0R, v1I, v2I, σ)
noncomputable def L_Md_takeNumber_1 (v0R : Nat) (v1I : Int32) (v2I : Int32) (σ : AM) : Option (Int32 × AM) := lp F_Md_takeNumber (1, v0R, v1I, v2I, σ)
noncomputable def L_Md_takeNumber_2 (v0R : Nat) (σ : AM) : Option (Int32 × AM) := lp F_Md_takeNumber (2, v0R, 0, 0, σ)
noncomputable def L_Md_takeNumber_3 (v0R : Nat) (σ : AM) : Option (Int32 × AM) := lp F_Md_takeNumber (3, v0R, 0, 0, σ)
set_option maxRecDepth 20000 in
theorem E_Md_takeNumber_0 (v0R : Nat) (v1I : Int32) (v2I : Int32) (σ : AM) : L_Md_takeNumber_0 v0R v1I v2I σ = (gd (okO σ v0R 12) <| if (aI σ v0R 8) = 0 then (gd (okO σ (aR σ v0R 4) 101) <| gd (inB (aI σ v0R 7) (aN σ (aR σ v0R 4))) <| if (aI σ (aR σ v0R 4) (aI σ v0R 7).toNatClampNeg) = (2 : Int32) then (L_Md_takeNumber_1 v0R v1I v2I σ) else (bnd (M_Md_faulty v0R (1 : Int32) σ) fun _ σ5 => L_Md_takeNumber_3 v0R σ5)) else (L_Md_takeNumber_1 v0R v1I v2I σ)) := by
  unfold L_Md_takeNumber_0
  rw [lp_eq]
  show lpK (lp F_Md_takeNumber) (T_Md_takeNumber_0 v0R v1I v2I σ) = _
  unfold T_Md_takeNumber_0
  simp only [lpK_ite, lq_inl, lq_inr, lpK_bnd, lpK_gd, lq_let]
  try rfl
set_option maxRecDepth 20000 in
theorem E_Md_takeNumber_1 (v0R : Nat) (v1I : Int32) (v2I : Int32) (σ : AM) : L_Md_takeNumber_1 v0R v1I v2I σ = (gd (okO σ v0R 12) <| if (aI σ v0R 8) = 0 then (gd (okO σ (aR σ v0R 6) 102) <| gd (inB (aI σ v0R 7) (aN σ (aR σ v0R 6))) <| if (lg_cmp (aL σ (aR σ v0R 6) (aI σ v0R 7).toNatClampNeg) (v1I.toInt64)) < 0 then (L_Md_takeNumber_2 v0R σ) else (if 0 < (lg_cmp (aL σ (aR σ v0R 6) (aI σ v0R 7).toNatClampNeg) (v2I.toInt64)) then (L_Md_takeNumber_2 v0R σ) else (L_Md_takeNumber_3 v0R σ))) else (L_Md_takeNumber_3 v0R σ)) := by
  unfold L_Md_takeNumber_1
  rw [lp_eq]
  show lpK (lp F_Md_takeNumber) (T_Md_takeNumber_1 v0R v1I v2I σ) = _
  unfold T_Md_takeNumber_1
  simp only [lpK_ite, lq_inl, lq_inr, lpK_bnd, lpK_gd, lq_let]
  try rfl
set_option maxRecDepth 20000 in
theorem E_Md_takeNumber_2 (v0R : Nat) (σ : AM) : L_Md_takeNumber_2 v0R σ = (gd (okO σ v0R 12) <| bnd (M_Md_faulty v0R (4 : Int32) σ) fun _ σ2 => L_Md_takeNumber_3 v0R σ2) := by
  unfold L_Md_takeNumber_2
  rw [lp_eq]
  show lpK (lp F_Md_takeNumber) (T_Md_takeNumber_2 v0R σ) = _
  unfold T_Md_takeNumber_2
  simp only [lpK_ite, lq_inl, lq_inr, lpK_bnd, lpK_gd, lq_let]
  try rfl
set_option maxRecDepth 20000 in
theorem E_Md_takeNumber_3 (v0R : Nat) (σ : AM) : L_Md_takeNumber_3 v0R σ = (gd (okO σ v0R 12) <| if 0 < (aI σ v0R 8) then ((some ((0 : Int32), σ))) else (letT (sI σ v0R 7 ((aI σ v0R 7) + (1 : Int32))) fun σ2 => gd (okO σ2 (aR σ2 v0R 6) 102) <| gd (inB ((aI σ2 v0R 7) - (1 : Int32)) (aN σ2 (aR σ2 v0R 6))) <| (some (((aL σ2 (aR σ2 v0R 6) ((aI σ2 v0R 7) - (1 : Int32)).toNatClampNeg).toInt32), σ2)))) := by
  unfold L_Md_takeNumber_3
  rw [lp_eq]
  show lpK (lp F_Md_takeNumber) (T_Md_takeNumber_3 v0R σ) = _
  unfold T_Md_takeNumber_3
  simp only [lpK_ite, lq_inl, lq_inr, lpK_bnd, lpK_gd, lq_let]
  try rfl
noncomputable def M_Md_takeNumber (v0R : Nat) (v1I : Int32) (v2I : Int32) (σ : AM) : Option (Int32 × AM) := mw σ (L_Md_takeNumber_0 v0R v1I v2I σ)
def I_Md_takeNumber (G : GX) (p : Program) (l : Launch) (e : Env) (s : State) (m : MethodId) (args : Array Value) (below : List Frame) (meth : Method) (c : Code) (z0 u0 n : Nat) : Prop :=
  (∀ (v0R : Nat) (v1I : Int32) (v2I : Int32) (σ : AM), VX (QM eI G args s below z0 u0) G p l e s m args below meth c 1 z0 u0 3 (lpn F_Md_takeNumber n (0, v0R, v1I, v2I, σ)) 0 [(0, .ref v0R), (1, .int v1I), (2, .int v2I)] [] σ) ∧
  (∀ (v0R : Nat) (v1I : Int32) (v2I : Int32) (σ : AM), VX (QM eI G args s below z0 u0) G p l e s m args below meth c 1 z0 u0 3 (lpn F_Md_takeNumber n (1, v0R, v1I, v2I, σ)) 28 [(0, .ref v0R), (1, .int v1I), (2, .int v2I)] [] σ) ∧
  (∀ (v0R : Nat) (σ : AM), VX (QM eI G args s below z0 u0) G p l e s m args below meth c 1 z0 u0 3 (lpn F_Md_takeNumber n (2, v0R, 0, 0, σ)) 65 [(0, .ref v0R)] [] σ) ∧
  (∀ (v0R : Nat) (σ : AM), VX (QM eI G args s below z0 u0) G p l e s m args below meth c 1 z0 u0 3 (lpn F_Md_takeNumber n (3, v0R, 0, 0, σ)) 70 [(0, .ref v0R)] [] σ)
set_option maxRecDepth 20000 in
theorem s_Md_takeNumber_0 {G : GX} {p : Program} {l : Launch} {e : Env} {s : State} {m : MethodId} {args : Array Value} {below : List Frame} {meth : Method} {c : Code} {z0 u0 n : Nat} (C : Cx G p s m args meth c prog_14_method_18_code 3 "BellPlateModel" ((some FieldType.int))) (IH : I_Md_takeNumber G p l e s m args below meth c z0 u0 n) (v0R : Nat) (v1I : Int32) (v2I : Int32) (σ : AM) : VX (QM eI G args s below z0 u0) G p l e s m args below meth c 1 z0 u0 3 (lpK (lpn F_Md_takeNumber n) (T_Md_takeNumber_0 v0R v1I v2I σ)) 0 [(0, .ref v0R), (1, .int v1I), (2, .int v2I)] [] σ := by
  unfold T_Md_takeNumber_0
  refine x_aload_n C d_Md_takeNumber_0 0 rfl ?_
  refine x_gd (fun h1 => ?_)
  refine x_getI (k := 8) C (okO_iff.mp h1) rfl j11_ok (by decide) rfl w1860 d_Md_takeNumber_1 ?_
  refine x_if_ne (tgt := 28) C d_Md_takeNumber_4 (by decide) (fun _ => ?_) (fun _ => ?_)
  · refine x_aload_n C d_Md_takeNumber_7 0 rfl ?_
    refine x_gd (fun h2 => ?_)
    refine x_getR (k := 4) (kv := 101) C (okO_iff.mp h1) rfl j11_ok (by decide) rfl (okO_iff.mp h2) (by decide) w1856 d_Md_takeNumber_8 ?_
    refine x_aload_n C d_Md_takeNumber_11 0 rfl ?_
    refine x_getI (k := 7) C (okO_iff.mp h1) rfl j11_ok (by decide) rfl w1859 d_Md_takeNumber_12 ?_
    refine x_gd (fun h3 => ?_)
    refine x_aldI C (okO_iff.mp h2) (inB_iff.mp h3) d_Md_takeNumber_15 ?_
    refine x_iconst (v := (2 : Int32)) C d_Md_takeNumber_16 (by decide) ?_
    refine x_icmp_eq (tgt := 28) C d_Md_takeNumber_17 (by decide) (fun _ => ?_) (fun _ => ?_)
    · exact IH.2.1 v0R v1I v2I (σ)
    · refine x_aload_n C d_Md_takeNumber_20 0 rfl ?_
      refine x_iconst (v := (1 : Int32)) C d_Md_takeNumber_21 (by decide) ?_
      refine x_callVV (As := [.int (1 : Int32)]) C (c_Md_faulty G l v0R (1 : Int32) σ) (okO_iff.mp h1) rfl w2114 w67 w2112 w2115 w134 k_Md_faulty rfl (by decide) (by decide) rfl (Nat.le_of_ble_eq_true rfl) d_Md_takeNumber_22 (fun r4 σ5 => ?_)
      refine x_goto (tgt := 70) C d_Md_takeNumber_25 (by decide) ?_
      refine x_lv [0] rfl ?_
      exact IH.2.2.2 v0R (σ5)
  · exact IH.2.1 v0R v1I v2I (σ)
set_option maxRecDepth 20000 in
theorem s_Md_takeNumber_1 {G : GX} {p : Program} {l : Launch} {e : Env} {s : State} {m : MethodId} {args : Array Value} {below : List Frame} {meth : Method} {c : Code} {z0 u0 n : Nat} (C : Cx G p s m args meth c prog_14_method_18_code 3 "BellPlateModel" ((some FieldType.int))) (IH : I_Md_takeNumber G p l e s m args below meth c z0 u0 n) (v0R : Nat) (v1I : Int32) (v2I : Int32) (σ : AM) : VX (QM eI G args s below z0 u0) G p l e s m args below meth c 1 z0 u0 3 (lpK (lpn F_Md_takeNumber n) (T_Md_takeNumber_1 v0R v1I v2I σ)) 28 [(0, .ref v0R), (1, .int v1I), (2, .int v2I)] [] σ := by
  unfold T_Md_takeNumber_1
  refine x_aload_n C d_Md_takeNumber_28 0 rfl ?_
  refine x_gd (fun h1 => ?_)
  refine x_getI (k := 8) C (okO_iff.mp h1) rfl j11_ok (by decide) rfl w1860 d_Md_takeNumber_29 ?_
  refine x_if_ne (tgt := 70) C d_Md_takeNumber_32 (by decide) (fun _ => ?_) (fun _ => ?_)
  · refine x_aload_n C d_Md_takeNumber_35 0 rfl ?_
    refine x_gd (fun h2 => ?_)
    refine x_getR (k := 6) (kv := 102) C (okO_iff.mp h1) rfl j11_ok (by decide) rfl (okO_iff.mp h2) (by decide) w1858 d_Md_takeNumber_36 ?_
    refine x_aload_n C d_Md_takeNumber_39 0 rfl ?_
    refine x_getI (k := 7) C (okO_iff.mp h1) rfl j11_ok (by decide) rfl w1859 d_Md_takeNumber_40 ?_
    refine x_gd (fun h3 => ?_)
    refine x_aldJ C (okO_iff.mp h2) (inB_iff.mp h3) d_Md_takeNumber_43 ?_
    refine x_iload_n C d_Md_takeNumber_44 1 rfl ?_
    refine x_i2l C d_Md_takeNumber_45 ?_
    refine x_lcmp C d_Md_takeNumber_46 ?_
    refine x_if_lt (tgt := 65) C d_Md_takeNumber_47 (by decide) (fun _ => ?_) (fun _ => ?_)
    · refine x_lv [0] rfl ?_
      exact IH.2.2.1 v0R (σ)
    · refine x_aload_n C d_Md_takeNumber_50 0 rfl ?_
      refine x_getR (k := 6) (kv := 102) C (okO_iff.mp h1) rfl j11_ok (by decide) rfl (okO_iff.mp h2) (by decide) w1858 d_Md_takeNumber_51 ?_
      refine x_aload_n C d_Md_takeNumber_54 0 rfl ?_
      refine x_getI (k := 7) C (okO_iff.mp h1) rfl j11_ok (by decide) rfl w1859 d_Md_takeNumber_55 ?_
      refine x_aldJ C (okO_iff.mp h2) (inB_iff.mp h3) d_Md_takeNumber_58 ?_
      refine x_iload_n C d_Md_takeNumber_59 2 rfl ?_
      refine x_i2l C d_Md_takeNumber_60 ?_
      refine x_lcmp C d_Md_takeNumber_61 ?_
      refine x_if_le (tgt := 70) C d_Md_takeNumber_62 (by decide) (fun _ => ?_) (fun _ => ?_)
      · refine x_lv [0] rfl ?_
        exact IH.2.2.1 v0R (σ)
      · refine x_lv [0] rfl ?_
        exact IH.2.2.2 v0R (σ)
  · refine x_lv [0] rfl ?_
    exact IH.2.2.2 v0R (σ)
set_option maxRecDepth 20000 in
theorem s_Md_takeNumber_2 {G : GX} {p : Program} {l : Launch} {e : Env} {s : State} {m : MethodId} {args : Array Value} {below : List Frame} {meth : Method} {c : Code} {z0 u0 n : Nat} (C : Cx G p s m args meth c prog_14_method_18_code 3 "BellPlateModel" ((some FieldType.int))) (IH : I_Md_takeNumber G p l e s m args below meth c z0 u0 n) (v0R : Nat) (σ : AM) : VX (QM eI G args s below z0 u0) G p l e s m args below meth c 1 z0 u0 3 (lpK (lpn F_Md_takeNumber n) (T_Md_takeNumber_2 v0R σ)) 65 [(0, .ref v0R)] [] σ := by
  unfold T_Md_takeNumber_2
  refine x_aload_n C d_Md_takeNumber_65 0 rfl ?_
  refine x_iconst (v := (4 : Int32)) C d_Md_takeNumber_66 (by decide) ?_
  refine x_gd (fun h3 => ?_)
  refine x_callVV (As := [.int (4 : Int32)]) C (c_Md_faulty G l v0R (4 : Int32) σ) (okO_iff.mp h3) rfl w2114 w67 w2112 w2115 w134 k_Md_faulty rfl (by decide) (by decide) rfl (Nat.le_of_ble_eq_true rfl) d_Md_takeNumber_67 (fun r1 σ2 => ?_)
  exact IH.2.2.2 v0R (σ2)
set_option maxRecDepth 20000 in
theorem s_Md_takeNumber_3 {G : GX} {p : Program} {l : Launch} {e : Env} {s : State} {m : MethodId} {args : Array Value} {below : List Frame} {meth : Method} {c : Code} {z0 u0 n : Nat} (C : Cx G p s m args meth c prog_14_method_18_code 3 "BellPlateModel" ((some FieldType.int))) (IH : I_Md_takeNumber G p l e s m args below meth c z0 u0 n) (v0R : Nat) (σ : AM) : VX (QM eI G args s below z0 u0) G p l e s m args below meth c 1 z0 u0 3 (lpK (lpn F_Md_takeNumber n) (T_Md_takeNumber_3 v0R σ)) 70 [(0, .ref v0R)] [] σ := by
  unfold T_Md_takeNumber_3
  refine x_aload_n C d_Md_takeNumber_70 0 rfl ?_
  refine x_gd (fun h1 => ?_)
  refine x_getI (k := 8) C (okO_iff.mp h1) rfl j11_ok (by decide) rfl w1860 d_Md_takeNumber_71 ?_
  refine x_if_le (tgt := 79) C d_Md_takeNumber_74 (by decide) (fun _ => ?_) (fun _ => ?_)
  · refine x_iconst (v := (0 : Int32)) C d_Md_takeNumber_77 (by decide) ?_
    exact x_iret C d_Md_takeNumber_78
  · refine x_aload_n C d_Md_takeNumber_79 0 rfl ?_
    refine x_dup C d_Md_takeNumber_80 rfl ?_
    refine x_getI (k := 7) C (okO_iff.mp h1) rfl j11_ok (by decide) rfl w1859 d_Md_takeNumber_81 ?_
    refine x_iconst (v := (1 : Int32)) C d_Md_takeNumber_84 (by decide) ?_
    refine x_iadd C d_Md_takeNumber_85 ?_
    refine x_putI (k := 7) C (okO_iff.mp h1) rfl j11_ok y11_ok n11_ok (by decide) rfl rfl rfl rfl w1859 d_Md_takeNumber_86 ?_
    refine x_letS (fun σ2 e3 => ?_)
    refine x_aload_n C d_Md_takeNumber_89 0 rfl ?_
    refine x_gd (fun h4 => ?_)
    refine x_getR (k := 6) (kv := 102) C (by first | exact (okO_iff.mp h1) | (rw [e3]; exact (okO_iff.mp h1))) rfl j11_ok (by decide) rfl (okO_iff.mp h4) (by decide) w1858 d_Md_takeNumber_90 ?_
    refine x_aload_n C d_Md_takeNumber_93 0 rfl ?_
    refine x_getI (k := 7) C (by first | exact (okO_iff.mp h1) | (rw [e3]; exact (okO_iff.mp h1))) rfl j11_ok (by decide) rfl w1859 d_Md_takeNumber_94 ?_
    refine x_iconst (v := (1 : Int32)) C d_Md_takeNumber_97 (by decide) ?_
    refine x_isub C d_Md_takeNumber_98 ?_
    refine x_gd (fun h5 => ?_)
    refine x_aldJ C (okO_iff.mp h4) (inB_iff.mp h5) d_Md_takeNumber_99 ?_
    refine x_l2i C d_Md_takeNumber_100 ?_
    exact x_iret C d_Md_takeNumber_101
theorem i_Md_takeNumber {G : GX} {p : Program} {l : Launch} {e : Env} {s : State} {m : MethodId} {args : Array Value} {below : List Frame} {meth : Method} {c : Code} {z0 u0 : Nat} (C : Cx G p s m args meth c prog_14_method_18_code 3 "BellPlateModel" ((some FieldType.int))) (n : Nat) : I_Md_takeNumber G p l e s m args below meth c z0 u0 n := by
  induction n with
  | zero => exact ⟨fun _ _ _ _ => x_none, fun _ _ _ _ => x_none, fun _ _ => x_none, fun _ _ => x_none⟩
  | succ n IH => exact ⟨fun v0R v1I v2I σ => s_Md_takeNumber_0 C IH v0R v1I v2I σ, fun v0R v1I v2I σ => s_Md_takeNumber_1 C IH v0R v1I v2I σ, fun v0R σ => s_Md_takeNumber_2 C IH v0R σ, fun v0R σ => s_Md_takeNumber_3 C IH v0R σ⟩
theorem c_Md_takeNumber (G : GX) (l : Launch) (v0R : Nat) (v1I : Int32) (v2I : Int32) (σ : AM) : CT eI G l 1 y_Md_takeNumber prog_14_method_18_code 3 ((some FieldType.int)) [.ref v0R, .int v1I, .int v2I] σ (M_Md_takeNumber v0R v1I v2I σ) := by
  refine ct_of (by decide +kernel) (Nat.le_of_ble_eq_true rfl) (fun p e s m args below meth c C hin => ?_)
  refine x_lve (lv' := [(0, .ref v0R), (1, .int v1I), (2, .int v2I)]) rfl ?_
  intro r σ' h
  obtain ⟨n, hn⟩ := (lp_iff _ _ _).mp h
  exact (i_Md_takeNumber C n).1 v0R v1I v2I σ r σ' hn
/-! BellPlateModel.isName()Z -/
abbrev y_Md_isName : MethodName := ⟨"BellPlateModel", "isName", "()Z"⟩
theorem k_Md_isName : y_Md_isName.cls ≠ "java/lang/invoke/MethodHandle" ∧ y_Md_isName.cls ≠ "java/lang/invoke/VarHandle" ∧ (parseMethodDescriptor y_Md_isName.desc).map (fun d => d.parameters.length) = some 0 := by decide +kernel
theorem d_Md_isName_0 : decode prog_14_method_19_code 0 = .ok (.aload_n 0, 1) := by decide +kernel
theorem d_Md_isName_1 : decode prog_14_method_19_code 1 = .ok (.getfield 196, 3) := by decide +kernel
theorem d_Md_isName_4 : decode prog_14_method_19_code 4 = .ok (.ifCond .ne 20, 3) := by decide +kernel
theorem d_Md_isName_7 : decode prog_14_method_19_code 7 = .ok (.aload_n 0, 1) := by decide +kernel
theorem d_Md_isName_8 : decode prog_14_method_19_code 8 = .ok (.getfield 24, 3) := by decide +kernel
theorem d_Md_isName_11 : decode prog_14_method_19_code 11 = .ok (.aload_n 0, 1) := by decide +kernel
theorem d_Md_isName_12 : decode prog_14_method_19_code 12 = .ok (.getfield 193, 3) := by decide +kernel
theorem d_Md_isName_15 : decode prog_14_method_19_code 15 = .ok (.iaload, 1) := by decide +kernel
theorem d_Md_isName_16 : decode prog_14_method_19_code 16 = .ok (.iconst 1, 1) := by decide +kernel
theorem d_Md_isName_17 : decode prog_14_method_19_code 17 = .ok (.if_icmp .ne 7, 3) := by decide +kernel
theorem d_Md_isName_20 : decode prog_14_method_19_code 20 = .ok (.iconst 1, 1) := by decide +kernel
theorem d_Md_isName_21 : decode prog_14_method_19_code 21 = .ok (.goto 4, 3) := by decide +kernel
theorem d_Md_isName_24 : decode prog_14_method_19_code 24 = .ok (.iconst 0, 1) := by decide +kernel
theorem d_Md_isName_25 : decode prog_14_method_19_code 25 = .ok (.istore_n 1, 1) := by decide +kernel
theorem d_Md_isName_26 : decode prog_14_method_19_code 26 = .ok (.iconst 0, 1) := by decide +kernel
theorem d_Md_isName_27 : decode prog_14_method_19_code 27 = .ok (.istore_n 2, 1) := by decide +kernel
theorem d_Md_isName_28 : decode prog_14_method_19_code 28 = .ok (.iload_n 2, 1) := by decide +kernel
theorem d_Md_isName_29 : decode prog_14_method_19_code 29 = .ok (.bipush 10, 2) := by decide +kernel
theorem d_Md_isName_31 : decode prog_14_method_19_code 31 = .ok (.if_icmp .ge 38, 3) := by decide +kernel
theorem d_Md_isName_34 : decode prog_14_method_19_code 34 = .ok (.iload_n 1, 1) := by decide +kernel
theorem d_Md_isName_35 : decode prog_14_method_19_code 35 = .ok (.ifCond .eq 26, 3) := by decide +kernel
theorem d_Md_isName_38 : decode prog_14_method_19_code 38 = .ok (.aload_n 0, 1) := by decide +kernel
theorem d_Md_isName_39 : decode prog_14_method_19_code 39 = .ok (.getfield 30, 3) := by decide +kernel
theorem d_Md_isName_42 : decode prog_14_method_19_code 42 = .ok (.aload_n 0, 1) := by decide +kernel
theorem d_Md_isName_43 : decode prog_14_method_19_code 43 = .ok (.getfield 193, 3) := by decide +kernel
theorem d_Md_isName_46 : decode prog_14_method_19_code 46 = .ok (.laload, 1) := by decide +kernel
theorem d_Md_isName_47 : decode prog_14_method_19_code 47 = .ok (.aload_n 0, 1) := by decide +kernel
theorem d_Md_isName_48 : decode prog_14_method_19_code 48 = .ok (.getfield 54, 3) := by decide +kernel
theorem d_Md_isName_51 : decode prog_14_method_19_code 51 = .ok (.iload_n 2, 1) := by decide +kernel
theorem d_Md_isName_52 : decode prog_14_method_19_code 52 = .ok (.laload, 1) := by decide +kernel
theorem d_Md_isName_53 : decode prog_14_method_19_code 53 = .ok (.lcmp, 1) := by decide +kernel
theorem d_Md_isName_54 : decode prog_14_method_19_code 54 = .ok (.ifCond .eq 7, 3) := by decide +kernel
theorem d_Md_isName_57 : decode prog_14_method_19_code 57 = .ok (.iconst 1, 1) := by decide +kernel
theorem d_Md_isName_58 : decode prog_14_method_19_code 58 = .ok (.goto 4, 3) := by decide +kernel
theorem d_Md_isName_61 : decode prog_14_method_19_code 61 = .ok (.iconst 0, 1) := by decide +kernel
theorem d_Md_isName_62 : decode prog_14_method_19_code 62 = .ok (.istore_n 1, 1) := by decide +kernel
theorem d_Md_isName_63 : decode prog_14_method_19_code 63 = .ok (.iinc 2 1, 3) := by decide +kernel
theorem d_Md_isName_66 : decode prog_14_method_19_code 66 = .ok (.goto (-38), 3) := by decide +kernel
theorem d_Md_isName_69 : decode prog_14_method_19_code 69 = .ok (.iload_n 1, 1) := by decide +kernel
theorem d_Md_isName_70 : decode prog_14_method_19_code 70 = .ok (.ireturn, 1) := by decide +kernel
abbrev S_Md_isName : Type := Nat × Nat × Int32 × Int32 × Int32 × AM
noncomputable def T_Md_isName_0 (v0R : Nat) (σ : AM) : S_Md_isName ⊕ Option (Int32 × AM) :=
  gdT (okO σ v0R 12) <| if (aI σ v0R 8) = 0 then (gdT (okO σ (aR σ v0R 4) 101) <| gdT (inB (aI σ v0R 7) (aN σ (aR σ v0R 4))) <| if (aI σ (aR σ v0R 4) (aI σ v0R 7).toNatClampNeg) = (1 : Int32) then (.inl (2, v0R, 0, 0, (1 : Int32), σ)) else (.inl (1, v0R, 0, 0, 0, σ))) else (.inl (1, v0R, 0, 0, 0, σ))
noncomputable def T_Md_isName_1 (v0R : Nat) (σ : AM) : S_Md_isName ⊕ Option (Int32 × AM) :=
  .inl (2, v0R, 0, 0, (0 : Int32), σ)
noncomputable def T_Md_isName_2 (v0R : Nat) (s0I : Int32) (σ : AM) : S_Md_isName ⊕ Option (Int32 × AM) :=
  .inl (3, v0R, s0I, (0 : Int32), 0, σ)
noncomputable def T_Md_isName_3 (v0R : Nat) (v1I : Int32) (v2I : Int32) (σ : AM) : S_Md_isName ⊕ Option (Int32 × AM) :=
  if v2I < (10 : Int32) then (if v1I = 0 then (.inl (4, v0R, 0, v2I, 0, σ)) else (gdT (okO σ v0R 12) <| gdT (okO σ (aR σ v0R 6) 102) <| gdT (inB (aI σ v0R 7) (aN σ (aR σ v0R 6))) <| gdT (okO σ (aR σ v0R 9) 102) <| gdT (inB v2I (aN σ (aR σ v0R 9))) <| if (lg_cmp (aL σ (aR σ v0R 6) (aI σ v0R 7).toNatClampNeg) (aL σ (aR σ v0R 9) v2I.toNatClampNeg)) = 0 then (.inl (4, v0R, 0, v2I, 0, σ)) else (.inl (5, v0R, 0, v2I, (1 : Int32), σ)))) else (gdT (isB v1I) <| .inr (some (v1I, σ)))
noncomputable def T_Md_isName_4 (v0R : Nat) (v2I : Int32) (σ : AM) : S_Md_isName ⊕ Option (Int32 × AM) :=
  .inl (5, v0R, 0, v2I, (0 : Int32), σ)
noncomputable def T_Md_isName_5 (v0R : Nat) (v2I : Int32) (s0I : Int32) (σ : AM) : S_Md_isName ⊕ Option (Int32 × AM) :=
  .inl (3, v0R, s0I, v2I + (1 : Int32), 0, σ)
noncomputable def F_Md_isName : S_Md_isName → S_Md_isName ⊕ Option (Int32 × AM) := fun s => match s.1 with
  | 0 => T_Md_isName_0 (s.2.1) (s.2.2.2.2.2)
  | 1 => T_Md_isName_1 (s.2.1) (s.2.2.2.2.2)
  | 2 => T_Md_isName_2 (s.2.1) (s.2.2.2.2.1) (s.2.2.2.2.2)
  | 3 => T_Md_isName_3 (s.2.1) (s.2.2.1) (s.2.2.2.1) (s.2.2.2.2.2)
  | 4 => T_Md_isName_4 (s.2.1) (s.2.2.2.1) (s.2.2.2.2.2)
  | _ => T_Md_isName_5 (s.2.1) (s.2.2.2.1) (s.2.2.2.2.1) (s.2.2.2.2.2)
noncomputable def L_Md_isName_0 (v0R : Nat) (σ : AM) : Option (Int32 × AM) := lp F_Md_isName (0, v0R, 0, 0, 0, σ)
noncomputable def L_Md_isName_1 (v0R : Nat) (σ : AM) : Option (Int32 × AM) := lp F_Md_isName (1, v0R, 0, 0, 0, σ)
noncomputable def L_Md_isName_2 (v0R : Nat) (s0I : Int32) (σ : AM) : Option (Int32 × AM) := lp F_Md_isName (2, v0R, 0, 0, s0I, σ)
noncomputable def L_Md_isName_3 (v0R : Nat) (v1I : Int32) (v2I : Int32) (σ : AM) : Option (Int32 × AM) := lp F_Md_isName (3, v0R, v1I, v2I, 0, σ)
noncomputable def L_Md_isName_4 (v0R : Nat) (v2I : Int32) (σ : AM) : Option (Int32 × AM) := lp F_Md_isName (4, v0R, 0, v2I, 0, σ)
noncomputable def L_Md_isName_5 (v0R : Nat) (v2I : Int32) (s0I : Int32) (σ : AM) : Option (Int32 × AM) := lp F_Md_isName (5, v0R, 0, v2I, s0I, σ)
set_option maxRecDepth 20000 in
theorem E_Md_isName_0 (v0R : Nat) (σ : AM) : L_Md_isName_0 v0R σ = (gd (okO σ v0R 12) <| if (aI σ v0R 8) = 0 then (gd (okO σ (aR σ v0R 4) 101) <| gd (inB (aI σ v0R 7) (aN σ (aR σ v0R 4))) <| if (aI σ (aR σ v0R 4) (aI σ v0R 7).toNatClampNeg) = (1 : Int32) then (L_Md_isName_2 v0R ((1 : Int32)) σ) else (L_Md_isName_1 v0R σ)) else (L_Md_isName_1 v0R σ)) := by
  unfold L_Md_isName_0
  rw [lp_eq]
  show lpK (lp F_Md_isName) (T_Md_isName_0 v0R σ) = _
  unfold T_Md_isName_0
  simp only [lpK_ite, lq_inl, lq_inr, lpK_bnd, lpK_gd, lq_let]
  try rfl
set_option maxRecDepth 20000 in
theorem E_Md_isName_1 (v0R : Nat) (σ : AM) : L_Md_isName_1 v0R σ = (L_Md_isName_2 v0R ((0 : Int32)) σ) := by
  unfold L_Md_isName_1
  rw [lp_eq]
  show lpK (lp F_Md_isName) (T_Md_isName_1 v0R σ) = _
  unfold T_Md_isName_1
  simp only [lpK_ite, lq_inl, lq_inr, lpK_bnd, lpK_gd, lq_let]
  try rfl
set_option maxRecDepth 20000 in
theorem E_Md_isName_2 (v0R : Nat) (s0I : Int32) (σ : AM) : L_Md_isName_2 v0R s0I σ = (L_Md_isName_3 v0R s0I ((0 : Int32)) σ) := by
  unfold L_Md_isName_2
  rw [lp_eq]
  show lpK (lp F_Md_isName) (T_Md_isName_2 v0R s0I σ) = _
  unfold T_Md_isName_2
  simp only [lpK_ite, lq_inl, lq_inr, lpK_bnd, lpK_gd, lq_let]
  try rfl
set_option maxRecDepth 20000 in
theorem E_Md_isName_3 (v0R : Nat) (v1I : Int32) (v2I : Int32) (σ : AM) : L_Md_isName_3 v0R v1I v2I σ = (if v2I < (10 : Int32) then (if v1I = 0 then (L_Md_isName_4 v0R v2I σ) else (gd (okO σ v0R 12) <| gd (okO σ (aR σ v0R 6) 102) <| gd (inB (aI σ v0R 7) (aN σ (aR σ v0R 6))) <| gd (okO σ (aR σ v0R 9) 102) <| gd (inB v2I (aN σ (aR σ v0R 9))) <| if (lg_cmp (aL σ (aR σ v0R 6) (aI σ v0R 7).toNatClampNeg) (aL σ (aR σ v0R 9) v2I.toNatClampNeg)) = 0 then (L_Md_isName_4 v0R v2I σ) else (L_Md_isName_5 v0R v2I ((1 : Int32)) σ))) else (gd (isB v1I) <| (some (v1I, σ)))) := by
  unfold L_Md_isName_3
  rw [lp_eq]
  show lpK (lp F_Md_isName) (T_Md_isName_3 v0R v1I v2I σ) = _
  unfold T_Md_isName_3
  simp only [lpK_ite, lq_inl, lq_inr, lpK_bnd, lpK_gd, lq_let]
  try rfl
set_option maxRecDepth 20000 in
theorem E_Md_isName_4 (v0R : Nat) (v2I : Int32) (σ : AM) : L_Md_isName_4 v0R v2I σ = (L_Md_isName_5 v0R v2I ((0 : Int32)) σ) := by
  unfold L_Md_isName_4
  rw [lp_eq]
  show lpK (lp F_Md_isName) (T_Md_isName_4 v0R v2I σ) = _
  unfold T_Md_isName_4
  simp only [lpK_ite, lq_inl, lq_inr, lpK_bnd, lpK_gd, lq_let]
  try rfl
set_option maxRecDepth 20000 in
theorem E_Md_isName_5 (v0R : Nat) (v2I : Int32) (s0I : Int32) (σ : AM) : L_Md_isName_5 v0R v2I s0I σ = (L_Md_isName_3 v0R s0I (v2I + (1 : Int32)) σ) := by
  unfold L_Md_isName_5
  rw [lp_eq]
  show lpK (lp F_Md_isName) (T_Md_isName_5 v0R v2I s0I σ) = _
  unfold T_Md_isName_5
  simp only [lpK_ite, lq_inl, lq_inr, lpK_bnd, lpK_gd, lq_let]
  try rfl
noncomputable def M_Md_isName (v0R : Nat) (σ : AM) : Option (Int32 × AM) := mw σ (L_Md_isName_0 v0R σ)
def I_Md_isName (G : GX) (p : Program) (l : Launch) (e : Env) (s : State) (m : MethodId) (args : Array Value) (below : List Frame) (meth : Method) (c : Code) (z0 u0 n : Nat) : Prop :=
  (∀ (v0R : Nat) (σ : AM), VX (QM eI G args s below z0 u0) G p l e s m args below meth c 0 z0 u0 3 (lpn F_Md_isName n (0, v0R, 0, 0, 0, σ)) 0 [(0, .ref v0R)] [] σ) ∧
  (∀ (v0R : Nat) (σ : AM), VX (QM eI G args s below z0 u0) G p l e s m args below meth c 0 z0 u0 3 (lpn F_Md_isName n (1, v0R, 0, 0, 0, σ)) 24 [(0, .ref v0R)] [] σ) ∧
  (∀ (v0R : Nat) (s0I : Int32) (σ : AM), VX (QM eI G args s below z0 u0) G p l e s m args below meth c 0 z0 u0 3 (lpn F_Md_isName n (2, v0R, 0, 0, s0I, σ)) 25 [(0, .ref v0R)] [.int s0I] σ) ∧
  (∀ (v0R : Nat) (v1I : Int32) (v2I : Int32) (σ : AM), VX (QM eI G args s below z0 u0) G p l e s m args below meth c 0 z0 u0 3 (lpn F_Md_isName n (3, v0R, v1I, v2I, 0, σ)) 28 [(0, .ref v0R), (1, .int v1I), (2, .int v2I)] [] σ) ∧
  (∀ (v0R : Nat) (v2I : Int32) (σ : AM), VX (QM eI G args s below z0 u0) G p l e s m args below meth c 0 z0 u0 3 (lpn F_Md_isName n (4, v0R, 0, v2I, 0, σ)) 61 [(0, .ref v0R), (2, .int v2I)] [] σ) ∧
  (∀ (v0R : Nat) (v2I : Int32) (s0I : Int32) (σ : AM), VX (QM eI G args s below z0 u0) G p l e s m args below meth c 0 z0 u0 3 (lpn F_Md_isName n (5, v0R, 0, v2I, s0I, σ)) 62 [(0, .ref v0R), (2, .int v2I)] [.int s0I] σ)
set_option maxRecDepth 20000 in
theorem s_Md_isName_0 {G : GX} {p : Program} {l : Launch} {e : Env} {s : State} {m : MethodId} {args : Array Value} {below : List Frame} {meth : Method} {c : Code} {z0 u0 n : Nat} (C : Cx G p s m args meth c prog_14_method_19_code 3 "BellPlateModel" ((some FieldType.boolean))) (IH : I_Md_isName G p l e s m args below meth c z0 u0 n) (v0R : Nat) (σ : AM) : VX (QM eI G args s below z0 u0) G p l e s m args below meth c 0 z0 u0 3 (lpK (lpn F_Md_isName n) (T_Md_isName_0 v0R σ)) 0 [(0, .ref v0R)] [] σ := by
  unfold T_Md_isName_0
  refine x_aload_n C d_Md_isName_0 0 rfl ?_
  refine x_gd (fun h1 => ?_)
  refine x_getI (k := 8) C (okO_iff.mp h1) rfl j11_ok (by decide) rfl w1860 d_Md_isName_1 ?_
  refine x_if_ne (tgt := 24) C d_Md_isName_4 (by decide) (fun _ => ?_) (fun _ => ?_)
  · refine x_aload_n C d_Md_isName_7 0 rfl ?_
    refine x_gd (fun h2 => ?_)
    refine x_getR (k := 4) (kv := 101) C (okO_iff.mp h1) rfl j11_ok (by decide) rfl (okO_iff.mp h2) (by decide) w1856 d_Md_isName_8 ?_
    refine x_aload_n C d_Md_isName_11 0 rfl ?_
    refine x_getI (k := 7) C (okO_iff.mp h1) rfl j11_ok (by decide) rfl w1859 d_Md_isName_12 ?_
    refine x_gd (fun h3 => ?_)
    refine x_aldI C (okO_iff.mp h2) (inB_iff.mp h3) d_Md_isName_15 ?_
    refine x_iconst (v := (1 : Int32)) C d_Md_isName_16 (by decide) ?_
    refine x_icmp_ne (tgt := 24) C d_Md_isName_17 (by decide) (fun _ => ?_) (fun _ => ?_)
    · refine x_iconst (v := (1 : Int32)) C d_Md_isName_20 (by decide) ?_
      refine x_goto (tgt := 25) C d_Md_isName_21 (by decide) ?_
      exact IH.2.2.1 v0R ((1 : Int32)) (σ)
    · exact IH.2.1 v0R (σ)
  · exact IH.2.1 v0R (σ)
set_option maxRecDepth 20000 in
theorem s_Md_isName_1 {G : GX} {p : Program} {l : Launch} {e : Env} {s : State} {m : MethodId} {args : Array Value} {below : List Frame} {meth : Method} {c : Code} {z0 u0 n : Nat} (C : Cx G p s m args meth c prog_14_method_19_code 3 "BellPlateModel" ((some FieldType.boolean))) (IH : I_Md_isName G p l e s m args below meth c z0 u0 n) (v0R : Nat) (σ : AM) : VX (QM eI G args s below z0 u0) G p l e s m args below meth c 0 z0 u0 3 (lpK (lpn F_Md_isName n) (T_Md_isName_1 v0R σ)) 24 [(0, .ref v0R)] [] σ := by
  unfold T_Md_isName_1
  refine x_iconst (v := (0 : Int32)) C d_Md_isName_24 (by decide) ?_
  exact IH.2.2.1 v0R ((0 : Int32)) (σ)
set_option maxRecDepth 20000 in
theorem s_Md_isName_2 {G : GX} {p : Program} {l : Launch} {e : Env} {s : State} {m : MethodId} {args : Array Value} {below : List Frame} {meth : Method} {c : Code} {z0 u0 n : Nat} (C : Cx G p s m args meth c prog_14_method_19_code 3 "BellPlateModel" ((some FieldType.boolean))) (IH : I_Md_isName G p l e s m args below meth c z0 u0 n) (v0R : Nat) (s0I : Int32) (σ : AM) : VX (QM eI G args s below z0 u0) G p l e s m args below meth c 0 z0 u0 3 (lpK (lpn F_Md_isName n) (T_Md_isName_2 v0R s0I σ)) 25 [(0, .ref v0R)] [.int s0I] σ := by
  unfold T_Md_isName_2
  refine x_istore_n (lv' := [(1, .int s0I), (0, .ref v0R)]) C d_Md_isName_25 (by decide) rfl rfl ?_
  refine x_iconst (v := (0 : Int32)) C d_Md_isName_26 (by decide) ?_
  refine x_istore_n (lv' := [(2, .int (0 : Int32)), (1, .int s0I), (0, .ref v0R)]) C d_Md_isName_27 (by decide) rfl rfl ?_
  refine x_lv [2, 1, 0] rfl ?_
  exact IH.2.2.2.1 v0R s0I ((0 : Int32)) (σ)
set_option maxRecDepth 20000 in
theorem s_Md_isName_3 {G : GX} {p : Program} {l : Launch} {e : Env} {s : State} {m : MethodId} {args : Array Value} {below : List Frame} {meth : Method} {c : Code} {z0 u0 n : Nat} (C : Cx G p s m args meth c prog_14_method_19_code 3 "BellPlateModel" ((some FieldType.boolean))) (IH : I_Md_isName G p l e s m args below meth c z0 u0 n) (v0R : Nat) (v1I : Int32) (v2I : Int32) (σ : AM) : VX (QM eI G args s below z0 u0) G p l e s m args below meth c 0 z0 u0 3 (lpK (lpn F_Md_isName n) (T_Md_isName_3 v0R v1I v2I σ)) 28 [(0, .ref v0R), (1, .int v1I), (2, .int v2I)] [] σ := by
  unfold T_Md_isName_3
  refine x_iload_n C d_Md_isName_28 2 rfl ?_
  refine x_bipush (v := (10 : Int32)) C d_Md_isName_29 (by decide) ?_
  refine x_icmp_ge (tgt := 69) C d_Md_isName_31 (by decide) (fun _ => ?_) (fun _ => ?_)
  · refine x_iload_n C d_Md_isName_34 1 rfl ?_
    refine x_if_eq (tgt := 61) C d_Md_isName_35 (by decide) (fun _ => ?_) (fun _ => ?_)
    · refine x_lv [0, 2] rfl ?_
      exact IH.2.2.2.2.1 v0R v2I (σ)
    · refine x_aload_n C d_Md_isName_38 0 rfl ?_
      refine x_gd (fun h1 => ?_)
      refine x_gd (fun h2 => ?_)
      refine x_getR (k := 6) (kv := 102) C (okO_iff.mp h1) rfl j11_ok (by decide) rfl (okO_iff.mp h2) (by decide) w1858 d_Md_isName_39 ?_
      refine x_aload_n C d_Md_isName_42 0 rfl ?_
      refine x_getI (k := 7) C (okO_iff.mp h1) rfl j11_ok (by decide) rfl w1859 d_Md_isName_43 ?_
      refine x_gd (fun h3 => ?_)
      refine x_aldJ C (okO_iff.mp h2) (inB_iff.mp h3) d_Md_isName_46 ?_
      refine x_aload_n C d_Md_isName_47 0 rfl ?_
      refine x_gd (fun h4 => ?_)
      refine x_getR (k := 9) (kv := 102) C (okO_iff.mp h1) rfl j11_ok (by decide) rfl (okO_iff.mp h4) (by decide) w1861 d_Md_isName_48 ?_
      refine x_iload_n C d_Md_isName_51 2 rfl ?_
      refine x_gd (fun h5 => ?_)
      refine x_aldJ C (okO_iff.mp h4) (inB_iff.mp h5) d_Md_isName_52 ?_
      refine x_lcmp C d_Md_isName_53 ?_
      refine x_if_eq (tgt := 61) C d_Md_isName_54 (by decide) (fun _ => ?_) (fun _ => ?_)
      · refine x_lv [0, 2] rfl ?_
        exact IH.2.2.2.2.1 v0R v2I (σ)
      · refine x_iconst (v := (1 : Int32)) C d_Md_isName_57 (by decide) ?_
        refine x_goto (tgt := 62) C d_Md_isName_58 (by decide) ?_
        refine x_lv [0, 2] rfl ?_
        exact IH.2.2.2.2.2 v0R v2I ((1 : Int32)) (σ)
  · refine x_iload_n C d_Md_isName_69 1 rfl ?_
    refine x_gd (fun h6 => ?_)
    exact x_zret C (isB_narrow h6) d_Md_isName_70
set_option maxRecDepth 20000 in
theorem s_Md_isName_4 {G : GX} {p : Program} {l : Launch} {e : Env} {s : State} {m : MethodId} {args : Array Value} {below : List Frame} {meth : Method} {c : Code} {z0 u0 n : Nat} (C : Cx G p s m args meth c prog_14_method_19_code 3 "BellPlateModel" ((some FieldType.boolean))) (IH : I_Md_isName G p l e s m args below meth c z0 u0 n) (v0R : Nat) (v2I : Int32) (σ : AM) : VX (QM eI G args s below z0 u0) G p l e s m args below meth c 0 z0 u0 3 (lpK (lpn F_Md_isName n) (T_Md_isName_4 v0R v2I σ)) 61 [(0, .ref v0R), (2, .int v2I)] [] σ := by
  unfold T_Md_isName_4
  refine x_iconst (v := (0 : Int32)) C d_Md_isName_61 (by decide) ?_
  exact IH.2.2.2.2.2 v0R v2I ((0 : Int32)) (σ)
set_option maxRecDepth 20000 in
theorem s_Md_isName_5 {G : GX} {p : Program} {l : Launch} {e : Env} {s : State} {m : MethodId} {args : Array Value} {below : List Frame} {meth : Method} {c : Code} {z0 u0 n : Nat} (C : Cx G p s m args meth c prog_14_method_19_code 3 "BellPlateModel" ((some FieldType.boolean))) (IH : I_Md_isName G p l e s m args below meth c z0 u0 n) (v0R : Nat) (v2I : Int32) (s0I : Int32) (σ : AM) : VX (QM eI G args s below z0 u0) G p l e s m args below meth c 0 z0 u0 3 (lpK (lpn F_Md_isName n) (T_Md_isName_5 v0R v2I s0I σ)) 62 [(0, .ref v0R), (2, .int v2I)] [.int s0I] σ := by
  unfold T_Md_isName_5
  refine x_istore_n (lv' := [(1, .int s0I), (0, .ref v0R), (2, .int v2I)]) C d_Md_isName_62 (by decide) rfl rfl ?_
  refine x_iinc (v := v2I + (1 : Int32)) (lv' := [(2, .int (v2I + (1 : Int32))), (1, .int s0I), (0, .ref v0R)]) C d_Md_isName_63 2 rfl rfl (by decide) rfl ?_
  refine x_goto (tgt := 28) C d_Md_isName_66 (by decide) ?_
  refine x_lv [2, 1, 0] rfl ?_
  exact IH.2.2.2.1 v0R s0I (v2I + (1 : Int32)) (σ)
theorem i_Md_isName {G : GX} {p : Program} {l : Launch} {e : Env} {s : State} {m : MethodId} {args : Array Value} {below : List Frame} {meth : Method} {c : Code} {z0 u0 : Nat} (C : Cx G p s m args meth c prog_14_method_19_code 3 "BellPlateModel" ((some FieldType.boolean))) (n : Nat) : I_Md_isName G p l e s m args below meth c z0 u0 n := by
  induction n with
  | zero => exact ⟨fun _ _ => x_none, fun _ _ => x_none, fun _ _ _ => x_none, fun _ _ _ _ => x_none, fun _ _ _ => x_none, fun _ _ _ _ => x_none⟩
  | succ n IH => exact ⟨fun v0R σ => s_Md_isName_0 C IH v0R σ, fun v0R σ => s_Md_isName_1 C IH v0R σ, fun v0R s0I σ => s_Md_isName_2 C IH v0R s0I σ, fun v0R v1I v2I σ => s_Md_isName_3 C IH v0R v1I v2I σ, fun v0R v2I σ => s_Md_isName_4 C IH v0R v2I σ, fun v0R v2I s0I σ => s_Md_isName_5 C IH v0R v2I s0I σ⟩
theorem c_Md_isName (G : GX) (l : Launch) (v0R : Nat) (σ : AM) : CT eI G l 0 y_Md_isName prog_14_method_19_code 3 ((some FieldType.boolean)) [.ref v0R] σ (M_Md_isName v0R σ) := by
  refine ct_of (by decide +kernel) (Nat.le_of_ble_eq_true rfl) (fun p e s m args below meth c C hin => ?_)
  refine x_lve (lv' := [(0, .ref v0R)]) rfl ?_
  intro r σ' h
  obtain ⟨n, hn⟩ := (lp_iff _ _ _).mp h
  exact (i_Md_isName C n).1 v0R σ r σ' hn
/-! BellPlateModel.nameOf(J)I -/
abbrev y_Md_nameOf : MethodName := ⟨"BellPlateModel", "nameOf", "(J)I"⟩
theorem k_Md_nameOf : y_Md_nameOf.cls ≠ "java/lang/invoke/MethodHandle" ∧ y_Md_nameOf.cls ≠ "java/lang/invoke/VarHandle" ∧ (parseMethodDescriptor y_Md_nameOf.desc).map (fun d => d.parameters.length) = some 1 := by decide +kernel
theorem d_Md_nameOf_0 : decode prog_14_method_20_code 0 = .ok (.iconst 0, 1) := by decide +kernel
theorem d_Md_nameOf_1 : decode prog_14_method_20_code 1 = .ok (.istore_n 3, 1) := by decide +kernel
theorem d_Md_nameOf_2 : decode prog_14_method_20_code 2 = .ok (.iload_n 3, 1) := by decide +kernel
theorem d_Md_nameOf_3 : decode prog_14_method_20_code 3 = .ok (.aload_n 0, 1) := by decide +kernel
theorem d_Md_nameOf_4 : decode prog_14_method_20_code 4 = .ok (.getfield 212, 3) := by decide +kernel
theorem d_Md_nameOf_7 : decode prog_14_method_20_code 7 = .ok (.if_icmp .ge 22, 3) := by decide +kernel
theorem d_Md_nameOf_10 : decode prog_14_method_20_code 10 = .ok (.aload_n 0, 1) := by decide +kernel
theorem d_Md_nameOf_11 : decode prog_14_method_20_code 11 = .ok (.getfield 60, 3) := by decide +kernel
theorem d_Md_nameOf_14 : decode prog_14_method_20_code 14 = .ok (.iload_n 3, 1) := by decide +kernel
theorem d_Md_nameOf_15 : decode prog_14_method_20_code 15 = .ok (.laload, 1) := by decide +kernel
theorem d_Md_nameOf_16 : decode prog_14_method_20_code 16 = .ok (.lload_n 1, 1) := by decide +kernel
theorem d_Md_nameOf_17 : decode prog_14_method_20_code 17 = .ok (.lcmp, 1) := by decide +kernel
theorem d_Md_nameOf_18 : decode prog_14_method_20_code 18 = .ok (.ifCond .ne 5, 3) := by decide +kernel
theorem d_Md_nameOf_21 : decode prog_14_method_20_code 21 = .ok (.iload_n 3, 1) := by decide +kernel
theorem d_Md_nameOf_22 : decode prog_14_method_20_code 22 = .ok (.ireturn, 1) := by decide +kernel
theorem d_Md_nameOf_23 : decode prog_14_method_20_code 23 = .ok (.iinc 3 1, 3) := by decide +kernel
theorem d_Md_nameOf_26 : decode prog_14_method_20_code 26 = .ok (.goto (-24), 3) := by decide +kernel
theorem d_Md_nameOf_29 : decode prog_14_method_20_code 29 = .ok (.iconst (-1), 1) := by decide +kernel
theorem d_Md_nameOf_30 : decode prog_14_method_20_code 30 = .ok (.ireturn, 1) := by decide +kernel
abbrev S_Md_nameOf : Type := Nat × Nat × Int64 × Int32 × AM
noncomputable def T_Md_nameOf_0 (v0R : Nat) (v1J : Int64) (σ : AM) : S_Md_nameOf ⊕ Option (Int32 × AM) :=
  .inl (1, v0R, v1J, (0 : Int32), σ)
noncomputable def T_Md_nameOf_1 (v0R : Nat) (v1J : Int64) (v3I : Int32) (σ : AM) : S_Md_nameOf ⊕ Option (Int32 × AM) :=
  gdT (okO σ v0R 12) <| if v3I < (aI σ v0R 15) then (gdT (okO σ (aR σ v0R 19) 102) <| gdT (inB v3I (aN σ (aR σ v0R 19))) <| if (lg_cmp (aL σ (aR σ v0R 19) v3I.toNatClampNeg) v1J) = 0 then (.inr (some (v3I, σ))) else (.inl (1, v0R, v1J, v3I + (1 : Int32), σ))) else (.inr (some (((-1) : Int32), σ)))
noncomputable def F_Md_nameOf : S_Md_nameOf → S_Md_nameOf ⊕ Option (Int32 × AM) := fun s => match s.1 with
  | 0 => T_Md_nameOf_0 (s.2.1) (s.2.2.1) (s.2.2.2.2)
  | _ => T_Md_nameOf_1 (s.2.1) (s.2.2.1) (s.2.2.2.1) (s.2.2.2.2)
noncomputable def L_Md_nameOf_0 (v0R : Nat) (v1J : Int64) (σ : AM) : Option (Int32 × AM) := lp F_Md_nameOf (0, v0R, v1J, 0, σ)
noncomputable def L_Md_nameOf_1 (v0R : Nat) (v1J : Int64) (v3I : Int32) (σ : AM) : Option (Int32 × AM) := lp F_Md_nameOf (1, v0R, v1J, v3I, σ)
set_option maxRecDepth 20000 in
theorem E_Md_nameOf_0 (v0R : Nat) (v1J : Int64) (σ : AM) : L_Md_nameOf_0 v0R v1J σ = (L_Md_nameOf_1 v0R v1J ((0 : Int32)) σ) := by
  unfold L_Md_nameOf_0
  rw [lp_eq]
  show lpK (lp F_Md_nameOf) (T_Md_nameOf_0 v0R v1J σ) = _
  unfold T_Md_nameOf_0
  simp only [lpK_ite, lq_inl, lq_inr, lpK_bnd, lpK_gd, lq_let]
  try rfl
set_option maxRecDepth 20000 in
theorem E_Md_nameOf_1 (v0R : Nat) (v1J : Int64) (v3I : Int32) (σ : AM) : L_Md_nameOf_1 v0R v1J v3I σ = (gd (okO σ v0R 12) <| if v3I < (aI σ v0R 15) then (gd (okO σ (aR σ v0R 19) 102) <| gd (inB v3I (aN σ (aR σ v0R 19))) <| if (lg_cmp (aL σ (aR σ v0R 19) v3I.toNatClampNeg) v1J) = 0 then ((some (v3I, σ))) else (L_Md_nameOf_1 v0R v1J (v3I + (1 : Int32)) σ)) else ((some (((-1) : Int32), σ)))) := by
  unfold L_Md_nameOf_1
  rw [lp_eq]
  show lpK (lp F_Md_nameOf) (T_Md_nameOf_1 v0R v1J v3I σ) = _
  unfold T_Md_nameOf_1
  simp only [lpK_ite, lq_inl, lq_inr, lpK_bnd, lpK_gd, lq_let]
  try rfl
noncomputable def M_Md_nameOf (v0R : Nat) (v1J : Int64) (σ : AM) : Option (Int32 × AM) := mw σ (L_Md_nameOf_0 v0R v1J σ)
def I_Md_nameOf (G : GX) (p : Program) (l : Launch) (e : Env) (s : State) (m : MethodId) (args : Array Value) (below : List Frame) (meth : Method) (c : Code) (z0 u0 n : Nat) : Prop :=
  (∀ (v0R : Nat) (v1J : Int64) (σ : AM), VX (QM eI G args s below z0 u0) G p l e s m args below meth c 0 z0 u0 4 (lpn F_Md_nameOf n (0, v0R, v1J, 0, σ)) 0 [(0, .ref v0R), (1, .long v1J)] [] σ) ∧
  (∀ (v0R : Nat) (v1J : Int64) (v3I : Int32) (σ : AM), VX (QM eI G args s below z0 u0) G p l e s m args below meth c 0 z0 u0 4 (lpn F_Md_nameOf n (1, v0R, v1J, v3I, σ)) 2 [(0, .ref v0R), (1, .long v1J), (3, .int v3I)] [] σ)
set_option maxRecDepth 20000 in
theorem s_Md_nameOf_0 {G : GX} {p : Program} {l : Launch} {e : Env} {s : State} {m : MethodId} {args : Array Value} {below : List Frame} {meth : Method} {c : Code} {z0 u0 n : Nat} (C : Cx G p s m args meth c prog_14_method_20_code 4 "BellPlateModel" ((some FieldType.int))) (IH : I_Md_nameOf G p l e s m args below meth c z0 u0 n) (v0R : Nat) (v1J : Int64) (σ : AM) : VX (QM eI G args s below z0 u0) G p l e s m args below meth c 0 z0 u0 4 (lpK (lpn F_Md_nameOf n) (T_Md_nameOf_0 v0R v1J σ)) 0 [(0, .ref v0R), (1, .long v1J)] [] σ := by
  unfold T_Md_nameOf_0
  refine x_iconst (v := (0 : Int32)) C d_Md_nameOf_0 (by decide) ?_
  refine x_istore_n (lv' := [(3, .int (0 : Int32)), (0, .ref v0R), (1, .long v1J)]) C d_Md_nameOf_1 (by decide) rfl rfl ?_
  refine x_lv [1, 2, 0] rfl ?_
  exact IH.2 v0R v1J ((0 : Int32)) (σ)
set_option maxRecDepth 20000 in
theorem s_Md_nameOf_1 {G : GX} {p : Program} {l : Launch} {e : Env} {s : State} {m : MethodId} {args : Array Value} {below : List Frame} {meth : Method} {c : Code} {z0 u0 n : Nat} (C : Cx G p s m args meth c prog_14_method_20_code 4 "BellPlateModel" ((some FieldType.int))) (IH : I_Md_nameOf G p l e s m args below meth c z0 u0 n) (v0R : Nat) (v1J : Int64) (v3I : Int32) (σ : AM) : VX (QM eI G args s below z0 u0) G p l e s m args below meth c 0 z0 u0 4 (lpK (lpn F_Md_nameOf n) (T_Md_nameOf_1 v0R v1J v3I σ)) 2 [(0, .ref v0R), (1, .long v1J), (3, .int v3I)] [] σ := by
  unfold T_Md_nameOf_1
  refine x_iload_n C d_Md_nameOf_2 2 rfl ?_
  refine x_aload_n C d_Md_nameOf_3 0 rfl ?_
  refine x_gd (fun h1 => ?_)
  refine x_getI (k := 15) C (okO_iff.mp h1) rfl j11_ok (by decide) rfl w1867 d_Md_nameOf_4 ?_
  refine x_icmp_ge (tgt := 29) C d_Md_nameOf_7 (by decide) (fun _ => ?_) (fun _ => ?_)
  · refine x_aload_n C d_Md_nameOf_10 0 rfl ?_
    refine x_gd (fun h2 => ?_)
    refine x_getR (k := 19) (kv := 102) C (okO_iff.mp h1) rfl j11_ok (by decide) rfl (okO_iff.mp h2) (by decide) w1871 d_Md_nameOf_11 ?_
    refine x_iload_n C d_Md_nameOf_14 2 rfl ?_
    refine x_gd (fun h3 => ?_)
    refine x_aldJ C (okO_iff.mp h2) (inB_iff.mp h3) d_Md_nameOf_15 ?_
    refine x_lload_n C d_Md_nameOf_16 1 rfl ?_
    refine x_lcmp C d_Md_nameOf_17 ?_
    refine x_if_ne (tgt := 23) C d_Md_nameOf_18 (by decide) (fun _ => ?_) (fun _ => ?_)
    · refine x_iload_n C d_Md_nameOf_21 2 rfl ?_
      exact x_iret C d_Md_nameOf_22
    · refine x_iinc (v := v3I + (1 : Int32)) (lv' := [(3, .int (v3I + (1 : Int32))), (0, .ref v0R), (1, .long v1J)]) C d_Md_nameOf_23 2 rfl rfl (by decide) rfl ?_
      refine x_goto (tgt := 2) C d_Md_nameOf_26 (by decide) ?_
      refine x_lv [1, 2, 0] rfl ?_
      exact IH.2 v0R v1J (v3I + (1 : Int32)) (σ)
  · refine x_iconst (v := ((-1) : Int32)) C d_Md_nameOf_29 (by decide) ?_
    exact x_iret C d_Md_nameOf_30
theorem i_Md_nameOf {G : GX} {p : Program} {l : Launch} {e : Env} {s : State} {m : MethodId} {args : Array Value} {below : List Frame} {meth : Method} {c : Code} {z0 u0 : Nat} (C : Cx G p s m args meth c prog_14_method_20_code 4 "BellPlateModel" ((some FieldType.int))) (n : Nat) : I_Md_nameOf G p l e s m args below meth c z0 u0 n := by
  induction n with
  | zero => exact ⟨fun _ _ _ => x_none, fun _ _ _ _ => x_none⟩
  | succ n IH => exact ⟨fun v0R v1J σ => s_Md_nameOf_0 C IH v0R v1J σ, fun v0R v1J v3I σ => s_Md_nameOf_1 C IH v0R v1J v3I σ⟩
theorem c_Md_nameOf (G : GX) (l : Launch) (v0R : Nat) (v1J : Int64) (σ : AM) : CT eI G l 0 y_Md_nameOf prog_14_method_20_code 4 ((some FieldType.int)) [.ref v0R, .long v1J] σ (M_Md_nameOf v0R v1J σ) := by
  refine ct_of (by decide +kernel) (Nat.le_of_ble_eq_true rfl) (fun p e s m args below meth c C hin => ?_)
  refine x_lve (lv' := [(0, .ref v0R), (1, .long v1J)]) rfl ?_
  intro r σ' h
  obtain ⟨n, hn⟩ := (lp_iff _ _ _).mp h
  exact (i_Md_nameOf C n).1 v0R v1J σ r σ' hn
/-! BellPlateModel.emit(II)V -/
abbrev y_Md_emit : MethodName := ⟨"BellPlateModel", "emit", "(II)V"⟩
theorem k_Md_emit : y_Md_emit.cls ≠ "java/lang/invoke/MethodHandle" ∧ y_Md_emit.cls ≠ "java/lang/invoke/VarHandle" ∧ (parseMethodDescriptor y_Md_emit.desc).map (fun d => d.parameters.length) = some 2 := by decide +kernel
theorem d_Md_emit_0 : decode prog_14_method_24_code 0 = .ok (.aload_n 0, 1) := by decide +kernel
theorem d_Md_emit_1 : decode prog_14_method_24_code 1 = .ok (.getfield 63, 3) := by decide +kernel
theorem d_Md_emit_4 : decode prog_14_method_24_code 4 = .ok (.sipush 1100, 3) := by decide +kernel
theorem d_Md_emit_7 : decode prog_14_method_24_code 7 = .ok (.aload_n 0, 1) := by decide +kernel
theorem d_Md_emit_8 : decode prog_14_method_24_code 8 = .ok (.getfield 218, 3) := by decide +kernel
theorem d_Md_emit_11 : decode prog_14_method_24_code 11 = .ok (.iadd, 1) := by decide +kernel
theorem d_Md_emit_12 : decode prog_14_method_24_code 12 = .ok (.iload_n 1, 1) := by decide +kernel
theorem d_Md_emit_13 : decode prog_14_method_24_code 13 = .ok (.iastore, 1) := by decide +kernel
theorem d_Md_emit_14 : decode prog_14_method_24_code 14 = .ok (.aload_n 0, 1) := by decide +kernel
theorem d_Md_emit_15 : decode prog_14_method_24_code 15 = .ok (.getfield 66, 3) := by decide +kernel
theorem d_Md_emit_18 : decode prog_14_method_24_code 18 = .ok (.sipush 1100, 3) := by decide +kernel
theorem d_Md_emit_21 : decode prog_14_method_24_code 21 = .ok (.aload_n 0, 1) := by decide +kernel
theorem d_Md_emit_22 : decode prog_14_method_24_code 22 = .ok (.getfield 218, 3) := by decide +kernel
theorem d_Md_emit_25 : decode prog_14_method_24_code 25 = .ok (.iadd, 1) := by decide +kernel
theorem d_Md_emit_26 : decode prog_14_method_24_code 26 = .ok (.iload_n 2, 1) := by decide +kernel
theorem d_Md_emit_27 : decode prog_14_method_24_code 27 = .ok (.iastore, 1) := by decide +kernel
theorem d_Md_emit_28 : decode prog_14_method_24_code 28 = .ok (.aload_n 0, 1) := by decide +kernel
theorem d_Md_emit_29 : decode prog_14_method_24_code 29 = .ok (.dup, 1) := by decide +kernel
theorem d_Md_emit_30 : decode prog_14_method_24_code 30 = .ok (.getfield 218, 3) := by decide +kernel
theorem d_Md_emit_33 : decode prog_14_method_24_code 33 = .ok (.iconst 1, 1) := by decide +kernel
theorem d_Md_emit_34 : decode prog_14_method_24_code 34 = .ok (.iadd, 1) := by decide +kernel
theorem d_Md_emit_35 : decode prog_14_method_24_code 35 = .ok (.putfield 218, 3) := by decide +kernel
theorem d_Md_emit_38 : decode prog_14_method_24_code 38 = .ok (.return_, 1) := by decide +kernel
abbrev S_Md_emit : Type := Nat × Nat × Int32 × Int32 × AM
noncomputable def T_Md_emit_0 (v0R : Nat) (v1I : Int32) (v2I : Int32) (σ : AM) : S_Md_emit ⊕ Option (Unit × AM) :=
  gdT (okO σ v0R 12) <| gdT (okO σ (aR σ v0R 20) 101) <| gdT (inB ((1100 : Int32) + (aI σ v0R 22)) (aN σ (aR σ v0R 20))) <| letT (sI σ (aR σ v0R 20) ((1100 : Int32) + (aI σ v0R 22)).toNatClampNeg v1I) fun σ4 => gdT (okO σ4 (aR σ4 v0R 21) 101) <| gdT (inB ((1100 : Int32) + (aI σ4 v0R 22)) (aN σ4 (aR σ4 v0R 21))) <| letT (sI σ4 (aR σ4 v0R 21) ((1100 : Int32) + (aI σ4 v0R 22)).toNatClampNeg v2I) fun σ8 => letT (sI σ8 v0R 22 ((aI σ8 v0R 22) + (1 : Int32))) fun σ10 => .inr (some ((), σ10))
noncomputable def F_Md_emit : S_Md_emit → S_Md_emit ⊕ Option (Unit × AM) := fun s => match s.1 with
  | _ => T_Md_emit_0 (s.2.1) (s.2.2.1) (s.2.2.2.1) (s.2.2.2.2)
noncomputable def L_Md_emit_0 (v0R : Nat) (v1I : Int32) (v2I : Int32) (σ : AM) : Option (Unit × AM) := lp F_Md_emit (0, v0R, v1I, v2I, σ)
set_option maxRecDepth 20000 in
theorem E_Md_emit_0 (v0R : Nat) (v1I : Int32) (v2I : Int32) (σ : AM) : L_Md_emit_0 v0R v1I v2I σ = (gd (okO σ v0R 12) <| gd (okO σ (aR σ v0R 20) 101) <| gd (inB ((1100 : Int32) + (aI σ v0R 22)) (aN σ (aR σ v0R 20))) <| letT (sI σ (aR σ v0R 20) ((1100 : Int32) + (aI σ v0R 22)).toNatClampNeg v1I) fun σ4 => gd (okO σ4 (aR σ4 v0R 21) 101) <| gd (inB ((1100 : Int32) + (aI σ4 v0R 22)) (aN σ4 (aR σ4 v0R 21))) <| letT (sI σ4 (aR σ4 v0R 21) ((1100 : Int32) + (aI σ4 v0R 22)).toNatClampNeg v2I) fun σ8 => letT (sI σ8 v0R 22 ((aI σ8 v0R 22) + (1 : Int32))) fun σ10 => (some ((), σ10))) := by
  unfold L_Md_emit_0
  rw [lp_eq]
  show lpK (lp F_Md_emit) (T_Md_emit_0 v0R v1I v2I σ) = _
  unfold T_Md_emit_0
  simp only [lpK_ite, lq_inl, lq_inr, lpK_bnd, lpK_gd, lq_let]
  try rfl
noncomputable def M_Md_emit (v0R : Nat) (v1I : Int32) (v2I : Int32) (σ : AM) : Option (Unit × AM) := mw σ (L_Md_emit_0 v0R v1I v2I σ)
def I_Md_emit (G : GX) (p : Program) (l : Launch) (e : Env) (s : State) (m : MethodId) (args : Array Value) (below : List Frame) (meth : Method) (c : Code) (z0 u0 n : Nat) : Prop :=
  (∀ (v0R : Nat) (v1I : Int32) (v2I : Int32) (σ : AM), VX (QM eV G args s below z0 u0) G p l e s m args below meth c 0 z0 u0 3 (lpn F_Md_emit n (0, v0R, v1I, v2I, σ)) 0 [(0, .ref v0R), (1, .int v1I), (2, .int v2I)] [] σ)
set_option maxRecDepth 20000 in
theorem s_Md_emit_0 {G : GX} {p : Program} {l : Launch} {e : Env} {s : State} {m : MethodId} {args : Array Value} {below : List Frame} {meth : Method} {c : Code} {z0 u0 n : Nat} (C : Cx G p s m args meth c prog_14_method_24_code 3 "BellPlateModel" ((none))) (IH : I_Md_emit G p l e s m args below meth c z0 u0 n) (v0R : Nat) (v1I : Int32) (v2I : Int32) (σ : AM) : VX (QM eV G args s below z0 u0) G p l e s m args below meth c 0 z0 u0 3 (lpK (lpn F_Md_emit n) (T_Md_emit_0 v0R v1I v2I σ)) 0 [(0, .ref v0R), (1, .int v1I), (2, .int v2I)] [] σ := by
  unfold T_Md_emit_0
  refine x_aload_n C d_Md_emit_0 0 rfl ?_
  refine x_gd (fun h1 => ?_)
  refine x_gd (fun h2 => ?_)
  refine x_getR (k := 20) (kv := 101) C (okO_iff.mp h1) rfl j11_ok (by decide) rfl (okO_iff.mp h2) (by decide) w1872 d_Md_emit_1 ?_
  refine x_sipush (v := (1100 : Int32)) C d_Md_emit_4 (by decide) ?_
  refine x_aload_n C d_Md_emit_7 0 rfl ?_
  refine x_getI (k := 22) C (okO_iff.mp h1) rfl j11_ok (by decide) rfl w1874 d_Md_emit_8 ?_
  refine x_iadd C d_Md_emit_11 ?_
  refine x_iload_n C d_Md_emit_12 1 rfl ?_
  refine x_gd (fun h3 => ?_)
  refine x_astI C (okO_iff.mp h2) (inB_iff.mp h3) d_Md_emit_13 ?_
  refine x_letS (fun σ4 e5 => ?_)
  refine x_aload_n C d_Md_emit_14 0 rfl ?_
  refine x_gd (fun h6 => ?_)
  refine x_getR (k := 21) (kv := 101) C (by first | exact (okO_iff.mp h1) | (rw [e5]; exact (okO_iff.mp h1))) rfl j11_ok (by decide) rfl (okO_iff.mp h6) (by decide) w1873 d_Md_emit_15 ?_
  refine x_sipush (v := (1100 : Int32)) C d_Md_emit_18 (by decide) ?_
  refine x_aload_n C d_Md_emit_21 0 rfl ?_
  refine x_getI (k := 22) C (by first | exact (okO_iff.mp h1) | (rw [e5]; exact (okO_iff.mp h1))) rfl j11_ok (by decide) rfl w1874 d_Md_emit_22 ?_
  refine x_iadd C d_Md_emit_25 ?_
  refine x_iload_n C d_Md_emit_26 2 rfl ?_
  refine x_gd (fun h7 => ?_)
  refine x_astI C (okO_iff.mp h6) (inB_iff.mp h7) d_Md_emit_27 ?_
  refine x_letS (fun σ8 e9 => ?_)
  refine x_aload_n C d_Md_emit_28 0 rfl ?_
  refine x_dup C d_Md_emit_29 rfl ?_
  refine x_getI (k := 22) C (by first | exact (okO_iff.mp h1) | (rw [e9, e5]; exact (okO_iff.mp h1))) rfl j11_ok (by decide) rfl w1874 d_Md_emit_30 ?_
  refine x_iconst (v := (1 : Int32)) C d_Md_emit_33 (by decide) ?_
  refine x_iadd C d_Md_emit_34 ?_
  refine x_putI (k := 22) C (by first | exact (okO_iff.mp h1) | (rw [e9, e5]; exact (okO_iff.mp h1))) rfl j11_ok y11_ok n11_ok (by decide) rfl rfl rfl rfl w1874 d_Md_emit_35 ?_
  refine x_letS (fun σ10 e11 => ?_)
  exact x_vret C d_Md_emit_38
theorem i_Md_emit {G : GX} {p : Program} {l : Launch} {e : Env} {s : State} {m : MethodId} {args : Array Value} {below : List Frame} {meth : Method} {c : Code} {z0 u0 : Nat} (C : Cx G p s m args meth c prog_14_method_24_code 3 "BellPlateModel" ((none))) (n : Nat) : I_Md_emit G p l e s m args below meth c z0 u0 n := by
  induction n with
  | zero => exact fun _ _ _ _ => x_none
  | succ n IH => exact fun v0R v1I v2I σ => s_Md_emit_0 C IH v0R v1I v2I σ
theorem c_Md_emit (G : GX) (l : Launch) (v0R : Nat) (v1I : Int32) (v2I : Int32) (σ : AM) : CT eV G l 0 y_Md_emit prog_14_method_24_code 3 (none) [.ref v0R, .int v1I, .int v2I] σ (M_Md_emit v0R v1I v2I σ) := by
  refine ct_of (by decide +kernel) (Nat.le_of_ble_eq_true rfl) (fun p e s m args below meth c C hin => ?_)
  refine x_lve (lv' := [(0, .ref v0R), (1, .int v1I), (2, .int v2I)]) rfl ?_
  intro r σ' h
  obtain ⟨n, hn⟩ := (lp_iff _ _ _).mp h
  exact (i_Md_emit C n) v0R v1I v2I σ r σ' hn
abbrev GT_Md_all_Md_products_Md_sums_Md_takePart_M : Type := (Nat → Int32 → AM → Option (Unit × AM)) × (Nat → Int32 → AM → Option (Unit × AM)) × (Nat → Int32 → AM → Option (Unit × AM)) × (Nat → Int32 → AM → Option (Unit × AM)) × (Nat → Int32 → AM → Option (Unit × AM))
/-! BellPlateModel.all(I)V -/
abbrev y_Md_all : MethodName := ⟨"BellPlateModel", "all", "(I)V"⟩
theorem k_Md_all : y_Md_all.cls ≠ "java/lang/invoke/MethodHandle" ∧ y_Md_all.cls ≠ "java/lang/invoke/VarHandle" ∧ (parseMethodDescriptor y_Md_all.desc).map (fun d => d.parameters.length) = some 1 := by decide +kernel
theorem d_Md_all_0 : decode prog_14_method_26_code 0 = .ok (.aload_n 0, 1) := by decide +kernel
theorem d_Md_all_1 : decode prog_14_method_26_code 1 = .ok (.iload_n 1, 1) := by decide +kernel
theorem d_Md_all_2 : decode prog_14_method_26_code 2 = .ok (.invokevirtual 284, 3) := by decide +kernel
theorem d_Md_all_5 : decode prog_14_method_26_code 5 = .ok (.aload_n 0, 1) := by decide +kernel
theorem d_Md_all_6 : decode prog_14_method_26_code 6 = .ok (.bipush 6, 2) := by decide +kernel
theorem d_Md_all_8 : decode prog_14_method_26_code 8 = .ok (.invokevirtual 206, 3) := by decide +kernel
theorem d_Md_all_11 : decode prog_14_method_26_code 11 = .ok (.ifCond .ne 12, 3) := by decide +kernel
theorem d_Md_all_14 : decode prog_14_method_26_code 14 = .ok (.aload_n 0, 1) := by decide +kernel
theorem d_Md_all_15 : decode prog_14_method_26_code 15 = .ok (.bipush 7, 2) := by decide +kernel
theorem d_Md_all_17 : decode prog_14_method_26_code 17 = .ok (.invokevirtual 206, 3) := by decide +kernel
theorem d_Md_all_20 : decode prog_14_method_26_code 20 = .ok (.ifCond .eq 44, 3) := by decide +kernel
theorem d_Md_all_23 : decode prog_14_method_26_code 23 = .ok (.aload_n 0, 1) := by decide +kernel
theorem d_Md_all_24 : decode prog_14_method_26_code 24 = .ok (.bipush 6, 2) := by decide +kernel
theorem d_Md_all_26 : decode prog_14_method_26_code 26 = .ok (.invokevirtual 206, 3) := by decide +kernel
theorem d_Md_all_29 : decode prog_14_method_26_code 29 = .ok (.istore_n 2, 1) := by decide +kernel
theorem d_Md_all_30 : decode prog_14_method_26_code 30 = .ok (.aload_n 0, 1) := by decide +kernel
theorem d_Md_all_31 : decode prog_14_method_26_code 31 = .ok (.dup, 1) := by decide +kernel
theorem d_Md_all_32 : decode prog_14_method_26_code 32 = .ok (.getfield 193, 3) := by decide +kernel
theorem d_Md_all_35 : decode prog_14_method_26_code 35 = .ok (.iconst 1, 1) := by decide +kernel
theorem d_Md_all_36 : decode prog_14_method_26_code 36 = .ok (.iadd, 1) := by decide +kernel
theorem d_Md_all_37 : decode prog_14_method_26_code 37 = .ok (.putfield 193, 3) := by decide +kernel
theorem d_Md_all_40 : decode prog_14_method_26_code 40 = .ok (.aload_n 0, 1) := by decide +kernel
theorem d_Md_all_41 : decode prog_14_method_26_code 41 = .ok (.iload_n 1, 1) := by decide +kernel
theorem d_Md_all_42 : decode prog_14_method_26_code 42 = .ok (.invokevirtual 284, 3) := by decide +kernel
theorem d_Md_all_45 : decode prog_14_method_26_code 45 = .ok (.aload_n 0, 1) := by decide +kernel
theorem d_Md_all_46 : decode prog_14_method_26_code 46 = .ok (.iload_n 2, 1) := by decide +kernel
theorem d_Md_all_47 : decode prog_14_method_26_code 47 = .ok (.ifCond .eq 8, 3) := by decide +kernel
theorem d_Md_all_50 : decode prog_14_method_26_code 50 = .ok (.bipush 9, 2) := by decide +kernel
theorem d_Md_all_52 : decode prog_14_method_26_code 52 = .ok (.goto 5, 3) := by decide +kernel
theorem d_Md_all_55 : decode prog_14_method_26_code 55 = .ok (.bipush 10, 2) := by decide +kernel
theorem d_Md_all_57 : decode prog_14_method_26_code 57 = .ok (.iconst 0, 1) := by decide +kernel
theorem d_Md_all_58 : decode prog_14_method_26_code 58 = .ok (.invokevirtual 280, 3) := by decide +kernel
theorem d_Md_all_61 : decode prog_14_method_26_code 61 = .ok (.goto (-56), 3) := by decide +kernel
theorem d_Md_all_64 : decode prog_14_method_26_code 64 = .ok (.return_, 1) := by decide +kernel
/-! BellPlateModel.products(I)V -/
abbrev y_Md_products : MethodName := ⟨"BellPlateModel", "products", "(I)V"⟩
theorem k_Md_products : y_Md_products.cls ≠ "java/lang/invoke/MethodHandle" ∧ y_Md_products.cls ≠ "java/lang/invoke/VarHandle" ∧ (parseMethodDescriptor y_Md_products.desc).map (fun d => d.parameters.length) = some 1 := by decide +kernel
theorem d_Md_products_0 : decode prog_14_method_29_code 0 = .ok (.aload_n 0, 1) := by decide +kernel
theorem d_Md_products_1 : decode prog_14_method_29_code 1 = .ok (.iload_n 1, 1) := by decide +kernel
theorem d_Md_products_2 : decode prog_14_method_29_code 2 = .ok (.invokevirtual 296, 3) := by decide +kernel
theorem d_Md_products_5 : decode prog_14_method_29_code 5 = .ok (.aload_n 0, 1) := by decide +kernel
theorem d_Md_products_6 : decode prog_14_method_29_code 6 = .ok (.bipush 42, 2) := by decide +kernel
theorem d_Md_products_8 : decode prog_14_method_29_code 8 = .ok (.invokevirtual 290, 3) := by decide +kernel
theorem d_Md_products_11 : decode prog_14_method_29_code 11 = .ok (.ifCond .eq 18, 3) := by decide +kernel
theorem d_Md_products_14 : decode prog_14_method_29_code 14 = .ok (.aload_n 0, 1) := by decide +kernel
theorem d_Md_products_15 : decode prog_14_method_29_code 15 = .ok (.iload_n 1, 1) := by decide +kernel
theorem d_Md_products_16 : decode prog_14_method_29_code 16 = .ok (.invokevirtual 296, 3) := by decide +kernel
theorem d_Md_products_19 : decode prog_14_method_29_code 19 = .ok (.aload_n 0, 1) := by decide +kernel
theorem d_Md_products_20 : decode prog_14_method_29_code 20 = .ok (.bipush 6, 2) := by decide +kernel
theorem d_Md_products_22 : decode prog_14_method_29_code 22 = .ok (.iconst 0, 1) := by decide +kernel
theorem d_Md_products_23 : decode prog_14_method_29_code 23 = .ok (.invokevirtual 280, 3) := by decide +kernel
theorem d_Md_products_26 : decode prog_14_method_29_code 26 = .ok (.goto (-21), 3) := by decide +kernel
theorem d_Md_products_29 : decode prog_14_method_29_code 29 = .ok (.return_, 1) := by decide +kernel
/-! BellPlateModel.sums(I)V -/
abbrev y_Md_sums : MethodName := ⟨"BellPlateModel", "sums", "(I)V"⟩
theorem k_Md_sums : y_Md_sums.cls ≠ "java/lang/invoke/MethodHandle" ∧ y_Md_sums.cls ≠ "java/lang/invoke/VarHandle" ∧ (parseMethodDescriptor y_Md_sums.desc).map (fun d => d.parameters.length) = some 1 := by decide +kernel
theorem d_Md_sums_0 : decode prog_14_method_28_code 0 = .ok (.aload_n 0, 1) := by decide +kernel
theorem d_Md_sums_1 : decode prog_14_method_28_code 1 = .ok (.iload_n 1, 1) := by decide +kernel
theorem d_Md_sums_2 : decode prog_14_method_28_code 2 = .ok (.invokevirtual 293, 3) := by decide +kernel
theorem d_Md_sums_5 : decode prog_14_method_28_code 5 = .ok (.aload_n 0, 1) := by decide +kernel
theorem d_Md_sums_6 : decode prog_14_method_28_code 6 = .ok (.bipush 43, 2) := by decide +kernel
theorem d_Md_sums_8 : decode prog_14_method_28_code 8 = .ok (.invokevirtual 199, 3) := by decide +kernel
theorem d_Md_sums_11 : decode prog_14_method_28_code 11 = .ok (.ifCond .ne 12, 3) := by decide +kernel
theorem d_Md_sums_14 : decode prog_14_method_28_code 14 = .ok (.aload_n 0, 1) := by decide +kernel
theorem d_Md_sums_15 : decode prog_14_method_28_code 15 = .ok (.bipush 45, 2) := by decide +kernel
theorem d_Md_sums_17 : decode prog_14_method_28_code 17 = .ok (.invokevirtual 199, 3) := by decide +kernel
theorem d_Md_sums_20 : decode prog_14_method_28_code 20 = .ok (.ifCond .eq 42, 3) := by decide +kernel
theorem d_Md_sums_23 : decode prog_14_method_28_code 23 = .ok (.aload_n 0, 1) := by decide +kernel
theorem d_Md_sums_24 : decode prog_14_method_28_code 24 = .ok (.bipush 43, 2) := by decide +kernel
theorem d_Md_sums_26 : decode prog_14_method_28_code 26 = .ok (.invokevirtual 199, 3) := by decide +kernel
theorem d_Md_sums_29 : decode prog_14_method_28_code 29 = .ok (.istore_n 2, 1) := by decide +kernel
theorem d_Md_sums_30 : decode prog_14_method_28_code 30 = .ok (.aload_n 0, 1) := by decide +kernel
theorem d_Md_sums_31 : decode prog_14_method_28_code 31 = .ok (.dup, 1) := by decide +kernel
theorem d_Md_sums_32 : decode prog_14_method_28_code 32 = .ok (.getfield 193, 3) := by decide +kernel
theorem d_Md_sums_35 : decode prog_14_method_28_code 35 = .ok (.iconst 1, 1) := by decide +kernel
theorem d_Md_sums_36 : decode prog_14_method_28_code 36 = .ok (.iadd, 1) := by decide +kernel
theorem d_Md_sums_37 : decode prog_14_method_28_code 37 = .ok (.putfield 193, 3) := by decide +kernel
theorem d_Md_sums_40 : decode prog_14_method_28_code 40 = .ok (.aload_n 0, 1) := by decide +kernel
theorem d_Md_sums_41 : decode prog_14_method_28_code 41 = .ok (.iload_n 1, 1) := by decide +kernel
theorem d_Md_sums_42 : decode prog_14_method_28_code 42 = .ok (.invokevirtual 293, 3) := by decide +kernel
theorem d_Md_sums_45 : decode prog_14_method_28_code 45 = .ok (.aload_n 0, 1) := by decide +kernel
theorem d_Md_sums_46 : decode prog_14_method_28_code 46 = .ok (.iload_n 2, 1) := by decide +kernel
theorem d_Md_sums_47 : decode prog_14_method_28_code 47 = .ok (.ifCond .eq 7, 3) := by decide +kernel
theorem d_Md_sums_50 : decode prog_14_method_28_code 50 = .ok (.iconst 4, 1) := by decide +kernel
theorem d_Md_sums_51 : decode prog_14_method_28_code 51 = .ok (.goto 4, 3) := by decide +kernel
theorem d_Md_sums_54 : decode prog_14_method_28_code 54 = .ok (.iconst 5, 1) := by decide +kernel
theorem d_Md_sums_55 : decode prog_14_method_28_code 55 = .ok (.iconst 0, 1) := by decide +kernel
theorem d_Md_sums_56 : decode prog_14_method_28_code 56 = .ok (.invokevirtual 280, 3) := by decide +kernel
theorem d_Md_sums_59 : decode prog_14_method_28_code 59 = .ok (.goto (-54), 3) := by decide +kernel
theorem d_Md_sums_62 : decode prog_14_method_28_code 62 = .ok (.return_, 1) := by decide +kernel
/-! BellPlateModel.takePart(I)V -/
abbrev y_Md_takePart : MethodName := ⟨"BellPlateModel", "takePart", "(I)V"⟩
theorem k_Md_takePart : y_Md_takePart.cls ≠ "java/lang/invoke/MethodHandle" ∧ y_Md_takePart.cls ≠ "java/lang/invoke/VarHandle" ∧ (parseMethodDescriptor y_Md_takePart.desc).map (fun d => d.parameters.length) = some 1 := by decide +kernel
theorem d_Md_takePart_0 : decode prog_14_method_30_code 0 = .ok (.aload_n 0, 1) := by decide +kernel
theorem d_Md_takePart_1 : decode prog_14_method_30_code 1 = .ok (.getfield 196, 3) := by decide +kernel
theorem d_Md_takePart_4 : decode prog_14_method_30_code 4 = .ok (.ifCond .le 4, 3) := by decide +kernel
theorem d_Md_takePart_7 : decode prog_14_method_30_code 7 = .ok (.return_, 1) := by decide +kernel
theorem d_Md_takePart_8 : decode prog_14_method_30_code 8 = .ok (.aload_n 0, 1) := by decide +kernel
theorem d_Md_takePart_9 : decode prog_14_method_30_code 9 = .ok (.getfield 24, 3) := by decide +kernel
theorem d_Md_takePart_12 : decode prog_14_method_30_code 12 = .ok (.aload_n 0, 1) := by decide +kernel
theorem d_Md_takePart_13 : decode prog_14_method_30_code 13 = .ok (.getfield 193, 3) := by decide +kernel
theorem d_Md_takePart_16 : decode prog_14_method_30_code 16 = .ok (.iaload, 1) := by decide +kernel
theorem d_Md_takePart_17 : decode prog_14_method_30_code 17 = .ok (.iconst 2, 1) := by decide +kernel
theorem d_Md_takePart_18 : decode prog_14_method_30_code 18 = .ok (.if_icmp .ne 7, 3) := by decide +kernel
theorem d_Md_takePart_21 : decode prog_14_method_30_code 21 = .ok (.iconst 1, 1) := by decide +kernel
theorem d_Md_takePart_22 : decode prog_14_method_30_code 22 = .ok (.goto 4, 3) := by decide +kernel
theorem d_Md_takePart_25 : decode prog_14_method_30_code 25 = .ok (.iconst 0, 1) := by decide +kernel
theorem d_Md_takePart_26 : decode prog_14_method_30_code 26 = .ok (.istore_n 2, 1) := by decide +kernel
theorem d_Md_takePart_27 : decode prog_14_method_30_code 27 = .ok (.aload_n 0, 1) := by decide +kernel
theorem d_Md_takePart_28 : decode prog_14_method_30_code 28 = .ok (.getfield 273, 3) := by decide +kernel
theorem d_Md_takePart_31 : decode prog_14_method_30_code 31 = .ok (.ifCond .eq 12, 3) := by decide +kernel
theorem d_Md_takePart_34 : decode prog_14_method_30_code 34 = .ok (.aload_n 0, 1) := by decide +kernel
theorem d_Md_takePart_35 : decode prog_14_method_30_code 35 = .ok (.bipush 8, 2) := by decide +kernel
theorem d_Md_takePart_37 : decode prog_14_method_30_code 37 = .ok (.invokevirtual 206, 3) := by decide +kernel
theorem d_Md_takePart_40 : decode prog_14_method_30_code 40 = .ok (.goto 9, 3) := by decide +kernel
theorem d_Md_takePart_43 : decode prog_14_method_30_code 43 = .ok (.aload_n 0, 1) := by decide +kernel
theorem d_Md_takePart_44 : decode prog_14_method_30_code 44 = .ok (.bipush 9, 2) := by decide +kernel
theorem d_Md_takePart_46 : decode prog_14_method_30_code 46 = .ok (.invokevirtual 206, 3) := by decide +kernel
theorem d_Md_takePart_49 : decode prog_14_method_30_code 49 = .ok (.istore_n 3, 1) := by decide +kernel
theorem d_Md_takePart_50 : decode prog_14_method_30_code 50 = .ok (.aload_n 0, 1) := by decide +kernel
theorem d_Md_takePart_51 : decode prog_14_method_30_code 51 = .ok (.invokevirtual 257, 3) := by decide +kernel
theorem d_Md_takePart_54 : decode prog_14_method_30_code 54 = .ok (.istore 4, 2) := by decide +kernel
theorem d_Md_takePart_56 : decode prog_14_method_30_code 56 = .ok (.iload_n 3, 1) := by decide +kernel
theorem d_Md_takePart_57 : decode prog_14_method_30_code 57 = .ok (.ifCond .ne 37, 3) := by decide +kernel
theorem d_Md_takePart_60 : decode prog_14_method_30_code 60 = .ok (.iload 4, 2) := by decide +kernel
theorem d_Md_takePart_62 : decode prog_14_method_30_code 62 = .ok (.ifCond .ne 32, 3) := by decide +kernel
theorem d_Md_takePart_65 : decode prog_14_method_30_code 65 = .ok (.iload_n 2, 1) := by decide +kernel
theorem d_Md_takePart_66 : decode prog_14_method_30_code 66 = .ok (.ifCond .ne 28, 3) := by decide +kernel
theorem d_Md_takePart_69 : decode prog_14_method_30_code 69 = .ok (.aload_n 0, 1) := by decide +kernel
theorem d_Md_takePart_70 : decode prog_14_method_30_code 70 = .ok (.bipush 40, 2) := by decide +kernel
theorem d_Md_takePart_72 : decode prog_14_method_30_code 72 = .ok (.invokevirtual 199, 3) := by decide +kernel
theorem d_Md_takePart_75 : decode prog_14_method_30_code 75 = .ok (.ifCond .ne 19, 3) := by decide +kernel
theorem d_Md_takePart_78 : decode prog_14_method_30_code 78 = .ok (.aload_n 0, 1) := by decide +kernel
theorem d_Md_takePart_79 : decode prog_14_method_30_code 79 = .ok (.iconst 5, 1) := by decide +kernel
theorem d_Md_takePart_80 : decode prog_14_method_30_code 80 = .ok (.invokevirtual 206, 3) := by decide +kernel
theorem d_Md_takePart_83 : decode prog_14_method_30_code 83 = .ok (.ifCond .ne 11, 3) := by decide +kernel
theorem d_Md_takePart_86 : decode prog_14_method_30_code 86 = .ok (.aload_n 0, 1) := by decide +kernel
theorem d_Md_takePart_87 : decode prog_14_method_30_code 87 = .ok (.iconst 1, 1) := by decide +kernel
theorem d_Md_takePart_88 : decode prog_14_method_30_code 88 = .ok (.invokevirtual 202, 3) := by decide +kernel
theorem d_Md_takePart_91 : decode prog_14_method_30_code 91 = .ok (.goto 42, 3) := by decide +kernel
theorem d_Md_takePart_94 : decode prog_14_method_30_code 94 = .ok (.iload 4, 2) := by decide +kernel
theorem d_Md_takePart_96 : decode prog_14_method_30_code 96 = .ok (.ifCond .eq 27, 3) := by decide +kernel
theorem d_Md_takePart_99 : decode prog_14_method_30_code 99 = .ok (.aload_n 0, 1) := by decide +kernel
theorem d_Md_takePart_100 : decode prog_14_method_30_code 100 = .ok (.aload_n 0, 1) := by decide +kernel
theorem d_Md_takePart_101 : decode prog_14_method_30_code 101 = .ok (.getfield 30, 3) := by decide +kernel
theorem d_Md_takePart_104 : decode prog_14_method_30_code 104 = .ok (.aload_n 0, 1) := by decide +kernel
theorem d_Md_takePart_105 : decode prog_14_method_30_code 105 = .ok (.getfield 193, 3) := by decide +kernel
theorem d_Md_takePart_108 : decode prog_14_method_30_code 108 = .ok (.laload, 1) := by decide +kernel
theorem d_Md_takePart_109 : decode prog_14_method_30_code 109 = .ok (.invokevirtual 261, 3) := by decide +kernel
theorem d_Md_takePart_112 : decode prog_14_method_30_code 112 = .ok (.ifCond .ge 11, 3) := by decide +kernel
theorem d_Md_takePart_115 : decode prog_14_method_30_code 115 = .ok (.aload_n 0, 1) := by decide +kernel
theorem d_Md_takePart_116 : decode prog_14_method_30_code 116 = .ok (.iconst 2, 1) := by decide +kernel
theorem d_Md_takePart_117 : decode prog_14_method_30_code 117 = .ok (.invokevirtual 202, 3) := by decide +kernel
theorem d_Md_takePart_120 : decode prog_14_method_30_code 120 = .ok (.goto 13, 3) := by decide +kernel
theorem d_Md_takePart_123 : decode prog_14_method_30_code 123 = .ok (.iload_n 1, 1) := by decide +kernel
theorem d_Md_takePart_124 : decode prog_14_method_30_code 124 = .ok (.iconst 5, 1) := by decide +kernel
theorem d_Md_takePart_125 : decode prog_14_method_30_code 125 = .ok (.if_icmp .ne 8, 3) := by decide +kernel
theorem d_Md_takePart_128 : decode prog_14_method_30_code 128 = .ok (.aload_n 0, 1) := by decide +kernel
theorem d_Md_takePart_129 : decode prog_14_method_30_code 129 = .ok (.iconst 5, 1) := by decide +kernel
theorem d_Md_takePart_130 : decode prog_14_method_30_code 130 = .ok (.invokevirtual 202, 3) := by decide +kernel
theorem d_Md_takePart_133 : decode prog_14_method_30_code 133 = .ok (.aload_n 0, 1) := by decide +kernel
theorem d_Md_takePart_134 : decode prog_14_method_30_code 134 = .ok (.getfield 196, 3) := by decide +kernel
theorem d_Md_takePart_137 : decode prog_14_method_30_code 137 = .ok (.ifCond .le 4, 3) := by decide +kernel
theorem d_Md_takePart_140 : decode prog_14_method_30_code 140 = .ok (.return_, 1) := by decide +kernel
theorem d_Md_takePart_141 : decode prog_14_method_30_code 141 = .ok (.aload_n 0, 1) := by decide +kernel
theorem d_Md_takePart_142 : decode prog_14_method_30_code 142 = .ok (.iconst 5, 1) := by decide +kernel
theorem d_Md_takePart_143 : decode prog_14_method_30_code 143 = .ok (.invokevirtual 209, 3) := by decide +kernel
theorem d_Md_takePart_146 : decode prog_14_method_30_code 146 = .ok (.ifCond .eq 19, 3) := by decide +kernel
theorem d_Md_takePart_149 : decode prog_14_method_30_code 149 = .ok (.aload_n 0, 1) := by decide +kernel
theorem d_Md_takePart_150 : decode prog_14_method_30_code 150 = .ok (.iload_n 1, 1) := by decide +kernel
theorem d_Md_takePart_151 : decode prog_14_method_30_code 151 = .ok (.iconst 1, 1) := by decide +kernel
theorem d_Md_takePart_152 : decode prog_14_method_30_code 152 = .ok (.iadd, 1) := by decide +kernel
theorem d_Md_takePart_153 : decode prog_14_method_30_code 153 = .ok (.invokevirtual 296, 3) := by decide +kernel
theorem d_Md_takePart_156 : decode prog_14_method_30_code 156 = .ok (.aload_n 0, 1) := by decide +kernel
theorem d_Md_takePart_157 : decode prog_14_method_30_code 157 = .ok (.iconst 3, 1) := by decide +kernel
theorem d_Md_takePart_158 : decode prog_14_method_30_code 158 = .ok (.iconst 0, 1) := by decide +kernel
theorem d_Md_takePart_159 : decode prog_14_method_30_code 159 = .ok (.invokevirtual 280, 3) := by decide +kernel
theorem d_Md_takePart_162 : decode prog_14_method_30_code 162 = .ok (.goto 91, 3) := by decide +kernel
theorem d_Md_takePart_165 : decode prog_14_method_30_code 165 = .ok (.aload_n 0, 1) := by decide +kernel
theorem d_Md_takePart_166 : decode prog_14_method_30_code 166 = .ok (.bipush 40, 2) := by decide +kernel
theorem d_Md_takePart_168 : decode prog_14_method_30_code 168 = .ok (.invokevirtual 290, 3) := by decide +kernel
theorem d_Md_takePart_171 : decode prog_14_method_30_code 171 = .ok (.ifCond .eq 19, 3) := by decide +kernel
theorem d_Md_takePart_174 : decode prog_14_method_30_code 174 = .ok (.aload_n 0, 1) := by decide +kernel
theorem d_Md_takePart_175 : decode prog_14_method_30_code 175 = .ok (.iload_n 1, 1) := by decide +kernel
theorem d_Md_takePart_176 : decode prog_14_method_30_code 176 = .ok (.iconst 1, 1) := by decide +kernel
theorem d_Md_takePart_177 : decode prog_14_method_30_code 177 = .ok (.iadd, 1) := by decide +kernel
theorem d_Md_takePart_178 : decode prog_14_method_30_code 178 = .ok (.invokevirtual 277, 3) := by decide +kernel
theorem d_Md_takePart_181 : decode prog_14_method_30_code 181 = .ok (.aload_n 0, 1) := by decide +kernel
theorem d_Md_takePart_182 : decode prog_14_method_30_code 182 = .ok (.bipush 41, 2) := by decide +kernel
theorem d_Md_takePart_184 : decode prog_14_method_30_code 184 = .ok (.invokevirtual 233, 3) := by decide +kernel
theorem d_Md_takePart_187 : decode prog_14_method_30_code 187 = .ok (.goto 66, 3) := by decide +kernel
theorem d_Md_takePart_190 : decode prog_14_method_30_code 190 = .ok (.aload_n 0, 1) := by decide +kernel
theorem d_Md_takePart_191 : decode prog_14_method_30_code 191 = .ok (.iload_n 2, 1) := by decide +kernel
theorem d_Md_takePart_192 : decode prog_14_method_30_code 192 = .ok (.ifCond .eq 7, 3) := by decide +kernel
theorem d_Md_takePart_195 : decode prog_14_method_30_code 195 = .ok (.iconst 1, 1) := by decide +kernel
theorem d_Md_takePart_196 : decode prog_14_method_30_code 196 = .ok (.goto 4, 3) := by decide +kernel
theorem d_Md_takePart_199 : decode prog_14_method_30_code 199 = .ok (.iconst 2, 1) := by decide +kernel
theorem d_Md_takePart_200 : decode prog_14_method_30_code 200 = .ok (.iload_n 2, 1) := by decide +kernel
theorem d_Md_takePart_201 : decode prog_14_method_30_code 201 = .ok (.ifCond .eq 16, 3) := by decide +kernel
theorem d_Md_takePart_204 : decode prog_14_method_30_code 204 = .ok (.aload_n 0, 1) := by decide +kernel
theorem d_Md_takePart_205 : decode prog_14_method_30_code 205 = .ok (.getfield 30, 3) := by decide +kernel
theorem d_Md_takePart_208 : decode prog_14_method_30_code 208 = .ok (.aload_n 0, 1) := by decide +kernel
theorem d_Md_takePart_209 : decode prog_14_method_30_code 209 = .ok (.getfield 193, 3) := by decide +kernel
theorem d_Md_takePart_212 : decode prog_14_method_30_code 212 = .ok (.laload, 1) := by decide +kernel
theorem d_Md_takePart_213 : decode prog_14_method_30_code 213 = .ok (.l2i, 1) := by decide +kernel
theorem d_Md_takePart_214 : decode prog_14_method_30_code 214 = .ok (.goto 26, 3) := by decide +kernel
theorem d_Md_takePart_217 : decode prog_14_method_30_code 217 = .ok (.iload 4, 2) := by decide +kernel
theorem d_Md_takePart_219 : decode prog_14_method_30_code 219 = .ok (.ifCond .eq 19, 3) := by decide +kernel
theorem d_Md_takePart_222 : decode prog_14_method_30_code 222 = .ok (.aload_n 0, 1) := by decide +kernel
theorem d_Md_takePart_223 : decode prog_14_method_30_code 223 = .ok (.aload_n 0, 1) := by decide +kernel
theorem d_Md_takePart_224 : decode prog_14_method_30_code 224 = .ok (.getfield 30, 3) := by decide +kernel
theorem d_Md_takePart_227 : decode prog_14_method_30_code 227 = .ok (.aload_n 0, 1) := by decide +kernel
theorem d_Md_takePart_228 : decode prog_14_method_30_code 228 = .ok (.getfield 193, 3) := by decide +kernel
theorem d_Md_takePart_231 : decode prog_14_method_30_code 231 = .ok (.laload, 1) := by decide +kernel
theorem d_Md_takePart_232 : decode prog_14_method_30_code 232 = .ok (.invokevirtual 261, 3) := by decide +kernel
theorem d_Md_takePart_235 : decode prog_14_method_30_code 235 = .ok (.goto 5, 3) := by decide +kernel
theorem d_Md_takePart_238 : decode prog_14_method_30_code 238 = .ok (.bipush 6, 2) := by decide +kernel
theorem d_Md_takePart_240 : decode prog_14_method_30_code 240 = .ok (.invokevirtual 280, 3) := by decide +kernel
theorem d_Md_takePart_243 : decode prog_14_method_30_code 243 = .ok (.aload_n 0, 1) := by decide +kernel
theorem d_Md_takePart_244 : decode prog_14_method_30_code 244 = .ok (.dup, 1) := by decide +kernel
theorem d_Md_takePart_245 : decode prog_14_method_30_code 245 = .ok (.getfield 193, 3) := by decide +kernel
theorem d_Md_takePart_248 : decode prog_14_method_30_code 248 = .ok (.iconst 1, 1) := by decide +kernel
theorem d_Md_takePart_249 : decode prog_14_method_30_code 249 = .ok (.iadd, 1) := by decide +kernel
theorem d_Md_takePart_250 : decode prog_14_method_30_code 250 = .ok (.putfield 193, 3) := by decide +kernel
theorem d_Md_takePart_253 : decode prog_14_method_30_code 253 = .ok (.return_, 1) := by decide +kernel
/-! BellPlateModel.test(I)V -/
abbrev y_Md_test : MethodName := ⟨"BellPlateModel", "test", "(I)V"⟩
theorem k_Md_test : y_Md_test.cls ≠ "java/lang/invoke/MethodHandle" ∧ y_Md_test.cls ≠ "java/lang/invoke/VarHandle" ∧ (parseMethodDescriptor y_Md_test.desc).map (fun d => d.parameters.length) = some 1 := by decide +kernel
theorem d_Md_test_0 : decode prog_14_method_27_code 0 = .ok (.aload_n 0, 1) := by decide +kernel
theorem d_Md_test_1 : decode prog_14_method_27_code 1 = .ok (.iload_n 1, 1) := by decide +kernel
theorem d_Md_test_2 : decode prog_14_method_27_code 2 = .ok (.invokevirtual 287, 3) := by decide +kernel
theorem d_Md_test_5 : decode prog_14_method_27_code 5 = .ok (.aload_n 0, 1) := by decide +kernel
theorem d_Md_test_6 : decode prog_14_method_27_code 6 = .ok (.bipush 60, 2) := by decide +kernel
theorem d_Md_test_8 : decode prog_14_method_27_code 8 = .ok (.invokevirtual 199, 3) := by decide +kernel
theorem d_Md_test_11 : decode prog_14_method_27_code 11 = .ok (.istore_n 2, 1) := by decide +kernel
theorem d_Md_test_12 : decode prog_14_method_27_code 12 = .ok (.aload_n 0, 1) := by decide +kernel
theorem d_Md_test_13 : decode prog_14_method_27_code 13 = .ok (.bipush 60, 2) := by decide +kernel
theorem d_Md_test_15 : decode prog_14_method_27_code 15 = .ok (.invokevirtual 290, 3) := by decide +kernel
theorem d_Md_test_18 : decode prog_14_method_27_code 18 = .ok (.ifCond .ne 12, 3) := by decide +kernel
theorem d_Md_test_21 : decode prog_14_method_27_code 21 = .ok (.aload_n 0, 1) := by decide +kernel
theorem d_Md_test_22 : decode prog_14_method_27_code 22 = .ok (.bipush 61, 2) := by decide +kernel
theorem d_Md_test_24 : decode prog_14_method_27_code 24 = .ok (.invokevirtual 290, 3) := by decide +kernel
theorem d_Md_test_27 : decode prog_14_method_27_code 27 = .ok (.ifCond .eq 24, 3) := by decide +kernel
theorem d_Md_test_30 : decode prog_14_method_27_code 30 = .ok (.aload_n 0, 1) := by decide +kernel
theorem d_Md_test_31 : decode prog_14_method_27_code 31 = .ok (.iload_n 1, 1) := by decide +kernel
theorem d_Md_test_32 : decode prog_14_method_27_code 32 = .ok (.invokevirtual 287, 3) := by decide +kernel
theorem d_Md_test_35 : decode prog_14_method_27_code 35 = .ok (.aload_n 0, 1) := by decide +kernel
theorem d_Md_test_36 : decode prog_14_method_27_code 36 = .ok (.iload_n 2, 1) := by decide +kernel
theorem d_Md_test_37 : decode prog_14_method_27_code 37 = .ok (.ifCond .eq 8, 3) := by decide +kernel
theorem d_Md_test_40 : decode prog_14_method_27_code 40 = .ok (.bipush 7, 2) := by decide +kernel
theorem d_Md_test_42 : decode prog_14_method_27_code 42 = .ok (.goto 5, 3) := by decide +kernel
theorem d_Md_test_45 : decode prog_14_method_27_code 45 = .ok (.bipush 8, 2) := by decide +kernel
theorem d_Md_test_47 : decode prog_14_method_27_code 47 = .ok (.iconst 0, 1) := by decide +kernel
theorem d_Md_test_48 : decode prog_14_method_27_code 48 = .ok (.invokevirtual 280, 3) := by decide +kernel
theorem d_Md_test_51 : decode prog_14_method_27_code 51 = .ok (.return_, 1) := by decide +kernel
def H_Md_all_Md_products_Md_sums_Md_takePart_M (G : GX) (l : Launch) (n0 : Nat) (rec : GT_Md_all_Md_products_Md_sums_Md_takePart_M) : Prop := (∀ (v0R : Nat) (v1I : Int32) (σ : AM), CT eV G l (2 + n0) y_Md_all prog_14_method_26_code 3 (none) [.ref v0R, .int v1I] σ (rec.1 v0R v1I σ)) ∧ (∀ (v0R : Nat) (v1I : Int32) (σ : AM), CT eV G l (2 + n0) y_Md_products prog_14_method_29_code 2 (none) [.ref v0R, .int v1I] σ (rec.2.1 v0R v1I σ)) ∧ (∀ (v0R : Nat) (v1I : Int32) (σ : AM), CT eV G l (2 + n0) y_Md_sums prog_14_method_28_code 3 (none) [.ref v0R, .int v1I] σ (rec.2.2.1 v0R v1I σ)) ∧ (∀ (v0R : Nat) (v1I : Int32) (σ : AM), CT eV G l (2 + n0) y_Md_takePart prog_14_method_30_code 5 (none) [.ref v0R, .int v1I] σ (rec.2.2.2.1 v0R v1I σ)) ∧ (∀ (v0R : Nat) (v1I : Int32) (σ : AM), CT eV G l (2 + n0) y_Md_test prog_14_method_27_code 3 (none) [.ref v0R, .int v1I] σ (rec.2.2.2.2 v0R v1I σ))
abbrev S_Md_all : Type := Nat × Nat × Int32 × Nat × Int32 × AM
noncomputable def T_Md_all_0 (rec : GT_Md_all_Md_products_Md_sums_Md_takePart_M) (v0R : Nat) (v1I : Int32) (σ : AM) : S_Md_all ⊕ Option (Unit × AM) :=
  gdT (okO σ v0R 12) <| bndT (rec.2.2.2.2 v0R v1I σ) fun _ σ2 => .inl (1, v0R, v1I, 0, 0, σ2)
noncomputable def T_Md_all_1 (rec : GT_Md_all_Md_products_Md_sums_Md_takePart_M) (v0R : Nat) (v1I : Int32) (σ : AM) : S_Md_all ⊕ Option (Unit × AM) :=
  gdT (okO σ v0R 12) <| bndT (M_Md_isWord v0R (6 : Int32) σ) fun r1 σ2 => if r1 = 0 then (gdT (okO σ2 v0R 12) <| bndT (M_Md_isWord v0R (7 : Int32) σ2) fun r4 σ5 => if r4 = 0 then (.inr (some ((), σ5))) else (.inl (2, v0R, v1I, 0, 0, σ5))) else (.inl (2, v0R, v1I, 0, 0, σ2))
noncomputable def T_Md_all_2 (rec : GT_Md_all_Md_products_Md_sums_Md_takePart_M) (v0R : Nat) (v1I : Int32) (σ : AM) : S_Md_all ⊕ Option (Unit × AM) :=
  gdT (okO σ v0R 12) <| bndT (M_Md_isWord v0R (6 : Int32) σ) fun r1 σ2 => gdT (okO σ2 v0R 12) <| letT (sI σ2 v0R 7 ((aI σ2 v0R 7) + (1 : Int32))) fun σ5 => bndT (rec.2.2.2.2 v0R v1I σ5) fun _ σ8 => if r1 = 0 then (.inl (3, v0R, v1I, v0R, (10 : Int32), σ8)) else (.inl (3, v0R, v1I, v0R, (9 : Int32), σ8))
noncomputable def T_Md_all_3 (rec : GT_Md_all_Md_products_Md_sums_Md_takePart_M) (v0R : Nat) (v1I : Int32) (s0R : Nat) (s1I : Int32) (σ : AM) : S_Md_all ⊕ Option (Unit × AM) :=
  gdT (okO σ s0R 12) <| bndT (M_Md_emit s0R s1I (0 : Int32) σ) fun _ σ2 => .inl (1, v0R, v1I, 0, 0, σ2)
noncomputable def F_Md_all (rec : GT_Md_all_Md_products_Md_sums_Md_takePart_M) : S_Md_all → S_Md_all ⊕ Option (Unit × AM) := fun s => match s.1 with
  | 0 => T_Md_all_0 rec (s.2.1) (s.2.2.1) (s.2.2.2.2.2)
  | 1 => T_Md_all_1 rec (s.2.1) (s.2.2.1) (s.2.2.2.2.2)
  | 2 => T_Md_all_2 rec (s.2.1) (s.2.2.1) (s.2.2.2.2.2)
  | _ => T_Md_all_3 rec (s.2.1) (s.2.2.1) (s.2.2.2.1) (s.2.2.2.2.1) (s.2.2.2.2.2)
noncomputable def L_Md_all_0 (rec : GT_Md_all_Md_products_Md_sums_Md_takePart_M) (v0R : Nat) (v1I : Int32) (σ : AM) : Option (Unit × AM) := lp (F_Md_all rec) (0, v0R, v1I, 0, 0, σ)
noncomputable def L_Md_all_1 (rec : GT_Md_all_Md_products_Md_sums_Md_takePart_M) (v0R : Nat) (v1I : Int32) (σ : AM) : Option (Unit × AM) := lp (F_Md_all rec) (1, v0R, v1I, 0, 0, σ)
noncomputable def L_Md_all_2 (rec : GT_Md_all_Md_products_Md_sums_Md_takePart_M) (v0R : Nat) (v1I : Int32) (σ : AM) : Option (Unit × AM) := lp (F_Md_all rec) (2, v0R, v1I, 0, 0, σ)
noncomputable def L_Md_all_3 (rec : GT_Md_all_Md_products_Md_sums_Md_takePart_M) (v0R : Nat) (v1I : Int32) (s0R : Nat) (s1I : Int32) (σ : AM) : Option (Unit × AM) := lp (F_Md_all rec) (3, v0R, v1I, s0R, s1I, σ)
set_option maxRecDepth 20000 in
theorem E_Md_all_0 (rec : GT_Md_all_Md_products_Md_sums_Md_takePart_M) (v0R : Nat) (v1I : Int32) (σ : AM) : L_Md_all_0 rec v0R v1I σ = (gd (okO σ v0R 12) <| bnd (rec.2.2.2.2 v0R v1I σ) fun _ σ2 => L_Md_all_1 rec v0R v1I σ2) := by
  unfold L_Md_all_0
  rw [lp_eq]
  show lpK (lp (F_Md_all rec)) (T_Md_all_0 rec v0R v1I σ) = _
  unfold T_Md_all_0
  simp only [lpK_ite, lq_inl, lq_inr, lpK_bnd, lpK_gd, lq_let]
  try rfl
set_option maxRecDepth 20000 in
theorem E_Md_all_1 (rec : GT_Md_all_Md_products_Md_sums_Md_takePart_M) (v0R : Nat) (v1I : Int32) (σ : AM) : L_Md_all_1 rec v0R v1I σ = (gd (okO σ v0R 12) <| bnd (M_Md_isWord v0R (6 : Int32) σ) fun r1 σ2 => if r1 = 0 then (gd (okO σ2 v0R 12) <| bnd (M_Md_isWord v0R (7 : Int32) σ2) fun r4 σ5 => if r4 = 0 then ((some ((), σ5))) else (L_Md_all_2 rec v0R v1I σ5)) else (L_Md_all_2 rec v0R v1I σ2)) := by
  unfold L_Md_all_1
  rw [lp_eq]
  show lpK (lp (F_Md_all rec)) (T_Md_all_1 rec v0R v1I σ) = _
  unfold T_Md_all_1
  simp only [lpK_ite, lq_inl, lq_inr, lpK_bnd, lpK_gd, lq_let]
  try rfl
set_option maxRecDepth 20000 in
theorem E_Md_all_2 (rec : GT_Md_all_Md_products_Md_sums_Md_takePart_M) (v0R : Nat) (v1I : Int32) (σ : AM) : L_Md_all_2 rec v0R v1I σ = (gd (okO σ v0R 12) <| bnd (M_Md_isWord v0R (6 : Int32) σ) fun r1 σ2 => gd (okO σ2 v0R 12) <| letT (sI σ2 v0R 7 ((aI σ2 v0R 7) + (1 : Int32))) fun σ5 => bnd (rec.2.2.2.2 v0R v1I σ5) fun _ σ8 => if r1 = 0 then (L_Md_all_3 rec v0R v1I v0R ((10 : Int32)) σ8) else (L_Md_all_3 rec v0R v1I v0R ((9 : Int32)) σ8)) := by
  unfold L_Md_all_2
  rw [lp_eq]
  show lpK (lp (F_Md_all rec)) (T_Md_all_2 rec v0R v1I σ) = _
  unfold T_Md_all_2
  simp only [lpK_ite, lq_inl, lq_inr, lpK_bnd, lpK_gd, lq_let]
  try rfl
set_option maxRecDepth 20000 in
theorem E_Md_all_3 (rec : GT_Md_all_Md_products_Md_sums_Md_takePart_M) (v0R : Nat) (v1I : Int32) (s0R : Nat) (s1I : Int32) (σ : AM) : L_Md_all_3 rec v0R v1I s0R s1I σ = (gd (okO σ s0R 12) <| bnd (M_Md_emit s0R s1I (0 : Int32) σ) fun _ σ2 => L_Md_all_1 rec v0R v1I σ2) := by
  unfold L_Md_all_3
  rw [lp_eq]
  show lpK (lp (F_Md_all rec)) (T_Md_all_3 rec v0R v1I s0R s1I σ) = _
  unfold T_Md_all_3
  simp only [lpK_ite, lq_inl, lq_inr, lpK_bnd, lpK_gd, lq_let]
  try rfl
noncomputable def N_Md_all (rec : GT_Md_all_Md_products_Md_sums_Md_takePart_M) (v0R : Nat) (v1I : Int32) (σ : AM) : Option (Unit × AM) := mw σ (L_Md_all_0 rec v0R v1I σ)
def I_Md_all (G : GX) (p : Program) (l : Launch) (e : Env) (s : State) (m : MethodId) (args : Array Value) (below : List Frame) (meth : Method) (c : Code) (n0 : Nat) (rec : GT_Md_all_Md_products_Md_sums_Md_takePart_M) (z0 u0 n : Nat) : Prop :=
  (∀ (v0R : Nat) (v1I : Int32) (σ : AM), VX (QM eV G args s below z0 u0) G p l e s m args below meth c (2 + n0 + 1) z0 u0 3 (lpn (F_Md_all rec) n (0, v0R, v1I, 0, 0, σ)) 0 [(0, .ref v0R), (1, .int v1I)] [] σ) ∧
  (∀ (v0R : Nat) (v1I : Int32) (σ : AM), VX (QM eV G args s below z0 u0) G p l e s m args below meth c (2 + n0 + 1) z0 u0 3 (lpn (F_Md_all rec) n (1, v0R, v1I, 0, 0, σ)) 5 [(0, .ref v0R), (1, .int v1I)] [] σ) ∧
  (∀ (v0R : Nat) (v1I : Int32) (σ : AM), VX (QM eV G args s below z0 u0) G p l e s m args below meth c (2 + n0 + 1) z0 u0 3 (lpn (F_Md_all rec) n (2, v0R, v1I, 0, 0, σ)) 23 [(0, .ref v0R), (1, .int v1I)] [] σ) ∧
  (∀ (v0R : Nat) (v1I : Int32) (s0R : Nat) (s1I : Int32) (σ : AM), VX (QM eV G args s below z0 u0) G p l e s m args below meth c (2 + n0 + 1) z0 u0 3 (lpn (F_Md_all rec) n (3, v0R, v1I, s0R, s1I, σ)) 57 [(0, .ref v0R), (1, .int v1I)] [.int s1I, .ref s0R] σ)
set_option maxRecDepth 20000 in
theorem s_Md_all_0 {G : GX} {p : Program} {l : Launch} {e : Env} {s : State} {m : MethodId} {args : Array Value} {below : List Frame} {meth : Method} {c : Code} {z0 u0 n : Nat} (C : Cx G p s m args meth c prog_14_method_26_code 3 "BellPlateModel" ((none))) {n0 : Nat} {rec : GT_Md_all_Md_products_Md_sums_Md_takePart_M} (HR : H_Md_all_Md_products_Md_sums_Md_takePart_M G l n0 rec) (IH : I_Md_all G p l e s m args below meth c n0 rec z0 u0 n) (v0R : Nat) (v1I : Int32) (σ : AM) : VX (QM eV G args s below z0 u0) G p l e s m args below meth c (2 + n0 + 1) z0 u0 3 (lpK (lpn (F_Md_all rec) n) (T_Md_all_0 rec v0R v1I σ)) 0 [(0, .ref v0R), (1, .int v1I)] [] σ := by
  unfold T_Md_all_0
  refine x_aload_n C d_Md_all_0 0 rfl ?_
  refine x_iload_n C d_Md_all_1 1 rfl ?_
  refine x_gd (fun h3 => ?_)
  refine x_callVV (As := [.int v1I]) C (HR.2.2.2.2 v0R v1I σ) (okO_iff.mp h3) rfl w2138 w73 w2136 w2139 w134 k_Md_test rfl (by omega) (by decide) rfl (Nat.le_of_ble_eq_true rfl) d_Md_all_2 (fun r1 σ2 => ?_)
  exact IH.2.1 v0R v1I (σ2)
set_option maxRecDepth 20000 in
theorem s_Md_all_1 {G : GX} {p : Program} {l : Launch} {e : Env} {s : State} {m : MethodId} {args : Array Value} {below : List Frame} {meth : Method} {c : Code} {z0 u0 n : Nat} (C : Cx G p s m args meth c prog_14_method_26_code 3 "BellPlateModel" ((none))) {n0 : Nat} {rec : GT_Md_all_Md_products_Md_sums_Md_takePart_M} (HR : H_Md_all_Md_products_Md_sums_Md_takePart_M G l n0 rec) (IH : I_Md_all G p l e s m args below meth c n0 rec z0 u0 n) (v0R : Nat) (v1I : Int32) (σ : AM) : VX (QM eV G args s below z0 u0) G p l e s m args below meth c (2 + n0 + 1) z0 u0 3 (lpK (lpn (F_Md_all rec) n) (T_Md_all_1 rec v0R v1I σ)) 5 [(0, .ref v0R), (1, .int v1I)] [] σ := by
  unfold T_Md_all_1
  refine x_aload_n C d_Md_all_5 0 rfl ?_
  refine x_bipush (v := (6 : Int32)) C d_Md_all_6 (by decide) ?_
  refine x_gd (fun h3 => ?_)
  refine x_callVI (As := [.int (6 : Int32)]) C (c_Md_isWord G l v0R (6 : Int32) σ) (okO_iff.mp h3) rfl w2110 w66 w2108 w2111 w134 k_Md_isWord rfl (by omega) (by decide) rfl (Nat.le_of_ble_eq_true rfl) d_Md_all_8 (fun r1 σ2 => ?_)
  refine x_if_ne (tgt := 23) C d_Md_all_11 (by decide) (fun _ => ?_) (fun _ => ?_)
  · refine x_aload_n C d_Md_all_14 0 rfl ?_
    refine x_bipush (v := (7 : Int32)) C d_Md_all_15 (by decide) ?_
    refine x_gd (fun h6 => ?_)
    refine x_callVI (As := [.int (7 : Int32)]) C (c_Md_isWord G l v0R (7 : Int32) σ2) (okO_iff.mp h6) rfl w2110 w66 w2108 w2111 w134 k_Md_isWord rfl (by omega) (by decide) rfl (Nat.le_of_ble_eq_true rfl) d_Md_all_17 (fun r4 σ5 => ?_)
    refine x_if_eq (tgt := 64) C d_Md_all_20 (by decide) (fun _ => ?_) (fun _ => ?_)
    · exact x_vret C d_Md_all_64
    · exact IH.2.2.1 v0R v1I (σ5)
  · exact IH.2.2.1 v0R v1I (σ2)
set_option maxRecDepth 20000 in
theorem s_Md_all_2 {G : GX} {p : Program} {l : Launch} {e : Env} {s : State} {m : MethodId} {args : Array Value} {below : List Frame} {meth : Method} {c : Code} {z0 u0 n : Nat} (C : Cx G p s m args meth c prog_14_method_26_code 3 "BellPlateModel" ((none))) {n0 : Nat} {rec : GT_Md_all_Md_products_Md_sums_Md_takePart_M} (HR : H_Md_all_Md_products_Md_sums_Md_takePart_M G l n0 rec) (IH : I_Md_all G p l e s m args below meth c n0 rec z0 u0 n) (v0R : Nat) (v1I : Int32) (σ : AM) : VX (QM eV G args s below z0 u0) G p l e s m args below meth c (2 + n0 + 1) z0 u0 3 (lpK (lpn (F_Md_all rec) n) (T_Md_all_2 rec v0R v1I σ)) 23 [(0, .ref v0R), (1, .int v1I)] [] σ := by
  unfold T_Md_all_2
  refine x_aload_n C d_Md_all_23 0 rfl ?_
  refine x_bipush (v := (6 : Int32)) C d_Md_all_24 (by decide) ?_
  refine x_gd (fun h3 => ?_)
  refine x_callVI (As := [.int (6 : Int32)]) C (c_Md_isWord G l v0R (6 : Int32) σ) (okO_iff.mp h3) rfl w2110 w66 w2108 w2111 w134 k_Md_isWord rfl (by omega) (by decide) rfl (Nat.le_of_ble_eq_true rfl) d_Md_all_26 (fun r1 σ2 => ?_)
  refine x_istore_n (lv' := [(2, .int r1), (0, .ref v0R), (1, .int v1I)]) C d_Md_all_29 (by decide) rfl rfl ?_
  refine x_aload_n C d_Md_all_30 1 rfl ?_
  refine x_dup C d_Md_all_31 rfl ?_
  refine x_gd (fun h4 => ?_)
  refine x_getI (k := 7) C (okO_iff.mp h4) rfl j11_ok (by decide) rfl w1859 d_Md_all_32 ?_
  refine x_iconst (v := (1 : Int32)) C d_Md_all_35 (by decide) ?_
  refine x_iadd C d_Md_all_36 ?_
  refine x_putI (k := 7) C (okO_iff.mp h4) rfl j11_ok y11_ok n11_ok (by decide) rfl rfl rfl rfl w1859 d_Md_all_37 ?_
  refine x_letS (fun σ5 e6 => ?_)
  refine x_aload_n C d_Md_all_40 1 rfl ?_
  refine x_iload_n C d_Md_all_41 2 rfl ?_
  refine x_callVV (As := [.int v1I]) C (HR.2.2.2.2 v0R v1I σ5) (by first | exact (okO_iff.mp h4) | (rw [e6]; exact (okO_iff.mp h4))) rfl w2138 w73 w2136 w2139 w134 k_Md_test rfl (by omega) (by decide) rfl (Nat.le_of_ble_eq_true rfl) d_Md_all_42 (fun r7 σ8 => ?_)
  refine x_aload_n C d_Md_all_45 1 rfl ?_
  refine x_iload_n C d_Md_all_46 0 rfl ?_
  refine x_if_eq (tgt := 55) C d_Md_all_47 (by decide) (fun _ => ?_) (fun _ => ?_)
  · refine x_bipush (v := (10 : Int32)) C d_Md_all_55 (by decide) ?_
    refine x_lv [1, 2] rfl ?_
    exact IH.2.2.2 v0R v1I v0R ((10 : Int32)) (σ8)
  · refine x_bipush (v := (9 : Int32)) C d_Md_all_50 (by decide) ?_
    refine x_goto (tgt := 57) C d_Md_all_52 (by decide) ?_
    refine x_lv [1, 2] rfl ?_
    exact IH.2.2.2 v0R v1I v0R ((9 : Int32)) (σ8)
set_option maxRecDepth 20000 in
theorem s_Md_all_3 {G : GX} {p : Program} {l : Launch} {e : Env} {s : State} {m : MethodId} {args : Array Value} {below : List Frame} {meth : Method} {c : Code} {z0 u0 n : Nat} (C : Cx G p s m args meth c prog_14_method_26_code 3 "BellPlateModel" ((none))) {n0 : Nat} {rec : GT_Md_all_Md_products_Md_sums_Md_takePart_M} (HR : H_Md_all_Md_products_Md_sums_Md_takePart_M G l n0 rec) (IH : I_Md_all G p l e s m args below meth c n0 rec z0 u0 n) (v0R : Nat) (v1I : Int32) (s0R : Nat) (s1I : Int32) (σ : AM) : VX (QM eV G args s below z0 u0) G p l e s m args below meth c (2 + n0 + 1) z0 u0 3 (lpK (lpn (F_Md_all rec) n) (T_Md_all_3 rec v0R v1I s0R s1I σ)) 57 [(0, .ref v0R), (1, .int v1I)] [.int s1I, .ref s0R] σ := by
  unfold T_Md_all_3
  refine x_iconst (v := (0 : Int32)) C d_Md_all_57 (by decide) ?_
  refine x_gd (fun h3 => ?_)
  refine x_callVV (As := [.int s1I, .int (0 : Int32)]) C (c_Md_emit G l s0R s1I (0 : Int32) σ) (okO_iff.mp h3) rfl w2162 w79 w2160 w2163 w134 k_Md_emit rfl (by omega) (by decide) rfl (Nat.le_of_ble_eq_true rfl) d_Md_all_58 (fun r1 σ2 => ?_)
  refine x_goto (tgt := 5) C d_Md_all_61 (by decide) ?_
  exact IH.2.1 v0R v1I (σ2)
theorem i_Md_all {G : GX} {p : Program} {l : Launch} {e : Env} {s : State} {m : MethodId} {args : Array Value} {below : List Frame} {meth : Method} {c : Code} {z0 u0 : Nat} (C : Cx G p s m args meth c prog_14_method_26_code 3 "BellPlateModel" ((none))) {n0 : Nat} {rec : GT_Md_all_Md_products_Md_sums_Md_takePart_M} (HR : H_Md_all_Md_products_Md_sums_Md_takePart_M G l n0 rec) (n : Nat) : I_Md_all G p l e s m args below meth c n0 rec z0 u0 n := by
  induction n with
  | zero => exact ⟨fun _ _ _ => x_none, fun _ _ _ => x_none, fun _ _ _ => x_none, fun _ _ _ _ _ => x_none⟩
  | succ n IH => exact ⟨fun v0R v1I σ => s_Md_all_0 C HR IH v0R v1I σ, fun v0R v1I σ => s_Md_all_1 C HR IH v0R v1I σ, fun v0R v1I σ => s_Md_all_2 C HR IH v0R v1I σ, fun v0R v1I s0R s1I σ => s_Md_all_3 C HR IH v0R v1I s0R s1I σ⟩
theorem n_Md_all (G : GX) (l : Launch) (n0 : Nat) (rec : GT_Md_all_Md_products_Md_sums_Md_takePart_M) (HR : H_Md_all_Md_products_Md_sums_Md_takePart_M G l n0 rec) (v0R : Nat) (v1I : Int32) (σ : AM) : CT eV G l (2 + (n0 + 1)) y_Md_all prog_14_method_26_code 3 (none) [.ref v0R, .int v1I] σ (N_Md_all rec v0R v1I σ) := by
  refine ct_of (by decide +kernel) (Nat.le_of_ble_eq_true rfl) (fun p e s m args below meth c C hin => ?_)
  refine x_lve (lv' := [(0, .ref v0R), (1, .int v1I)]) rfl ?_
  intro r σ' h
  obtain ⟨n, hn⟩ := (lp_iff _ _ _).mp h
  exact (i_Md_all C HR n).1 v0R v1I σ r σ' hn
abbrev S_Md_products : Type := Nat × Nat × Int32 × AM
noncomputable def T_Md_products_0 (rec : GT_Md_all_Md_products_Md_sums_Md_takePart_M) (v0R : Nat) (v1I : Int32) (σ : AM) : S_Md_products ⊕ Option (Unit × AM) :=
  gdT (okO σ v0R 12) <| bndT (rec.2.2.2.1 v0R v1I σ) fun _ σ2 => .inl (1, v0R, v1I, σ2)
noncomputable def T_Md_products_1 (rec : GT_Md_all_Md_products_Md_sums_Md_takePart_M) (v0R : Nat) (v1I : Int32) (σ : AM) : S_Md_products ⊕ Option (Unit × AM) :=
  gdT (okO σ v0R 12) <| bndT (M_Md_hasSign v0R (42 : Int32) σ) fun r1 σ2 => if r1 = 0 then (.inr (some ((), σ2))) else (gdT (okO σ2 v0R 12) <| bndT (rec.2.2.2.1 v0R v1I σ2) fun _ σ5 => gdT (okO σ5 v0R 12) <| bndT (M_Md_emit v0R (6 : Int32) (0 : Int32) σ5) fun _ σ8 => .inl (1, v0R, v1I, σ8))
noncomputable def F_Md_products (rec : GT_Md_all_Md_products_Md_sums_Md_takePart_M) : S_Md_products → S_Md_products ⊕ Option (Unit × AM) := fun s => match s.1 with
  | 0 => T_Md_products_0 rec (s.2.1) (s.2.2.1) (s.2.2.2)
  | _ => T_Md_products_1 rec (s.2.1) (s.2.2.1) (s.2.2.2)
noncomputable def L_Md_products_0 (rec : GT_Md_all_Md_products_Md_sums_Md_takePart_M) (v0R : Nat) (v1I : Int32) (σ : AM) : Option (Unit × AM) := lp (F_Md_products rec) (0, v0R, v1I, σ)
noncomputable def L_Md_products_1 (rec : GT_Md_all_Md_products_Md_sums_Md_takePart_M) (v0R : Nat) (v1I : Int32) (σ : AM) : Option (Unit × AM) := lp (F_Md_products rec) (1, v0R, v1I, σ)
set_option maxRecDepth 20000 in
theorem E_Md_products_0 (rec : GT_Md_all_Md_products_Md_sums_Md_takePart_M) (v0R : Nat) (v1I : Int32) (σ : AM) : L_Md_products_0 rec v0R v1I σ = (gd (okO σ v0R 12) <| bnd (rec.2.2.2.1 v0R v1I σ) fun _ σ2 => L_Md_products_1 rec v0R v1I σ2) := by
  unfold L_Md_products_0
  rw [lp_eq]
  show lpK (lp (F_Md_products rec)) (T_Md_products_0 rec v0R v1I σ) = _
  unfold T_Md_products_0
  simp only [lpK_ite, lq_inl, lq_inr, lpK_bnd, lpK_gd, lq_let]
  try rfl
set_option maxRecDepth 20000 in
theorem E_Md_products_1 (rec : GT_Md_all_Md_products_Md_sums_Md_takePart_M) (v0R : Nat) (v1I : Int32) (σ : AM) : L_Md_products_1 rec v0R v1I σ = (gd (okO σ v0R 12) <| bnd (M_Md_hasSign v0R (42 : Int32) σ) fun r1 σ2 => if r1 = 0 then ((some ((), σ2))) else (gd (okO σ2 v0R 12) <| bnd (rec.2.2.2.1 v0R v1I σ2) fun _ σ5 => gd (okO σ5 v0R 12) <| bnd (M_Md_emit v0R (6 : Int32) (0 : Int32) σ5) fun _ σ8 => L_Md_products_1 rec v0R v1I σ8)) := by
  unfold L_Md_products_1
  rw [lp_eq]
  show lpK (lp (F_Md_products rec)) (T_Md_products_1 rec v0R v1I σ) = _
  unfold T_Md_products_1
  simp only [lpK_ite, lq_inl, lq_inr, lpK_bnd, lpK_gd, lq_let]
  try rfl
noncomputable def N_Md_products (rec : GT_Md_all_Md_products_Md_sums_Md_takePart_M) (v0R : Nat) (v1I : Int32) (σ : AM) : Option (Unit × AM) := mw σ (L_Md_products_0 rec v0R v1I σ)
def I_Md_products (G : GX) (p : Program) (l : Launch) (e : Env) (s : State) (m : MethodId) (args : Array Value) (below : List Frame) (meth : Method) (c : Code) (n0 : Nat) (rec : GT_Md_all_Md_products_Md_sums_Md_takePart_M) (z0 u0 n : Nat) : Prop :=
  (∀ (v0R : Nat) (v1I : Int32) (σ : AM), VX (QM eV G args s below z0 u0) G p l e s m args below meth c (2 + n0 + 1) z0 u0 2 (lpn (F_Md_products rec) n (0, v0R, v1I, σ)) 0 [(0, .ref v0R), (1, .int v1I)] [] σ) ∧
  (∀ (v0R : Nat) (v1I : Int32) (σ : AM), VX (QM eV G args s below z0 u0) G p l e s m args below meth c (2 + n0 + 1) z0 u0 2 (lpn (F_Md_products rec) n (1, v0R, v1I, σ)) 5 [(0, .ref v0R), (1, .int v1I)] [] σ)
set_option maxRecDepth 20000 in
theorem s_Md_products_0 {G : GX} {p : Program} {l : Launch} {e : Env} {s : State} {m : MethodId} {args : Array Value} {below : List Frame} {meth : Method} {c : Code} {z0 u0 n : Nat} (C : Cx G p s m args meth c prog_14_method_29_code 2 "BellPlateModel" ((none))) {n0 : Nat} {rec : GT_Md_all_Md_products_Md_sums_Md_takePart_M} (HR : H_Md_all_Md_products_Md_sums_Md_takePart_M G l n0 rec) (IH : I_Md_products G p l e s m args below meth c n0 rec z0 u0 n) (v0R : Nat) (v1I : Int32) (σ : AM) : VX (QM eV G args s below z0 u0) G p l e s m args below meth c (2 + n0 + 1) z0 u0 2 (lpK (lpn (F_Md_products rec) n) (T_Md_products_0 rec v0R v1I σ)) 0 [(0, .ref v0R), (1, .int v1I)] [] σ := by
  unfold T_Md_products_0
  refine x_aload_n C d_Md_products_0 0 rfl ?_
  refine x_iload_n C d_Md_products_1 1 rfl ?_
  refine x_gd (fun h3 => ?_)
  refine x_callVV (As := [.int v1I]) C (HR.2.2.2.1 v0R v1I σ) (okO_iff.mp h3) rfl w2150 w76 w2148 w2151 w134 k_Md_takePart rfl (by omega) (by decide) rfl (Nat.le_of_ble_eq_true rfl) d_Md_products_2 (fun r1 σ2 => ?_)
  exact IH.2 v0R v1I (σ2)
set_option maxRecDepth 20000 in
theorem s_Md_products_1 {G : GX} {p : Program} {l : Launch} {e : Env} {s : State} {m : MethodId} {args : Array Value} {below : List Frame} {meth : Method} {c : Code} {z0 u0 n : Nat} (C : Cx G p s m args meth c prog_14_method_29_code 2 "BellPlateModel" ((none))) {n0 : Nat} {rec : GT_Md_all_Md_products_Md_sums_Md_takePart_M} (HR : H_Md_all_Md_products_Md_sums_Md_takePart_M G l n0 rec) (IH : I_Md_products G p l e s m args below meth c n0 rec z0 u0 n) (v0R : Nat) (v1I : Int32) (σ : AM) : VX (QM eV G args s below z0 u0) G p l e s m args below meth c (2 + n0 + 1) z0 u0 2 (lpK (lpn (F_Md_products rec) n) (T_Md_products_1 rec v0R v1I σ)) 5 [(0, .ref v0R), (1, .int v1I)] [] σ := by
  unfold T_Md_products_1
  refine x_aload_n C d_Md_products_5 0 rfl ?_
  refine x_bipush (v := (42 : Int32)) C d_Md_products_6 (by decide) ?_
  refine x_gd (fun h3 => ?_)
  refine x_callVI (As := [.int (42 : Int32)]) C (c_Md_hasSign G l v0R (42 : Int32) σ) (okO_iff.mp h3) rfl w2166 w80 w2164 w2167 w134 k_Md_hasSign rfl (by omega) (by decide) rfl (Nat.le_of_ble_eq_true rfl) d_Md_products_8 (fun r1 σ2 => ?_)
  refine x_if_eq (tgt := 29) C d_Md_products_11 (by decide) (fun _ => ?_) (fun _ => ?_)
  · exact x_vret C d_Md_products_29
  · refine x_aload_n C d_Md_products_14 0 rfl ?_
    refine x_iload_n C d_Md_products_15 1 rfl ?_
    refine x_gd (fun h6 => ?_)
    refine x_callVV (As := [.int v1I]) C (HR.2.2.2.1 v0R v1I σ2) (okO_iff.mp h6) rfl w2150 w76 w2148 w2151 w134 k_Md_takePart rfl (by omega) (by decide) rfl (Nat.le_of_ble_eq_true rfl) d_Md_products_16 (fun r4 σ5 => ?_)
    refine x_aload_n C d_Md_products_19 0 rfl ?_
    refine x_bipush (v := (6 : Int32)) C d_Md_products_20 (by decide) ?_
    refine x_iconst (v := (0 : Int32)) C d_Md_products_22 (by decide) ?_
    refine x_gd (fun h9 => ?_)
    refine x_callVV (As := [.int (6 : Int32), .int (0 : Int32)]) C (c_Md_emit G l v0R (6 : Int32) (0 : Int32) σ5) (okO_iff.mp h9) rfl w2162 w79 w2160 w2163 w134 k_Md_emit rfl (by omega) (by decide) rfl (Nat.le_of_ble_eq_true rfl) d_Md_products_23 (fun r7 σ8 => ?_)
    refine x_goto (tgt := 5) C d_Md_products_26 (by decide) ?_
    exact IH.2 v0R v1I (σ8)
theorem i_Md_products {G : GX} {p : Program} {l : Launch} {e : Env} {s : State} {m : MethodId} {args : Array Value} {below : List Frame} {meth : Method} {c : Code} {z0 u0 : Nat} (C : Cx G p s m args meth c prog_14_method_29_code 2 "BellPlateModel" ((none))) {n0 : Nat} {rec : GT_Md_all_Md_products_Md_sums_Md_takePart_M} (HR : H_Md_all_Md_products_Md_sums_Md_takePart_M G l n0 rec) (n : Nat) : I_Md_products G p l e s m args below meth c n0 rec z0 u0 n := by
  induction n with
  | zero => exact ⟨fun _ _ _ => x_none, fun _ _ _ => x_none⟩
  | succ n IH => exact ⟨fun v0R v1I σ => s_Md_products_0 C HR IH v0R v1I σ, fun v0R v1I σ => s_Md_products_1 C HR IH v0R v1I σ⟩
theorem n_Md_products (G : GX) (l : Launch) (n0 : Nat) (rec : GT_Md_all_Md_products_Md_sums_Md_takePart_M) (HR : H_Md_all_Md_products_Md_sums_Md_takePart_M G l n0 rec) (v0R : Nat) (v1I : Int32) (σ : AM) : CT eV G l (2 + (n0 + 1)) y_Md_products prog_14_method_29_code 2 (none) [.ref v0R, .int v1I] σ (N_Md_products rec v0R v1I σ) := by
  refine ct_of (by decide +kernel) (Nat.le_of_ble_eq_true rfl) (fun p e s m args below meth c C hin => ?_)
  refine x_lve (lv' := [(0, .ref v0R), (1, .int v1I)]) rfl ?_
  intro r σ' h
  obtain ⟨n, hn⟩ := (lp_iff _ _ _).mp h
  exact (i_Md_products C HR n).1 v0R v1I σ r σ' hn
abbrev S_Md_sums : Type := Nat × Nat × Int32 × Nat × Int32 × AM
noncomputable def T_Md_sums_0 (rec : GT_Md_all_Md_products_Md_sums_Md_takePart_M) (v0R : Nat) (v1I : Int32) (σ : AM) : S_Md_sums ⊕ Option (Unit × AM) :=
  gdT (okO σ v0R 12) <| bndT (rec.2.1 v0R v1I σ) fun _ σ2 => .inl (1, v0R, v1I, 0, 0, σ2)
noncomputable def T_Md_sums_1 (rec : GT_Md_all_Md_products_Md_sums_Md_takePart_M) (v0R : Nat) (v1I : Int32) (σ : AM) : S_Md_sums ⊕ Option (Unit × AM) :=
  gdT (okO σ v0R 12) <| bndT (M_Md_isSign v0R (43 : Int32) σ) fun r1 σ2 => if r1 = 0 then (gdT (okO σ2 v0R 12) <| bndT (M_Md_isSign v0R (45 : Int32) σ2) fun r4 σ5 => if r4 = 0 then (.inr (some ((), σ5))) else (.inl (2, v0R, v1I, 0, 0, σ5))) else (.inl (2, v0R, v1I, 0, 0, σ2))
noncomputable def T_Md_sums_2 (rec : GT_Md_all_Md_products_Md_sums_Md_takePart_M) (v0R : Nat) (v1I : Int32) (σ : AM) : S_Md_sums ⊕ Option (Unit × AM) :=
  gdT (okO σ v0R 12) <| bndT (M_Md_isSign v0R (43 : Int32) σ) fun r1 σ2 => gdT (okO σ2 v0R 12) <| letT (sI σ2 v0R 7 ((aI σ2 v0R 7) + (1 : Int32))) fun σ5 => bndT (rec.2.1 v0R v1I σ5) fun _ σ8 => if r1 = 0 then (.inl (3, v0R, v1I, v0R, (5 : Int32), σ8)) else (.inl (3, v0R, v1I, v0R, (4 : Int32), σ8))
noncomputable def T_Md_sums_3 (rec : GT_Md_all_Md_products_Md_sums_Md_takePart_M) (v0R : Nat) (v1I : Int32) (s0R : Nat) (s1I : Int32) (σ : AM) : S_Md_sums ⊕ Option (Unit × AM) :=
  gdT (okO σ s0R 12) <| bndT (M_Md_emit s0R s1I (0 : Int32) σ) fun _ σ2 => .inl (1, v0R, v1I, 0, 0, σ2)
noncomputable def F_Md_sums (rec : GT_Md_all_Md_products_Md_sums_Md_takePart_M) : S_Md_sums → S_Md_sums ⊕ Option (Unit × AM) := fun s => match s.1 with
  | 0 => T_Md_sums_0 rec (s.2.1) (s.2.2.1) (s.2.2.2.2.2)
  | 1 => T_Md_sums_1 rec (s.2.1) (s.2.2.1) (s.2.2.2.2.2)
  | 2 => T_Md_sums_2 rec (s.2.1) (s.2.2.1) (s.2.2.2.2.2)
  | _ => T_Md_sums_3 rec (s.2.1) (s.2.2.1) (s.2.2.2.1) (s.2.2.2.2.1) (s.2.2.2.2.2)
noncomputable def L_Md_sums_0 (rec : GT_Md_all_Md_products_Md_sums_Md_takePart_M) (v0R : Nat) (v1I : Int32) (σ : AM) : Option (Unit × AM) := lp (F_Md_sums rec) (0, v0R, v1I, 0, 0, σ)
noncomputable def L_Md_sums_1 (rec : GT_Md_all_Md_products_Md_sums_Md_takePart_M) (v0R : Nat) (v1I : Int32) (σ : AM) : Option (Unit × AM) := lp (F_Md_sums rec) (1, v0R, v1I, 0, 0, σ)
noncomputable def L_Md_sums_2 (rec : GT_Md_all_Md_products_Md_sums_Md_takePart_M) (v0R : Nat) (v1I : Int32) (σ : AM) : Option (Unit × AM) := lp (F_Md_sums rec) (2, v0R, v1I, 0, 0, σ)
noncomputable def L_Md_sums_3 (rec : GT_Md_all_Md_products_Md_sums_Md_takePart_M) (v0R : Nat) (v1I : Int32) (s0R : Nat) (s1I : Int32) (σ : AM) : Option (Unit × AM) := lp (F_Md_sums rec) (3, v0R, v1I, s0R, s1I, σ)
set_option maxRecDepth 20000 in
theorem E_Md_sums_0 (rec : GT_Md_all_Md_products_Md_sums_Md_takePart_M) (v0R : Nat) (v1I : Int32) (σ : AM) : L_Md_sums_0 rec v0R v1I σ = (gd (okO σ v0R 12) <| bnd (rec.2.1 v0R v1I σ) fun _ σ2 => L_Md_sums_1 rec v0R v1I σ2) := by
  unfold L_Md_sums_0
  rw [lp_eq]
  show lpK (lp (F_Md_sums rec)) (T_Md_sums_0 rec v0R v1I σ) = _
  unfold T_Md_sums_0
  simp only [lpK_ite, lq_inl, lq_inr, lpK_bnd, lpK_gd, lq_let]
  try rfl
set_option maxRecDepth 20000 in
theorem E_Md_sums_1 (rec : GT_Md_all_Md_products_Md_sums_Md_takePart_M) (v0R : Nat) (v1I : Int32) (σ : AM) : L_Md_sums_1 rec v0R v1I σ = (gd (okO σ v0R 12) <| bnd (M_Md_isSign v0R (43 : Int32) σ) fun r1 σ2 => if r1 = 0 then (gd (okO σ2 v0R 12) <| bnd (M_Md_isSign v0R (45 : Int32) σ2) fun r4 σ5 => if r4 = 0 then ((some ((), σ5))) else (L_Md_sums_2 rec v0R v1I σ5)) else (L_Md_sums_2 rec v0R v1I σ2)) := by
  unfold L_Md_sums_1
  rw [lp_eq]
  show lpK (lp (F_Md_sums rec)) (T_Md_sums_1 rec v0R v1I σ) = _
  unfold T_Md_sums_1
  simp only [lpK_ite, lq_inl, lq_inr, lpK_bnd, lpK_gd, lq_let]
  try rfl
set_option maxRecDepth 20000 in
theorem E_Md_sums_2 (rec : GT_Md_all_Md_products_Md_sums_Md_takePart_M) (v0R : Nat) (v1I : Int32) (σ : AM) : L_Md_sums_2 rec v0R v1I σ = (gd (okO σ v0R 12) <| bnd (M_Md_isSign v0R (43 : Int32) σ) fun r1 σ2 => gd (okO σ2 v0R 12) <| letT (sI σ2 v0R 7 ((aI σ2 v0R 7) + (1 : Int32))) fun σ5 => bnd (rec.2.1 v0R v1I σ5) fun _ σ8 => if r1 = 0 then (L_Md_sums_3 rec v0R v1I v0R ((5 : Int32)) σ8) else (L_Md_sums_3 rec v0R v1I v0R ((4 : Int32)) σ8)) := by
  unfold L_Md_sums_2
  rw [lp_eq]
  show lpK (lp (F_Md_sums rec)) (T_Md_sums_2 rec v0R v1I σ) = _
  unfold T_Md_sums_2
  simp only [lpK_ite, lq_inl, lq_inr, lpK_bnd, lpK_gd, lq_let]
  try rfl
set_option maxRecDepth 20000 in
theorem E_Md_sums_3 (rec : GT_Md_all_Md_products_Md_sums_Md_takePart_M) (v0R : Nat) (v1I : Int32) (s0R : Nat) (s1I : Int32) (σ : AM) : L_Md_sums_3 rec v0R v1I s0R s1I σ = (gd (okO σ s0R 12) <| bnd (M_Md_emit s0R s1I (0 : Int32) σ) fun _ σ2 => L_Md_sums_1 rec v0R v1I σ2) := by
  unfold L_Md_sums_3
  rw [lp_eq]
  show lpK (lp (F_Md_sums rec)) (T_Md_sums_3 rec v0R v1I s0R s1I σ) = _
  unfold T_Md_sums_3
  simp only [lpK_ite, lq_inl, lq_inr, lpK_bnd, lpK_gd, lq_let]
  try rfl
noncomputable def N_Md_sums (rec : GT_Md_all_Md_products_Md_sums_Md_takePart_M) (v0R : Nat) (v1I : Int32) (σ : AM) : Option (Unit × AM) := mw σ (L_Md_sums_0 rec v0R v1I σ)
def I_Md_sums (G : GX) (p : Program) (l : Launch) (e : Env) (s : State) (m : MethodId) (args : Array Value) (below : List Frame) (meth : Method) (c : Code) (n0 : Nat) (rec : GT_Md_all_Md_products_Md_sums_Md_takePart_M) (z0 u0 n : Nat) : Prop :=
  (∀ (v0R : Nat) (v1I : Int32) (σ : AM), VX (QM eV G args s below z0 u0) G p l e s m args below meth c (2 + n0 + 1) z0 u0 3 (lpn (F_Md_sums rec) n (0, v0R, v1I, 0, 0, σ)) 0 [(0, .ref v0R), (1, .int v1I)] [] σ) ∧
  (∀ (v0R : Nat) (v1I : Int32) (σ : AM), VX (QM eV G args s below z0 u0) G p l e s m args below meth c (2 + n0 + 1) z0 u0 3 (lpn (F_Md_sums rec) n (1, v0R, v1I, 0, 0, σ)) 5 [(0, .ref v0R), (1, .int v1I)] [] σ) ∧
  (∀ (v0R : Nat) (v1I : Int32) (σ : AM), VX (QM eV G args s below z0 u0) G p l e s m args below meth c (2 + n0 + 1) z0 u0 3 (lpn (F_Md_sums rec) n (2, v0R, v1I, 0, 0, σ)) 23 [(0, .ref v0R), (1, .int v1I)] [] σ) ∧
  (∀ (v0R : Nat) (v1I : Int32) (s0R : Nat) (s1I : Int32) (σ : AM), VX (QM eV G args s below z0 u0) G p l e s m args below meth c (2 + n0 + 1) z0 u0 3 (lpn (F_Md_sums rec) n (3, v0R, v1I, s0R, s1I, σ)) 55 [(0, .ref v0R), (1, .int v1I)] [.int s1I, .ref s0R] σ)
set_option maxRecDepth 20000 in
theorem s_Md_sums_0 {G : GX} {p : Program} {l : Launch} {e : Env} {s : State} {m : MethodId} {args : Array Value} {below : List Frame} {meth : Method} {c : Code} {z0 u0 n : Nat} (C : Cx G p s m args meth c prog_14_method_28_code 3 "BellPlateModel" ((none))) {n0 : Nat} {rec : GT_Md_all_Md_products_Md_sums_Md_takePart_M} (HR : H_Md_all_Md_products_Md_sums_Md_takePart_M G l n0 rec) (IH : I_Md_sums G p l e s m args below meth c n0 rec z0 u0 n) (v0R : Nat) (v1I : Int32) (σ : AM) : VX (QM eV G args s below z0 u0) G p l e s m args below meth c (2 + n0 + 1) z0 u0 3 (lpK (lpn (F_Md_sums rec) n) (T_Md_sums_0 rec v0R v1I σ)) 0 [(0, .ref v0R), (1, .int v1I)] [] σ := by
  unfold T_Md_sums_0
  refine x_aload_n C d_Md_sums_0 0 rfl ?_
  refine x_iload_n C d_Md_sums_1 1 rfl ?_
  refine x_gd (fun h3 => ?_)
  refine x_callVV (As := [.int v1I]) C (HR.2.1 v0R v1I σ) (okO_iff.mp h3) rfl w2146 w75 w2144 w2147 w134 k_Md_products rfl (by omega) (by decide) rfl (Nat.le_of_ble_eq_true rfl) d_Md_sums_2 (fun r1 σ2 => ?_)
  exact IH.2.1 v0R v1I (σ2)
set_option maxRecDepth 20000 in
theorem s_Md_sums_1 {G : GX} {p : Program} {l : Launch} {e : Env} {s : State} {m : MethodId} {args : Array Value} {below : List Frame} {meth : Method} {c : Code} {z0 u0 n : Nat} (C : Cx G p s m args meth c prog_14_method_28_code 3 "BellPlateModel" ((none))) {n0 : Nat} {rec : GT_Md_all_Md_products_Md_sums_Md_takePart_M} (HR : H_Md_all_Md_products_Md_sums_Md_takePart_M G l n0 rec) (IH : I_Md_sums G p l e s m args below meth c n0 rec z0 u0 n) (v0R : Nat) (v1I : Int32) (σ : AM) : VX (QM eV G args s below z0 u0) G p l e s m args below meth c (2 + n0 + 1) z0 u0 3 (lpK (lpn (F_Md_sums rec) n) (T_Md_sums_1 rec v0R v1I σ)) 5 [(0, .ref v0R), (1, .int v1I)] [] σ := by
  unfold T_Md_sums_1
  refine x_aload_n C d_Md_sums_5 0 rfl ?_
  refine x_bipush (v := (43 : Int32)) C d_Md_sums_6 (by decide) ?_
  refine x_gd (fun h3 => ?_)
  refine x_callVI (As := [.int (43 : Int32)]) C (c_Md_isSign G l v0R (43 : Int32) σ) (okO_iff.mp h3) rfl w2154 w77 w2152 w2155 w134 k_Md_isSign rfl (by omega) (by decide) rfl (Nat.le_of_ble_eq_true rfl) d_Md_sums_8 (fun r1 σ2 => ?_)
  refine x_if_ne (tgt := 23) C d_Md_sums_11 (by decide) (fun _ => ?_) (fun _ => ?_)
  · refine x_aload_n C d_Md_sums_14 0 rfl ?_
    refine x_bipush (v := (45 : Int32)) C d_Md_sums_15 (by decide) ?_
    refine x_gd (fun h6 => ?_)
    refine x_callVI (As := [.int (45 : Int32)]) C (c_Md_isSign G l v0R (45 : Int32) σ2) (okO_iff.mp h6) rfl w2154 w77 w2152 w2155 w134 k_Md_isSign rfl (by omega) (by decide) rfl (Nat.le_of_ble_eq_true rfl) d_Md_sums_17 (fun r4 σ5 => ?_)
    refine x_if_eq (tgt := 62) C d_Md_sums_20 (by decide) (fun _ => ?_) (fun _ => ?_)
    · exact x_vret C d_Md_sums_62
    · exact IH.2.2.1 v0R v1I (σ5)
  · exact IH.2.2.1 v0R v1I (σ2)
set_option maxRecDepth 20000 in
theorem s_Md_sums_2 {G : GX} {p : Program} {l : Launch} {e : Env} {s : State} {m : MethodId} {args : Array Value} {below : List Frame} {meth : Method} {c : Code} {z0 u0 n : Nat} (C : Cx G p s m args meth c prog_14_method_28_code 3 "BellPlateModel" ((none))) {n0 : Nat} {rec : GT_Md_all_Md_products_Md_sums_Md_takePart_M} (HR : H_Md_all_Md_products_Md_sums_Md_takePart_M G l n0 rec) (IH : I_Md_sums G p l e s m args below meth c n0 rec z0 u0 n) (v0R : Nat) (v1I : Int32) (σ : AM) : VX (QM eV G args s below z0 u0) G p l e s m args below meth c (2 + n0 + 1) z0 u0 3 (lpK (lpn (F_Md_sums rec) n) (T_Md_sums_2 rec v0R v1I σ)) 23 [(0, .ref v0R), (1, .int v1I)] [] σ := by
  unfold T_Md_sums_2
  refine x_aload_n C d_Md_sums_23 0 rfl ?_
  refine x_bipush (v := (43 : Int32)) C d_Md_sums_24 (by decide) ?_
  refine x_gd (fun h3 => ?_)
  refine x_callVI (As := [.int (43 : Int32)]) C (c_Md_isSign G l v0R (43 : Int32) σ) (okO_iff.mp h3) rfl w2154 w77 w2152 w2155 w134 k_Md_isSign rfl (by omega) (by decide) rfl (Nat.le_of_ble_eq_true rfl) d_Md_sums_26 (fun r1 σ2 => ?_)
  refine x_istore_n (lv' := [(2, .int r1), (0, .ref v0R), (1, .int v1I)]) C d_Md_sums_29 (by decide) rfl rfl ?_
  refine x_aload_n C d_Md_sums_30 1 rfl ?_
  refine x_dup C d_Md_sums_31 rfl ?_
  refine x_gd (fun h4 => ?_)
  refine x_getI (k := 7) C (okO_iff.mp h4) rfl j11_ok (by decide) rfl w1859 d_Md_sums_32 ?_
  refine x_iconst (v := (1 : Int32)) C d_Md_sums_35 (by decide) ?_
  refine x_iadd C d_Md_sums_36 ?_
  refine x_putI (k := 7) C (okO_iff.mp h4) rfl j11_ok y11_ok n11_ok (by decide) rfl rfl rfl rfl w1859 d_Md_sums_37 ?_
  refine x_letS (fun σ5 e6 => ?_)
  refine x_aload_n C d_Md_sums_40 1 rfl ?_
  refine x_iload_n C d_Md_sums_41 2 rfl ?_
  refine x_callVV (As := [.int v1I]) C (HR.2.1 v0R v1I σ5) (by first | exact (okO_iff.mp h4) | (rw [e6]; exact (okO_iff.mp h4))) rfl w2146 w75 w2144 w2147 w134 k_Md_products rfl (by omega) (by decide) rfl (Nat.le_of_ble_eq_true rfl) d_Md_sums_42 (fun r7 σ8 => ?_)
  refine x_aload_n C d_Md_sums_45 1 rfl ?_
  refine x_iload_n C d_Md_sums_46 0 rfl ?_
  refine x_if_eq (tgt := 54) C d_Md_sums_47 (by decide) (fun _ => ?_) (fun _ => ?_)
  · refine x_iconst (v := (5 : Int32)) C d_Md_sums_54 (by decide) ?_
    refine x_lv [1, 2] rfl ?_
    exact IH.2.2.2 v0R v1I v0R ((5 : Int32)) (σ8)
  · refine x_iconst (v := (4 : Int32)) C d_Md_sums_50 (by decide) ?_
    refine x_goto (tgt := 55) C d_Md_sums_51 (by decide) ?_
    refine x_lv [1, 2] rfl ?_
    exact IH.2.2.2 v0R v1I v0R ((4 : Int32)) (σ8)
set_option maxRecDepth 20000 in
theorem s_Md_sums_3 {G : GX} {p : Program} {l : Launch} {e : Env} {s : State} {m : MethodId} {args : Array Value} {below : List Frame} {meth : Method} {c : Code} {z0 u0 n : Nat} (C : Cx G p s m args meth c prog_14_method_28_code 3 "BellPlateModel" ((none))) {n0 : Nat} {rec : GT_Md_all_Md_products_Md_sums_Md_takePart_M} (HR : H_Md_all_Md_products_Md_sums_Md_takePart_M G l n0 rec) (IH : I_Md_sums G p l e s m args below meth c n0 rec z0 u0 n) (v0R : Nat) (v1I : Int32) (s0R : Nat) (s1I : Int32) (σ : AM) : VX (QM eV G args s below z0 u0) G p l e s m args below meth c (2 + n0 + 1) z0 u0 3 (lpK (lpn (F_Md_sums rec) n) (T_Md_sums_3 rec v0R v1I s0R s1I σ)) 55 [(0, .ref v0R), (1, .int v1I)] [.int s1I, .ref s0R] σ := by
  unfold T_Md_sums_3
  refine x_iconst (v := (0 : Int32)) C d_Md_sums_55 (by decide) ?_
  refine x_gd (fun h3 => ?_)
  refine x_callVV (As := [.int s1I, .int (0 : Int32)]) C (c_Md_emit G l s0R s1I (0 : Int32) σ) (okO_iff.mp h3) rfl w2162 w79 w2160 w2163 w134 k_Md_emit rfl (by omega) (by decide) rfl (Nat.le_of_ble_eq_true rfl) d_Md_sums_56 (fun r1 σ2 => ?_)
  refine x_goto (tgt := 5) C d_Md_sums_59 (by decide) ?_
  exact IH.2.1 v0R v1I (σ2)
theorem i_Md_sums {G : GX} {p : Program} {l : Launch} {e : Env} {s : State} {m : MethodId} {args : Array Value} {below : List Frame} {meth : Method} {c : Code} {z0 u0 : Nat} (C : Cx G p s m args meth c prog_14_method_28_code 3 "BellPlateModel" ((none))) {n0 : Nat} {rec : GT_Md_all_Md_products_Md_sums_Md_takePart_M} (HR : H_Md_all_Md_products_Md_sums_Md_takePart_M G l n0 rec) (n : Nat) : I_Md_sums G p l e s m args below meth c n0 rec z0 u0 n := by
  induction n with
  | zero => exact ⟨fun _ _ _ => x_none, fun _ _ _ => x_none, fun _ _ _ => x_none, fun _ _ _ _ _ => x_none⟩
  | succ n IH => exact ⟨fun v0R v1I σ => s_Md_sums_0 C HR IH v0R v1I σ, fun v0R v1I σ => s_Md_sums_1 C HR IH v0R v1I σ, fun v0R v1I σ => s_Md_sums_2 C HR IH v0R v1I σ, fun v0R v1I s0R s1I σ => s_Md_sums_3 C HR IH v0R v1I s0R s1I σ⟩
theorem n_Md_sums (G : GX) (l : Launch) (n0 : Nat) (rec : GT_Md_all_Md_products_Md_sums_Md_takePart_M) (HR : H_Md_all_Md_products_Md_sums_Md_takePart_M G l n0 rec) (v0R : Nat) (v1I : Int32) (σ : AM) : CT eV G l (2 + (n0 + 1)) y_Md_sums prog_14_method_28_code 3 (none) [.ref v0R, .int v1I] σ (N_Md_sums rec v0R v1I σ) := by
  refine ct_of (by decide +kernel) (Nat.le_of_ble_eq_true rfl) (fun p e s m args below meth c C hin => ?_)
  refine x_lve (lv' := [(0, .ref v0R), (1, .int v1I)]) rfl ?_
  intro r σ' h
  obtain ⟨n, hn⟩ := (lp_iff _ _ _).mp h
  exact (i_Md_sums C HR n).1 v0R v1I σ r σ' hn
abbrev S_Md_takePart : Type := Nat × Nat × Int32 × Int32 × Int32 × Int32 × Nat × Int32 × Int32 × AM
noncomputable def T_Md_takePart_0 (rec : GT_Md_all_Md_products_Md_sums_Md_takePart_M) (v0R : Nat) (v1I : Int32) (σ : AM) : S_Md_takePart ⊕ Option (Unit × AM) :=
  gdT (okO σ v0R 12) <| if 0 < (aI σ v0R 8) then (.inr (some ((), σ))) else (gdT (okO σ (aR σ v0R 4) 101) <| gdT (inB (aI σ v0R 7) (aN σ (aR σ v0R 4))) <| if (aI σ (aR σ v0R 4) (aI σ v0R 7).toNatClampNeg) = (2 : Int32) then (.inl (1, v0R, v1I, 0, 0, (1 : Int32), 0, 0, 0, σ)) else (.inl (1, v0R, v1I, 0, 0, (0 : Int32), 0, 0, 0, σ)))
noncomputable def T_Md_takePart_1 (rec : GT_Md_all_Md_products_Md_sums_Md_takePart_M) (v0R : Nat) (v1I : Int32) (s0I : Int32) (σ : AM) : S_Md_takePart ⊕ Option (Unit × AM) :=
  gdT (okO σ v0R 12) <| if (aI σ v0R 23) = 0 then (bndT (M_Md_isWord v0R (9 : Int32) σ) fun r2 σ3 => .inl (2, v0R, v1I, s0I, 0, r2, 0, 0, 0, σ3)) else (bndT (M_Md_isWord v0R (8 : Int32) σ) fun r4 σ5 => .inl (2, v0R, v1I, s0I, 0, r4, 0, 0, 0, σ5))
noncomputable def T_Md_takePart_2 (rec : GT_Md_all_Md_products_Md_sums_Md_takePart_M) (v0R : Nat) (v1I : Int32) (v2I : Int32) (s0I : Int32) (σ : AM) : S_Md_takePart ⊕ Option (Unit × AM) :=
  gdT (okO σ v0R 12) <| bndT (M_Md_isName v0R σ) fun r1 σ2 => if s0I = 0 then (if r1 = 0 then (if v2I = 0 then (gdT (okO σ2 v0R 12) <| bndT (M_Md_isSign v0R (40 : Int32) σ2) fun r4 σ5 => if r4 = 0 then (gdT (okO σ5 v0R 12) <| bndT (M_Md_isWord v0R (5 : Int32) σ5) fun r7 σ8 => if r7 = 0 then (gdT (okO σ8 v0R 12) <| bndT (M_Md_faulty v0R (1 : Int32) σ8) fun _ σ11 => .inl (5, v0R, v1I, v2I, r1, 0, 0, 0, 0, σ11)) else (.inl (3, v0R, v1I, v2I, r1, 0, 0, 0, 0, σ8))) else (.inl (3, v0R, v1I, v2I, r1, 0, 0, 0, 0, σ5))) else (.inl (3, v0R, v1I, v2I, r1, 0, 0, 0, 0, σ2))) else (.inl (3, v0R, v1I, v2I, r1, 0, 0, 0, 0, σ2))) else (.inl (3, v0R, v1I, v2I, r1, 0, 0, 0, 0, σ2))
noncomputable def T_Md_takePart_3 (rec : GT_Md_all_Md_products_Md_sums_Md_takePart_M) (v0R : Nat) (v1I : Int32) (v2I : Int32) (v4I : Int32) (σ : AM) : S_Md_takePart ⊕ Option (Unit × AM) :=
  if v4I = 0 then (.inl (4, v0R, v1I, v2I, v4I, 0, 0, 0, 0, σ)) else (gdT (okO σ v0R 12) <| gdT (okO σ (aR σ v0R 6) 102) <| gdT (inB (aI σ v0R 7) (aN σ (aR σ v0R 6))) <| bndT (M_Md_nameOf v0R (aL σ (aR σ v0R 6) (aI σ v0R 7).toNatClampNeg) σ) fun r4 σ5 => if r4 < 0 then (gdT (okO σ5 v0R 12) <| bndT (M_Md_faulty v0R (2 : Int32) σ5) fun _ σ7 => .inl (5, v0R, v1I, v2I, v4I, 0, 0, 0, 0, σ7)) else (.inl (4, v0R, v1I, v2I, v4I, 0, 0, 0, 0, σ5)))
noncomputable def T_Md_takePart_4 (rec : GT_Md_all_Md_products_Md_sums_Md_takePart_M) (v0R : Nat) (v1I : Int32) (v2I : Int32) (v4I : Int32) (σ : AM) : S_Md_takePart ⊕ Option (Unit × AM) :=
  if v1I = (5 : Int32) then (gdT (okO σ v0R 12) <| bndT (M_Md_faulty v0R (5 : Int32) σ) fun _ σ2 => .inl (5, v0R, v1I, v2I, v4I, 0, 0, 0, 0, σ2)) else (.inl (5, v0R, v1I, v2I, v4I, 0, 0, 0, 0, σ))
noncomputable def T_Md_takePart_5 (rec : GT_Md_all_Md_products_Md_sums_Md_takePart_M) (v0R : Nat) (v1I : Int32) (v2I : Int32) (v4I : Int32) (σ : AM) : S_Md_takePart ⊕ Option (Unit × AM) :=
  gdT (okO σ v0R 12) <| if 0 < (aI σ v0R 8) then (.inr (some ((), σ))) else (bndT (M_Md_hasWord v0R (5 : Int32) σ) fun r2 σ3 => if r2 = 0 then (gdT (okO σ3 v0R 12) <| bndT (M_Md_hasSign v0R (40 : Int32) σ3) fun r4 σ5 => if r4 = 0 then (if v2I = 0 then (.inl (6, v0R, 0, v2I, v4I, 0, v0R, (2 : Int32), 0, σ5)) else (.inl (6, v0R, 0, v2I, v4I, 0, v0R, (1 : Int32), 0, σ5))) else (gdT (okO σ5 v0R 12) <| bndT (rec.1 v0R (v1I + (1 : Int32)) σ5) fun _ σ8 => gdT (okO σ8 v0R 12) <| bndT (M_Md_takeSign v0R (41 : Int32) σ8) fun _ σ11 => .inl (8, 0, 0, 0, 0, 0, 0, 0, 0, σ11))) else (gdT (okO σ3 v0R 12) <| bndT (rec.2.2.2.1 v0R (v1I + (1 : Int32)) σ3) fun _ σ14 => gdT (okO σ14 v0R 12) <| bndT (M_Md_emit v0R (3 : Int32) (0 : Int32) σ14) fun _ σ17 => .inl (8, 0, 0, 0, 0, 0, 0, 0, 0, σ17)))
noncomputable def T_Md_takePart_6 (rec : GT_Md_all_Md_products_Md_sums_Md_takePart_M) (v0R : Nat) (v2I : Int32) (v4I : Int32) (s0R : Nat) (s1I : Int32) (σ : AM) : S_Md_takePart ⊕ Option (Unit × AM) :=
  if v2I = 0 then (if v4I = 0 then (.inl (7, v0R, 0, 0, 0, 0, s0R, s1I, (6 : Int32), σ)) else (gdT (okO σ v0R 12) <| gdT (okO σ (aR σ v0R 6) 102) <| gdT (inB (aI σ v0R 7) (aN σ (aR σ v0R 6))) <| bndT (M_Md_nameOf v0R (aL σ (aR σ v0R 6) (aI σ v0R 7).toNatClampNeg) σ) fun r4 σ5 => .inl (7, v0R, 0, 0, 0, 0, s0R, s1I, r4, σ5))) else (gdT (okO σ v0R 12) <| gdT (okO σ (aR σ v0R 6) 102) <| gdT (inB (aI σ v0R 7) (aN σ (aR σ v0R 6))) <| .inl (7, v0R, 0, 0, 0, 0, s0R, s1I, (aL σ (aR σ v0R 6) (aI σ v0R 7).toNatClampNeg).toInt32, σ))
noncomputable def T_Md_takePart_7 (rec : GT_Md_all_Md_products_Md_sums_Md_takePart_M) (v0R : Nat) (s0R : Nat) (s1I : Int32) (s2I : Int32) (σ : AM) : S_Md_takePart ⊕ Option (Unit × AM) :=
  gdT (okO σ s0R 12) <| bndT (M_Md_emit s0R s1I s2I σ) fun _ σ2 => gdT (okO σ2 v0R 12) <| letT (sI σ2 v0R 7 ((aI σ2 v0R 7) + (1 : Int32))) fun σ5 => .inl (8, 0, 0, 0, 0, 0, 0, 0, 0, σ5)
noncomputable def T_Md_takePart_8 (rec : GT_Md_all_Md_products_Md_sums_Md_takePart_M)  (σ : AM) : S_Md_takePart ⊕ Option (Unit × AM) :=
  .inr (some ((), σ))
noncomputable def F_Md_takePart (rec : GT_Md_all_Md_products_Md_sums_Md_takePart_M) : S_Md_takePart → S_Md_takePart ⊕ Option (Unit × AM) := fun s => match s.1 with
  | 0 => T_Md_takePart_0 rec (s.2.1) (s.2.2.1) (s.2.2.2.2.2.2.2.2.2)
  | 1 => T_Md_takePart_1 rec (s.2.1) (s.2.2.1) (s.2.2.2.2.2.1) (s.2.2.2.2.2.2.2.2.2)
  | 2 => T_Md_takePart_2 rec (s.2.1) (s.2.2.1) (s.2.2.2.1) (s.2.2.2.2.2.1) (s.2.2.2.2.2.2.2.2.2)
  | 3 => T_Md_takePart_3 rec (s.2.1) (s.2.2.1) (s.2.2.2.1) (s.2.2.2.2.1) (s.2.2.2.2.2.2.2.2.2)
  | 4 => T_Md_takePart_4 rec (s.2.1) (s.2.2.1) (s.2.2.2.1) (s.2.2.2.2.1) (s.2.2.2.2.2.2.2.2.2)
  | 5 => T_Md_takePart_5 rec (s.2.1) (s.2.2.1) (s.2.2.2.1) (s.2.2.2.2.1) (s.2.2.2.2.2.2.2.2.2)
  | 6 => T_Md_takePart_6 rec (s.2.1) (s.2.2.2.1) (s.2.2.2.2.1) (s.2.2.2.2.2.2.1) (s.2.2.2.2.2.2.2.1) (s.2.2.2.2.2.2.2.2.2)
  | 7 => T_Md_takePart_7 rec (s.2.1) (s.2.2.2.2.2.2.1) (s.2.2.2.2.2.2.2.1) (s.2.2.2.2.2.2.2.2.1) (s.2.2.2.2.2.2.2.2.2)
  | _ => T_Md_takePart_8 rec  (s.2.2.2.2.2.2.2.2.2)
noncomputable def L_Md_takePart_0 (rec : GT_Md_all_Md_products_Md_sums_Md_takePart_M) (v0R : Nat) (v1I : Int32) (σ : AM) : Option (Unit × AM) := lp (F_Md_takePart rec) (0, v0R, v1I, 0, 0, 0, 0, 0, 0, σ)
noncomputable def L_Md_takePart_1 (rec : GT_Md_all_Md_products_Md_sums_Md_takePart_M) (v0R : Nat) (v1I : Int32) (s0I : Int32) (σ : AM) : Option (Unit × AM) := lp (F_Md_takePart rec) (1, v0R, v1I, 0, 0, s0I, 0, 0, 0, σ)
noncomputable def L_Md_takePart_2 (rec : GT_Md_all_Md_products_Md_sums_Md_takePart_M) (v0R : Nat) (v1I : Int32) (v2I : Int32) (s0I : Int32) (σ : AM) : Option (Unit × AM) := lp (F_Md_takePart rec) (2, v0R, v1I, v2I, 0, s0I, 0, 0, 0, σ)
noncomputable def L_Md_takePart_3 (rec : GT_Md_all_Md_products_Md_sums_Md_takePart_M) (v0R : Nat) (v1I : Int32) (v2I : Int32) (v4I : Int32) (σ : AM) : Option (Unit × AM) := lp (F_Md_takePart rec) (3, v0R, v1I, v2I, v4I, 0, 0, 0, 0, σ)
noncomputable def L_Md_takePart_4 (rec : GT_Md_all_Md_products_Md_sums_Md_takePart_M) (v0R : Nat) (v1I : Int32) (v2I : Int32) (v4I : Int32) (σ : AM) : Option (Unit × AM) := lp (F_Md_takePart rec) (4, v0R, v1I, v2I, v4I, 0, 0, 0, 0, σ)
noncomputable def L_Md_takePart_5 (rec : GT_Md_all_Md_products_Md_sums_Md_takePart_M) (v0R : Nat) (v1I : Int32) (v2I : Int32) (v4I : Int32) (σ : AM) : Option (Unit × AM) := lp (F_Md_takePart rec) (5, v0R, v1I, v2I, v4I, 0, 0, 0, 0, σ)
noncomputable def L_Md_takePart_6 (rec : GT_Md_all_Md_products_Md_sums_Md_takePart_M) (v0R : Nat) (v2I : Int32) (v4I : Int32) (s0R : Nat) (s1I : Int32) (σ : AM) : Option (Unit × AM) := lp (F_Md_takePart rec) (6, v0R, 0, v2I, v4I, 0, s0R, s1I, 0, σ)
noncomputable def L_Md_takePart_7 (rec : GT_Md_all_Md_products_Md_sums_Md_takePart_M) (v0R : Nat) (s0R : Nat) (s1I : Int32) (s2I : Int32) (σ : AM) : Option (Unit × AM) := lp (F_Md_takePart rec) (7, v0R, 0, 0, 0, 0, s0R, s1I, s2I, σ)
noncomputable def L_Md_takePart_8 (rec : GT_Md_all_Md_products_Md_sums_Md_takePart_M)  (σ : AM) : Option (Unit × AM) := lp (F_Md_takePart rec) (8, 0, 0, 0, 0, 0, 0, 0, 0, σ)
set_option maxRecDepth 20000 in
theorem E_Md_takePart_0 (rec : GT_Md_all_Md_products_Md_sums_Md_takePart_M) (v0R : Nat) (v1I : Int32) (σ : AM) : L_Md_takePart_0 rec v0R v1I σ = (gd (okO σ v0R 12) <| if 0 < (aI σ v0R 8) then ((some ((), σ))) else (gd (okO σ (aR σ v0R 4) 101) <| gd (inB (aI σ v0R 7) (aN σ (aR σ v0R 4))) <| if (aI σ (aR σ v0R 4) (aI σ v0R 7).toNatClampNeg) = (2 : Int32) then (L_Md_takePart_1 rec v0R v1I ((1 : Int32)) σ) else (L_Md_takePart_1 rec v0R v1I ((0 : Int32)) σ))) := by
  unfold L_Md_takePart_0
  rw [lp_eq]
  show lpK (lp (F_Md_takePart rec)) (T_Md_takePart_0 rec v0R v1I σ) = _
  unfold T_Md_takePart_0
  simp only [lpK_ite, lq_inl, lq_inr, lpK_bnd, lpK_gd, lq_let]
  try rfl
set_option maxRecDepth 20000 in
theorem E_Md_takePart_1 (rec : GT_Md_all_Md_products_Md_sums_Md_takePart_M) (v0R : Nat) (v1I : Int32) (s0I : Int32) (σ : AM) : L_Md_takePart_1 rec v0R v1I s0I σ = (gd (okO σ v0R 12) <| if (aI σ v0R 23) = 0 then (bnd (M_Md_isWord v0R (9 : Int32) σ) fun r2 σ3 => L_Md_takePart_2 rec v0R v1I s0I r2 σ3) else (bnd (M_Md_isWord v0R (8 : Int32) σ) fun r4 σ5 => L_Md_takePart_2 rec v0R v1I s0I r4 σ5)) := by
  unfold L_Md_takePart_1
  rw [lp_eq]
  show lpK (lp (F_Md_takePart rec)) (T_Md_takePart_1 rec v0R v1I s0I σ) = _
  unfold T_Md_takePart_1
  simp only [lpK_ite, lq_inl, lq_inr, lpK_bnd, lpK_gd, lq_let]
  try rfl
set_option maxRecDepth 20000 in
theorem E_Md_takePart_2 (rec : GT_Md_all_Md_products_Md_sums_Md_takePart_M) (v0R : Nat) (v1I : Int32) (v2I : Int32) (s0I : Int32) (σ : AM) : L_Md_takePart_2 rec v0R v1I v2I s0I σ = (gd (okO σ v0R 12) <| bnd (M_Md_isName v0R σ) fun r1 σ2 => if s0I = 0 then (if r1 = 0 then (if v2I = 0 then (gd (okO σ2 v0R 12) <| bnd (M_Md_isSign v0R (40 : Int32) σ2) fun r4 σ5 => if r4 = 0 then (gd (okO σ5 v0R 12) <| bnd (M_Md_isWord v0R (5 : Int32) σ5) fun r7 σ8 => if r7 = 0 then (gd (okO σ8 v0R 12) <| bnd (M_Md_faulty v0R (1 : Int32) σ8) fun _ σ11 => L_Md_takePart_5 rec v0R v1I v2I r1 σ11) else (L_Md_takePart_3 rec v0R v1I v2I r1 σ8)) else (L_Md_takePart_3 rec v0R v1I v2I r1 σ5)) else (L_Md_takePart_3 rec v0R v1I v2I r1 σ2)) else (L_Md_takePart_3 rec v0R v1I v2I r1 σ2)) else (L_Md_takePart_3 rec v0R v1I v2I r1 σ2)) := by
  unfold L_Md_takePart_2
  rw [lp_eq]
  show lpK (lp (F_Md_takePart rec)) (T_Md_takePart_2 rec v0R v1I v2I s0I σ) = _
  unfold T_Md_takePart_2
  simp only [lpK_ite, lq_inl, lq_inr, lpK_bnd, lpK_gd, lq_let]
  try rfl
set_option maxRecDepth 20000 in
theorem E_Md_takePart_3 (rec : GT_Md_all_Md_products_Md_sums_Md_takePart_M) (v0R : Nat) (v1I : Int32) (v2I : Int32) (v4I : Int32) (σ : AM) : L_Md_takePart_3 rec v0R v1I v2I v4I σ = (if v4I = 0 then (L_Md_takePart_4 rec v0R v1I v2I v4I σ) else (gd (okO σ v0R 12) <| gd (okO σ (aR σ v0R 6) 102) <| gd (inB (aI σ v0R 7) (aN σ (aR σ v0R 6))) <| bnd (M_Md_nameOf v0R (aL σ (aR σ v0R 6) (aI σ v0R 7).toNatClampNeg) σ) fun r4 σ5 => if r4 < 0 then (gd (okO σ5 v0R 12) <| bnd (M_Md_faulty v0R (2 : Int32) σ5) fun _ σ7 => L_Md_takePart_5 rec v0R v1I v2I v4I σ7) else (L_Md_takePart_4 rec v0R v1I v2I v4I σ5))) := by
  unfold L_Md_takePart_3
  rw [lp_eq]
  show lpK (lp (F_Md_takePart rec)) (T_Md_takePart_3 rec v0R v1I v2I v4I σ) = _
  unfold T_Md_takePart_3
  simp only [lpK_ite, lq_inl, lq_inr, lpK_bnd, lpK_gd, lq_let]
  try rfl
set_option maxRecDepth 20000 in
theorem E_Md_takePart_4 (rec : GT_Md_all_Md_products_Md_sums_Md_takePart_M) (v0R : Nat) (v1I : Int32) (v2I : Int32) (v4I : Int32) (σ : AM) : L_Md_takePart_4 rec v0R v1I v2I v4I σ = (if v1I = (5 : Int32) then (gd (okO σ v0R 12) <| bnd (M_Md_faulty v0R (5 : Int32) σ) fun _ σ2 => L_Md_takePart_5 rec v0R v1I v2I v4I σ2) else (L_Md_takePart_5 rec v0R v1I v2I v4I σ)) := by
  unfold L_Md_takePart_4
  rw [lp_eq]
  show lpK (lp (F_Md_takePart rec)) (T_Md_takePart_4 rec v0R v1I v2I v4I σ) = _
  unfold T_Md_takePart_4
  simp only [lpK_ite, lq_inl, lq_inr, lpK_bnd, lpK_gd, lq_let]
  try rfl
set_option maxRecDepth 20000 in
theorem E_Md_takePart_5 (rec : GT_Md_all_Md_products_Md_sums_Md_takePart_M) (v0R : Nat) (v1I : Int32) (v2I : Int32) (v4I : Int32) (σ : AM) : L_Md_takePart_5 rec v0R v1I v2I v4I σ = (gd (okO σ v0R 12) <| if 0 < (aI σ v0R 8) then ((some ((), σ))) else (bnd (M_Md_hasWord v0R (5 : Int32) σ) fun r2 σ3 => if r2 = 0 then (gd (okO σ3 v0R 12) <| bnd (M_Md_hasSign v0R (40 : Int32) σ3) fun r4 σ5 => if r4 = 0 then (if v2I = 0 then (L_Md_takePart_6 rec v0R v2I v4I v0R ((2 : Int32)) σ5) else (L_Md_takePart_6 rec v0R v2I v4I v0R ((1 : Int32)) σ5)) else (gd (okO σ5 v0R 12) <| bnd (rec.1 v0R (v1I + (1 : Int32)) σ5) fun _ σ8 => gd (okO σ8 v0R 12) <| bnd (M_Md_takeSign v0R (41 : Int32) σ8) fun _ σ11 => L_Md_takePart_8 rec σ11)) else (gd (okO σ3 v0R 12) <| bnd (rec.2.2.2.1 v0R (v1I + (1 : Int32)) σ3) fun _ σ14 => gd (okO σ14 v0R 12) <| bnd (M_Md_emit v0R (3 : Int32) (0 : Int32) σ14) fun _ σ17 => L_Md_takePart_8 rec σ17))) := by
  unfold L_Md_takePart_5
  rw [lp_eq]
  show lpK (lp (F_Md_takePart rec)) (T_Md_takePart_5 rec v0R v1I v2I v4I σ) = _
  unfold T_Md_takePart_5
  simp only [lpK_ite, lq_inl, lq_inr, lpK_bnd, lpK_gd, lq_let]
  try rfl
set_option maxRecDepth 20000 in
theorem E_Md_takePart_6 (rec : GT_Md_all_Md_products_Md_sums_Md_takePart_M) (v0R : Nat) (v2I : Int32) (v4I : Int32) (s0R : Nat) (s1I : Int32) (σ : AM) : L_Md_takePart_6 rec v0R v2I v4I s0R s1I σ = (if v2I = 0 then (if v4I = 0 then (L_Md_takePart_7 rec v0R s0R s1I ((6 : Int32)) σ) else (gd (okO σ v0R 12) <| gd (okO σ (aR σ v0R 6) 102) <| gd (inB (aI σ v0R 7) (aN σ (aR σ v0R 6))) <| bnd (M_Md_nameOf v0R (aL σ (aR σ v0R 6) (aI σ v0R 7).toNatClampNeg) σ) fun r4 σ5 => L_Md_takePart_7 rec v0R s0R s1I r4 σ5)) else (gd (okO σ v0R 12) <| gd (okO σ (aR σ v0R 6) 102) <| gd (inB (aI σ v0R 7) (aN σ (aR σ v0R 6))) <| L_Md_takePart_7 rec v0R s0R s1I ((aL σ (aR σ v0R 6) (aI σ v0R 7).toNatClampNeg).toInt32) σ)) := by
  unfold L_Md_takePart_6
  rw [lp_eq]
  show lpK (lp (F_Md_takePart rec)) (T_Md_takePart_6 rec v0R v2I v4I s0R s1I σ) = _
  unfold T_Md_takePart_6
  simp only [lpK_ite, lq_inl, lq_inr, lpK_bnd, lpK_gd, lq_let]
  try rfl
set_option maxRecDepth 20000 in
theorem E_Md_takePart_7 (rec : GT_Md_all_Md_products_Md_sums_Md_takePart_M) (v0R : Nat) (s0R : Nat) (s1I : Int32) (s2I : Int32) (σ : AM) : L_Md_takePart_7 rec v0R s0R s1I s2I σ = (gd (okO σ s0R 12) <| bnd (M_Md_emit s0R s1I s2I σ) fun _ σ2 => gd (okO σ2 v0R 12) <| letT (sI σ2 v0R 7 ((aI σ2 v0R 7) + (1 : Int32))) fun σ5 => L_Md_takePart_8 rec σ5) := by
  unfold L_Md_takePart_7
  rw [lp_eq]
  show lpK (lp (F_Md_takePart rec)) (T_Md_takePart_7 rec v0R s0R s1I s2I σ) = _
  unfold T_Md_takePart_7
  simp only [lpK_ite, lq_inl, lq_inr, lpK_bnd, lpK_gd, lq_let]
  try rfl
set_option maxRecDepth 20000 in
theorem E_Md_takePart_8 (rec : GT_Md_all_Md_products_Md_sums_Md_takePart_M)  (σ : AM) : L_Md_takePart_8 rec  σ = ((some ((), σ))) := by
  unfold L_Md_takePart_8
  rw [lp_eq]
  show lpK (lp (F_Md_takePart rec)) (T_Md_takePart_8 rec  σ) = _
  unfold T_Md_takePart_8
  simp only [lpK_ite, lq_inl, lq_inr, lpK_bnd, lpK_gd, lq_let]
  try rfl
noncomputable def N_Md_takePart (rec : GT_Md_all_Md_products_Md_sums_Md_takePart_M) (v0R : Nat) (v1I : Int32) (σ : AM) : Option (Unit × AM) := mw σ (L_Md_takePart_0 rec v0R v1I σ)
def I_Md_takePart (G : GX) (p : Program) (l : Launch) (e : Env) (s : State) (m : MethodId) (args : Array Value) (below : List Frame) (meth : Method) (c : Code) (n0 : Nat) (rec : GT_Md_all_Md_products_Md_sums_Md_takePart_M) (z0 u0 n : Nat) : Prop :=
  (∀ (v0R : Nat) (v1I : Int32) (σ : AM), VX (QM eV G args s below z0 u0) G p l e s m args below meth c (2 + n0 + 1) z0 u0 5 (lpn (F_Md_takePart rec) n (0, v0R, v1I, 0, 0, 0, 0, 0, 0, σ)) 0 [(0, .ref v0R), (1, .int v1I)] [] σ) ∧
  (∀ (v0R : Nat) (v1I : Int32) (s0I : Int32) (σ : AM), VX (QM eV G args s below z0 u0) G p l e s m args below meth c (2 + n0 + 1) z0 u0 5 (lpn (F_Md_takePart rec) n (1, v0R, v1I, 0, 0, s0I, 0, 0, 0, σ)) 26 [(0, .ref v0R), (1, .int v1I)] [.int s0I] σ) ∧
  (∀ (v0R : Nat) (v1I : Int32) (v2I : Int32) (s0I : Int32) (σ : AM), VX (QM eV G args s below z0 u0) G p l e s m args below meth c (2 + n0 + 1) z0 u0 5 (lpn (F_Md_takePart rec) n (2, v0R, v1I, v2I, 0, s0I, 0, 0, 0, σ)) 49 [(0, .ref v0R), (1, .int v1I), (2, .int v2I)] [.int s0I] σ) ∧
  (∀ (v0R : Nat) (v1I : Int32) (v2I : Int32) (v4I : Int32) (σ : AM), VX (QM eV G args s below z0 u0) G p l e s m args below meth c (2 + n0 + 1) z0 u0 5 (lpn (F_Md_takePart rec) n (3, v0R, v1I, v2I, v4I, 0, 0, 0, 0, σ)) 94 [(0, .ref v0R), (1, .int v1I), (2, .int v2I), (4, .int v4I)] [] σ) ∧
  (∀ (v0R : Nat) (v1I : Int32) (v2I : Int32) (v4I : Int32) (σ : AM), VX (QM eV G args s below z0 u0) G p l e s m args below meth c (2 + n0 + 1) z0 u0 5 (lpn (F_Md_takePart rec) n (4, v0R, v1I, v2I, v4I, 0, 0, 0, 0, σ)) 123 [(0, .ref v0R), (1, .int v1I), (2, .int v2I), (4, .int v4I)] [] σ) ∧
  (∀ (v0R : Nat) (v1I : Int32) (v2I : Int32) (v4I : Int32) (σ : AM), VX (QM eV G args s below z0 u0) G p l e s m args below meth c (2 + n0 + 1) z0 u0 5 (lpn (F_Md_takePart rec) n (5, v0R, v1I, v2I, v4I, 0, 0, 0, 0, σ)) 133 [(0, .ref v0R), (1, .int v1I), (2, .int v2I), (4, .int v4I)] [] σ) ∧
  (∀ (v0R : Nat) (v2I : Int32) (v4I : Int32) (s0R : Nat) (s1I : Int32) (σ : AM), VX (QM eV G args s below z0 u0) G p l e s m args below meth c (2 + n0 + 1) z0 u0 5 (lpn (F_Md_takePart rec) n (6, v0R, 0, v2I, v4I, 0, s0R, s1I, 0, σ)) 200 [(0, .ref v0R), (2, .int v2I), (4, .int v4I)] [.int s1I, .ref s0R] σ) ∧
  (∀ (v0R : Nat) (s0R : Nat) (s1I : Int32) (s2I : Int32) (σ : AM), VX (QM eV G args s below z0 u0) G p l e s m args below meth c (2 + n0 + 1) z0 u0 5 (lpn (F_Md_takePart rec) n (7, v0R, 0, 0, 0, 0, s0R, s1I, s2I, σ)) 240 [(0, .ref v0R)] [.int s2I, .int s1I, .ref s0R] σ) ∧
  (∀ (σ : AM), VX (QM eV G args s below z0 u0) G p l e s m args below meth c (2 + n0 + 1) z0 u0 5 (lpn (F_Md_takePart rec) n (8, 0, 0, 0, 0, 0, 0, 0, 0, σ)) 253 [] [] σ)
set_option maxRecDepth 20000 in
theorem s_Md_takePart_0 {G : GX} {p : Program} {l : Launch} {e : Env} {s : State} {m : MethodId} {args : Array Value} {below : List Frame} {meth : Method} {c : Code} {z0 u0 n : Nat} (C : Cx G p s m args meth c prog_14_method_30_code 5 "BellPlateModel" ((none))) {n0 : Nat} {rec : GT_Md_all_Md_products_Md_sums_Md_takePart_M} (HR : H_Md_all_Md_products_Md_sums_Md_takePart_M G l n0 rec) (IH : I_Md_takePart G p l e s m args below meth c n0 rec z0 u0 n) (v0R : Nat) (v1I : Int32) (σ : AM) : VX (QM eV G args s below z0 u0) G p l e s m args below meth c (2 + n0 + 1) z0 u0 5 (lpK (lpn (F_Md_takePart rec) n) (T_Md_takePart_0 rec v0R v1I σ)) 0 [(0, .ref v0R), (1, .int v1I)] [] σ := by
  unfold T_Md_takePart_0
  refine x_aload_n C d_Md_takePart_0 0 rfl ?_
  refine x_gd (fun h1 => ?_)
  refine x_getI (k := 8) C (okO_iff.mp h1) rfl j11_ok (by decide) rfl w1860 d_Md_takePart_1 ?_
  refine x_if_le (tgt := 8) C d_Md_takePart_4 (by decide) (fun _ => ?_) (fun _ => ?_)
  · exact x_vret C d_Md_takePart_7
  · refine x_aload_n C d_Md_takePart_8 0 rfl ?_
    refine x_gd (fun h2 => ?_)
    refine x_getR (k := 4) (kv := 101) C (okO_iff.mp h1) rfl j11_ok (by decide) rfl (okO_iff.mp h2) (by decide) w1856 d_Md_takePart_9 ?_
    refine x_aload_n C d_Md_takePart_12 0 rfl ?_
    refine x_getI (k := 7) C (okO_iff.mp h1) rfl j11_ok (by decide) rfl w1859 d_Md_takePart_13 ?_
    refine x_gd (fun h3 => ?_)
    refine x_aldI C (okO_iff.mp h2) (inB_iff.mp h3) d_Md_takePart_16 ?_
    refine x_iconst (v := (2 : Int32)) C d_Md_takePart_17 (by decide) ?_
    refine x_icmp_ne (tgt := 25) C d_Md_takePart_18 (by decide) (fun _ => ?_) (fun _ => ?_)
    · refine x_iconst (v := (1 : Int32)) C d_Md_takePart_21 (by decide) ?_
      refine x_goto (tgt := 26) C d_Md_takePart_22 (by decide) ?_
      exact IH.2.1 v0R v1I ((1 : Int32)) (σ)
    · refine x_iconst (v := (0 : Int32)) C d_Md_takePart_25 (by decide) ?_
      exact IH.2.1 v0R v1I ((0 : Int32)) (σ)
set_option maxRecDepth 20000 in
theorem s_Md_takePart_1 {G : GX} {p : Program} {l : Launch} {e : Env} {s : State} {m : MethodId} {args : Array Value} {below : List Frame} {meth : Method} {c : Code} {z0 u0 n : Nat} (C : Cx G p s m args meth c prog_14_method_30_code 5 "BellPlateModel" ((none))) {n0 : Nat} {rec : GT_Md_all_Md_products_Md_sums_Md_takePart_M} (HR : H_Md_all_Md_products_Md_sums_Md_takePart_M G l n0 rec) (IH : I_Md_takePart G p l e s m args below meth c n0 rec z0 u0 n) (v0R : Nat) (v1I : Int32) (s0I : Int32) (σ : AM) : VX (QM eV G args s below z0 u0) G p l e s m args below meth c (2 + n0 + 1) z0 u0 5 (lpK (lpn (F_Md_takePart rec) n) (T_Md_takePart_1 rec v0R v1I s0I σ)) 26 [(0, .ref v0R), (1, .int v1I)] [.int s0I] σ := by
  unfold T_Md_takePart_1
  refine x_istore_n (lv' := [(2, .int s0I), (0, .ref v0R), (1, .int v1I)]) C d_Md_takePart_26 (by decide) rfl rfl ?_
  refine x_aload_n C d_Md_takePart_27 1 rfl ?_
  refine x_gd (fun h1 => ?_)
  refine x_getI (k := 23) C (okO_iff.mp h1) rfl j11_ok (by decide) rfl w1875 d_Md_takePart_28 ?_
  refine x_if_eq (tgt := 43) C d_Md_takePart_31 (by decide) (fun _ => ?_) (fun _ => ?_)
  · refine x_aload_n C d_Md_takePart_43 1 rfl ?_
    refine x_bipush (v := (9 : Int32)) C d_Md_takePart_44 (by decide) ?_
    refine x_callVI (As := [.int (9 : Int32)]) C (c_Md_isWord G l v0R (9 : Int32) σ) (okO_iff.mp h1) rfl w2110 w66 w2108 w2111 w134 k_Md_isWord rfl (by omega) (by decide) rfl (Nat.le_of_ble_eq_true rfl) d_Md_takePart_46 (fun r2 σ3 => ?_)
    refine x_lv [1, 2, 0] rfl ?_
    exact IH.2.2.1 v0R v1I s0I r2 (σ3)
  · refine x_aload_n C d_Md_takePart_34 1 rfl ?_
    refine x_bipush (v := (8 : Int32)) C d_Md_takePart_35 (by decide) ?_
    refine x_callVI (As := [.int (8 : Int32)]) C (c_Md_isWord G l v0R (8 : Int32) σ) (okO_iff.mp h1) rfl w2110 w66 w2108 w2111 w134 k_Md_isWord rfl (by omega) (by decide) rfl (Nat.le_of_ble_eq_true rfl) d_Md_takePart_37 (fun r4 σ5 => ?_)
    refine x_goto (tgt := 49) C d_Md_takePart_40 (by decide) ?_
    refine x_lv [1, 2, 0] rfl ?_
    exact IH.2.2.1 v0R v1I s0I r4 (σ5)
set_option maxRecDepth 20000 in
theorem s_Md_takePart_2 {G : GX} {p : Program} {l : Launch} {e : Env} {s : State} {m : MethodId} {args : Array Value} {below : List Frame} {meth : Method} {c : Code} {z0 u0 n : Nat} (C : Cx G p s m args meth c prog_14_method_30_code 5 "BellPlateModel" ((none))) {n0 : Nat} {rec : GT_Md_all_Md_products_Md_sums_Md_takePart_M} (HR : H_Md_all_Md_products_Md_sums_Md_takePart_M G l n0 rec) (IH : I_Md_takePart G p l e s m args below meth c n0 rec z0 u0 n) (v0R : Nat) (v1I : Int32) (v2I : Int32) (s0I : Int32) (σ : AM) : VX (QM eV G args s below z0 u0) G p l e s m args below meth c (2 + n0 + 1) z0 u0 5 (lpK (lpn (F_Md_takePart rec) n) (T_Md_takePart_2 rec v0R v1I v2I s0I σ)) 49 [(0, .ref v0R), (1, .int v1I), (2, .int v2I)] [.int s0I] σ := by
  unfold T_Md_takePart_2
  refine x_istore_n (lv' := [(3, .int s0I), (0, .ref v0R), (1, .int v1I), (2, .int v2I)]) C d_Md_takePart_49 (by decide) rfl rfl ?_
  refine x_aload_n C d_Md_takePart_50 1 rfl ?_
  refine x_gd (fun h3 => ?_)
  refine x_callVI (As := []) C (c_Md_isName G l v0R  σ) (okO_iff.mp h3) rfl w2118 w68 w2116 w2119 w134 k_Md_isName rfl (by omega) (by decide) rfl (Nat.le_of_ble_eq_true rfl) d_Md_takePart_51 (fun r1 σ2 => ?_)
  refine x_istore (lv' := [(4, .int r1), (3, .int s0I), (0, .ref v0R), (1, .int v1I), (2, .int v2I)]) C d_Md_takePart_54 (by decide) rfl ?_
  refine x_iload_n C d_Md_takePart_56 1 rfl ?_
  refine x_if_ne (tgt := 94) C d_Md_takePart_57 (by decide) (fun _ => ?_) (fun _ => ?_)
  · refine x_iload C d_Md_takePart_60 0 rfl ?_
    refine x_if_ne (tgt := 94) C d_Md_takePart_62 (by decide) (fun _ => ?_) (fun _ => ?_)
    · refine x_iload_n C d_Md_takePart_65 4 rfl ?_
      refine x_if_ne (tgt := 94) C d_Md_takePart_66 (by decide) (fun _ => ?_) (fun _ => ?_)
      · refine x_aload_n C d_Md_takePart_69 2 rfl ?_
        refine x_bipush (v := (40 : Int32)) C d_Md_takePart_70 (by decide) ?_
        refine x_gd (fun h6 => ?_)
        refine x_callVI (As := [.int (40 : Int32)]) C (c_Md_isSign G l v0R (40 : Int32) σ2) (okO_iff.mp h6) rfl w2154 w77 w2152 w2155 w134 k_Md_isSign rfl (by omega) (by decide) rfl (Nat.le_of_ble_eq_true rfl) d_Md_takePart_72 (fun r4 σ5 => ?_)
        refine x_if_ne (tgt := 94) C d_Md_takePart_75 (by decide) (fun _ => ?_) (fun _ => ?_)
        · refine x_aload_n C d_Md_takePart_78 2 rfl ?_
          refine x_iconst (v := (5 : Int32)) C d_Md_takePart_79 (by decide) ?_
          refine x_gd (fun h9 => ?_)
          refine x_callVI (As := [.int (5 : Int32)]) C (c_Md_isWord G l v0R (5 : Int32) σ5) (okO_iff.mp h9) rfl w2110 w66 w2108 w2111 w134 k_Md_isWord rfl (by omega) (by decide) rfl (Nat.le_of_ble_eq_true rfl) d_Md_takePart_80 (fun r7 σ8 => ?_)
          refine x_if_ne (tgt := 94) C d_Md_takePart_83 (by decide) (fun _ => ?_) (fun _ => ?_)
          · refine x_aload_n C d_Md_takePart_86 2 rfl ?_
            refine x_iconst (v := (1 : Int32)) C d_Md_takePart_87 (by decide) ?_
            refine x_gd (fun h12 => ?_)
            refine x_callVV (As := [.int (1 : Int32)]) C (c_Md_faulty G l v0R (1 : Int32) σ8) (okO_iff.mp h12) rfl w2114 w67 w2112 w2115 w134 k_Md_faulty rfl (by omega) (by decide) rfl (Nat.le_of_ble_eq_true rfl) d_Md_takePart_88 (fun r10 σ11 => ?_)
            refine x_goto (tgt := 133) C d_Md_takePart_91 (by decide) ?_
            refine x_lv [2, 3, 4, 0] rfl ?_
            exact IH.2.2.2.2.2.1 v0R v1I v2I r1 (σ11)
          · refine x_lv [2, 3, 4, 0] rfl ?_
            exact IH.2.2.2.1 v0R v1I v2I r1 (σ8)
        · refine x_lv [2, 3, 4, 0] rfl ?_
          exact IH.2.2.2.1 v0R v1I v2I r1 (σ5)
      · refine x_lv [2, 3, 4, 0] rfl ?_
        exact IH.2.2.2.1 v0R v1I v2I r1 (σ2)
    · refine x_lv [2, 3, 4, 0] rfl ?_
      exact IH.2.2.2.1 v0R v1I v2I r1 (σ2)
  · refine x_lv [2, 3, 4, 0] rfl ?_
    exact IH.2.2.2.1 v0R v1I v2I r1 (σ2)
set_option maxRecDepth 20000 in
theorem s_Md_takePart_3 {G : GX} {p : Program} {l : Launch} {e : Env} {s : State} {m : MethodId} {args : Array Value} {below : List Frame} {meth : Method} {c : Code} {z0 u0 n : Nat} (C : Cx G p s m args meth c prog_14_method_30_code 5 "BellPlateModel" ((none))) {n0 : Nat} {rec : GT_Md_all_Md_products_Md_sums_Md_takePart_M} (HR : H_Md_all_Md_products_Md_sums_Md_takePart_M G l n0 rec) (IH : I_Md_takePart G p l e s m args below meth c n0 rec z0 u0 n) (v0R : Nat) (v1I : Int32) (v2I : Int32) (v4I : Int32) (σ : AM) : VX (QM eV G args s below z0 u0) G p l e s m args below meth c (2 + n0 + 1) z0 u0 5 (lpK (lpn (F_Md_takePart rec) n) (T_Md_takePart_3 rec v0R v1I v2I v4I σ)) 94 [(0, .ref v0R), (1, .int v1I), (2, .int v2I), (4, .int v4I)] [] σ := by
  unfold T_Md_takePart_3
  refine x_iload C d_Md_takePart_94 3 rfl ?_
  refine x_if_eq (tgt := 123) C d_Md_takePart_96 (by decide) (fun _ => ?_) (fun _ => ?_)
  · exact IH.2.2.2.2.1 v0R v1I v2I v4I (σ)
  · refine x_aload_n C d_Md_takePart_99 0 rfl ?_
    refine x_aload_n C d_Md_takePart_100 0 rfl ?_
    refine x_gd (fun h1 => ?_)
    refine x_gd (fun h2 => ?_)
    refine x_getR (k := 6) (kv := 102) C (okO_iff.mp h1) rfl j11_ok (by decide) rfl (okO_iff.mp h2) (by decide) w1858 d_Md_takePart_101 ?_
    refine x_aload_n C d_Md_takePart_104 0 rfl ?_
    refine x_getI (k := 7) C (okO_iff.mp h1) rfl j11_ok (by decide) rfl w1859 d_Md_takePart_105 ?_
    refine x_gd (fun h3 => ?_)
    refine x_aldJ C (okO_iff.mp h2) (inB_iff.mp h3) d_Md_takePart_108 ?_
    refine x_callVI (As := [.long (aL σ (aR σ v0R 6) (aI σ v0R 7).toNatClampNeg)]) C (c_Md_nameOf G l v0R (aL σ (aR σ v0R 6) (aI σ v0R 7).toNatClampNeg) σ) (okO_iff.mp h1) rfl w2122 w69 w2120 w2123 w134 k_Md_nameOf rfl (by omega) (by decide) rfl (Nat.le_of_ble_eq_true rfl) d_Md_takePart_109 (fun r4 σ5 => ?_)
    refine x_if_ge (tgt := 123) C d_Md_takePart_112 (by decide) (fun _ => ?_) (fun _ => ?_)
    · refine x_aload_n C d_Md_takePart_115 0 rfl ?_
      refine x_iconst (v := (2 : Int32)) C d_Md_takePart_116 (by decide) ?_
      refine x_gd (fun h8 => ?_)
      refine x_callVV (As := [.int (2 : Int32)]) C (c_Md_faulty G l v0R (2 : Int32) σ5) (okO_iff.mp h8) rfl w2114 w67 w2112 w2115 w134 k_Md_faulty rfl (by omega) (by decide) rfl (Nat.le_of_ble_eq_true rfl) d_Md_takePart_117 (fun r6 σ7 => ?_)
      refine x_goto (tgt := 133) C d_Md_takePart_120 (by decide) ?_
      exact IH.2.2.2.2.2.1 v0R v1I v2I v4I (σ7)
    · exact IH.2.2.2.2.1 v0R v1I v2I v4I (σ5)
set_option maxRecDepth 20000 in
theorem s_Md_takePart_4 {G : GX} {p : Program} {l : Launch} {e : Env} {s : State} {m : MethodId} {args : Array Value} {below : List Frame} {meth : Method} {c : Code} {z0 u0 n : Nat} (C : Cx G p s m args meth c prog_14_method_30_code 5 "BellPlateModel" ((none))) {n0 : Nat} {rec : GT_Md_all_Md_products_Md_sums_Md_takePart_M} (HR : H_Md_all_Md_products_Md_sums_Md_takePart_M G l n0 rec) (IH : I_Md_takePart G p l e s m args below meth c n0 rec z0 u0 n) (v0R : Nat) (v1I : Int32) (v2I : Int32) (v4I : Int32) (σ : AM) : VX (QM eV G args s below z0 u0) G p l e s m args below meth c (2 + n0 + 1) z0 u0 5 (lpK (lpn (F_Md_takePart rec) n) (T_Md_takePart_4 rec v0R v1I v2I v4I σ)) 123 [(0, .ref v0R), (1, .int v1I), (2, .int v2I), (4, .int v4I)] [] σ := by
  unfold T_Md_takePart_4
  refine x_iload_n C d_Md_takePart_123 1 rfl ?_
  refine x_iconst (v := (5 : Int32)) C d_Md_takePart_124 (by decide) ?_
  refine x_icmp_ne (tgt := 133) C d_Md_takePart_125 (by decide) (fun _ => ?_) (fun _ => ?_)
  · refine x_aload_n C d_Md_takePart_128 0 rfl ?_
    refine x_iconst (v := (5 : Int32)) C d_Md_takePart_129 (by decide) ?_
    refine x_gd (fun h3 => ?_)
    refine x_callVV (As := [.int (5 : Int32)]) C (c_Md_faulty G l v0R (5 : Int32) σ) (okO_iff.mp h3) rfl w2114 w67 w2112 w2115 w134 k_Md_faulty rfl (by omega) (by decide) rfl (Nat.le_of_ble_eq_true rfl) d_Md_takePart_130 (fun r1 σ2 => ?_)
    exact IH.2.2.2.2.2.1 v0R v1I v2I v4I (σ2)
  · exact IH.2.2.2.2.2.1 v0R v1I v2I v4I (σ)
set_option maxRecDepth 20000 in
theorem s_Md_takePart_5 {G : GX} {p : Program} {l : Launch} {e : Env} {s : State} {m : MethodId} {args : Array Value} {below : List Frame} {meth : Method} {c : Code} {z0 u0 n : Nat} (C : Cx G p s m args meth c prog_14_method_30_code 5 "BellPlateModel" ((none))) {n0 : Nat} {rec : GT_Md_all_Md_products_Md_sums_Md_takePart_M} (HR : H_Md_all_Md_products_Md_sums_Md_takePart_M G l n0 rec) (IH : I_Md_takePart G p l e s m args below meth c n0 rec z0 u0 n) (v0R : Nat) (v1I : Int32) (v2I : Int32) (v4I : Int32) (σ : AM) : VX (QM eV G args s below z0 u0) G p l e s m args below meth c (2 + n0 + 1) z0 u0 5 (lpK (lpn (F_Md_takePart rec) n) (T_Md_takePart_5 rec v0R v1I v2I v4I σ)) 133 [(0, .ref v0R), (1, .int v1I), (2, .int v2I), (4, .int v4I)] [] σ := by
  unfold T_Md_takePart_5
  refine x_aload_n C d_Md_takePart_133 0 rfl ?_
  refine x_gd (fun h1 => ?_)
  refine x_getI (k := 8) C (okO_iff.mp h1) rfl j11_ok (by decide) rfl w1860 d_Md_takePart_134 ?_
  refine x_if_le (tgt := 141) C d_Md_takePart_137 (by decide) (fun _ => ?_) (fun _ => ?_)
  · exact x_vret C d_Md_takePart_140
  · refine x_aload_n C d_Md_takePart_141 0 rfl ?_
    refine x_iconst (v := (5 : Int32)) C d_Md_takePart_142 (by decide) ?_
    refine x_callVI (As := [.int (5 : Int32)]) C (c_Md_hasWord G l v0R (5 : Int32) σ) (okO_iff.mp h1) rfl w2158 w78 w2156 w2159 w134 k_Md_hasWord rfl (by omega) (by decide) rfl (Nat.le_of_ble_eq_true rfl) d_Md_takePart_143 (fun r2 σ3 => ?_)
    refine x_if_eq (tgt := 165) C d_Md_takePart_146 (by decide) (fun _ => ?_) (fun _ => ?_)
    · refine x_aload_n C d_Md_takePart_165 0 rfl ?_
      refine x_bipush (v := (40 : Int32)) C d_Md_takePart_166 (by decide) ?_
      refine x_gd (fun h6 => ?_)
      refine x_callVI (As := [.int (40 : Int32)]) C (c_Md_hasSign G l v0R (40 : Int32) σ3) (okO_iff.mp h6) rfl w2166 w80 w2164 w2167 w134 k_Md_hasSign rfl (by omega) (by decide) rfl (Nat.le_of_ble_eq_true rfl) d_Md_takePart_168 (fun r4 σ5 => ?_)
      refine x_if_eq (tgt := 190) C d_Md_takePart_171 (by decide) (fun _ => ?_) (fun _ => ?_)
      · refine x_aload_n C d_Md_takePart_190 0 rfl ?_
        refine x_iload_n C d_Md_takePart_191 2 rfl ?_
        refine x_if_eq (tgt := 199) C d_Md_takePart_192 (by decide) (fun _ => ?_) (fun _ => ?_)
        · refine x_iconst (v := (2 : Int32)) C d_Md_takePart_199 (by decide) ?_
          refine x_lv [0, 2, 3] rfl ?_
          exact IH.2.2.2.2.2.2.1 v0R v2I v4I v0R ((2 : Int32)) (σ5)
        · refine x_iconst (v := (1 : Int32)) C d_Md_takePart_195 (by decide) ?_
          refine x_goto (tgt := 200) C d_Md_takePart_196 (by decide) ?_
          refine x_lv [0, 2, 3] rfl ?_
          exact IH.2.2.2.2.2.2.1 v0R v2I v4I v0R ((1 : Int32)) (σ5)
      · refine x_aload_n C d_Md_takePart_174 0 rfl ?_
        refine x_iload_n C d_Md_takePart_175 1 rfl ?_
        refine x_iconst (v := (1 : Int32)) C d_Md_takePart_176 (by decide) ?_
        refine x_iadd C d_Md_takePart_177 ?_
        refine x_gd (fun h9 => ?_)
        refine x_callVV (As := [.int (v1I + (1 : Int32))]) C (HR.1 v0R (v1I + (1 : Int32)) σ5) (okO_iff.mp h9) rfl w2134 w72 w2132 w2135 w134 k_Md_all rfl (by omega) (by decide) rfl (Nat.le_of_ble_eq_true rfl) d_Md_takePart_178 (fun r7 σ8 => ?_)
        refine x_aload_n C d_Md_takePart_181 0 rfl ?_
        refine x_bipush (v := (41 : Int32)) C d_Md_takePart_182 (by decide) ?_
        refine x_gd (fun h12 => ?_)
        refine x_callVV (As := [.int (41 : Int32)]) C (c_Md_takeSign G l v0R (41 : Int32) σ8) (okO_iff.mp h12) rfl w2170 w81 w2168 w2171 w134 k_Md_takeSign rfl (by omega) (by decide) rfl (Nat.le_of_ble_eq_true rfl) d_Md_takePart_184 (fun r10 σ11 => ?_)
        refine x_goto (tgt := 253) C d_Md_takePart_187 (by decide) ?_
        refine x_lv [] rfl ?_
        exact IH.2.2.2.2.2.2.2.2  (σ11)
    · refine x_aload_n C d_Md_takePart_149 0 rfl ?_
      refine x_iload_n C d_Md_takePart_150 1 rfl ?_
      refine x_iconst (v := (1 : Int32)) C d_Md_takePart_151 (by decide) ?_
      refine x_iadd C d_Md_takePart_152 ?_
      refine x_gd (fun h15 => ?_)
      refine x_callVV (As := [.int (v1I + (1 : Int32))]) C (HR.2.2.2.1 v0R (v1I + (1 : Int32)) σ3) (okO_iff.mp h15) rfl w2150 w76 w2148 w2151 w134 k_Md_takePart rfl (by omega) (by decide) rfl (Nat.le_of_ble_eq_true rfl) d_Md_takePart_153 (fun r13 σ14 => ?_)
      refine x_aload_n C d_Md_takePart_156 0 rfl ?_
      refine x_iconst (v := (3 : Int32)) C d_Md_takePart_157 (by decide) ?_
      refine x_iconst (v := (0 : Int32)) C d_Md_takePart_158 (by decide) ?_
      refine x_gd (fun h18 => ?_)
      refine x_callVV (As := [.int (3 : Int32), .int (0 : Int32)]) C (c_Md_emit G l v0R (3 : Int32) (0 : Int32) σ14) (okO_iff.mp h18) rfl w2162 w79 w2160 w2163 w134 k_Md_emit rfl (by omega) (by decide) rfl (Nat.le_of_ble_eq_true rfl) d_Md_takePart_159 (fun r16 σ17 => ?_)
      refine x_goto (tgt := 253) C d_Md_takePart_162 (by decide) ?_
      refine x_lv [] rfl ?_
      exact IH.2.2.2.2.2.2.2.2  (σ17)
set_option maxRecDepth 20000 in
theorem s_Md_takePart_6 {G : GX} {p : Program} {l : Launch} {e : Env} {s : State} {m : MethodId} {args : Array Value} {below : List Frame} {meth : Method} {c : Code} {z0 u0 n : Nat} (C : Cx G p s m args meth c prog_14_method_30_code 5 "BellPlateModel" ((none))) {n0 : Nat} {rec : GT_Md_all_Md_products_Md_sums_Md_takePart_M} (HR : H_Md_all_Md_products_Md_sums_Md_takePart_M G l n0 rec) (IH : I_Md_takePart G p l e s m args below meth c n0 rec z0 u0 n) (v0R : Nat) (v2I : Int32) (v4I : Int32) (s0R : Nat) (s1I : Int32) (σ : AM) : VX (QM eV G args s below z0 u0) G p l e s m args below meth c (2 + n0 + 1) z0 u0 5 (lpK (lpn (F_Md_takePart rec) n) (T_Md_takePart_6 rec v0R v2I v4I s0R s1I σ)) 200 [(0, .ref v0R), (2, .int v2I), (4, .int v4I)] [.int s1I, .ref s0R] σ := by
  unfold T_Md_takePart_6
  refine x_iload_n C d_Md_takePart_200 1 rfl ?_
  refine x_if_eq (tgt := 217) C d_Md_takePart_201 (by decide) (fun _ => ?_) (fun _ => ?_)
  · refine x_iload C d_Md_takePart_217 2 rfl ?_
    refine x_if_eq (tgt := 238) C d_Md_takePart_219 (by decide) (fun _ => ?_) (fun _ => ?_)
    · refine x_bipush (v := (6 : Int32)) C d_Md_takePart_238 (by decide) ?_
      refine x_lv [0] rfl ?_
      exact IH.2.2.2.2.2.2.2.1 v0R s0R s1I ((6 : Int32)) (σ)
    · refine x_aload_n C d_Md_takePart_222 0 rfl ?_
      refine x_aload_n C d_Md_takePart_223 0 rfl ?_
      refine x_gd (fun h1 => ?_)
      refine x_gd (fun h2 => ?_)
      refine x_getR (k := 6) (kv := 102) C (okO_iff.mp h1) rfl j11_ok (by decide) rfl (okO_iff.mp h2) (by decide) w1858 d_Md_takePart_224 ?_
      refine x_aload_n C d_Md_takePart_227 0 rfl ?_
      refine x_getI (k := 7) C (okO_iff.mp h1) rfl j11_ok (by decide) rfl w1859 d_Md_takePart_228 ?_
      refine x_gd (fun h3 => ?_)
      refine x_aldJ C (okO_iff.mp h2) (inB_iff.mp h3) d_Md_takePart_231 ?_
      refine x_callVI (As := [.long (aL σ (aR σ v0R 6) (aI σ v0R 7).toNatClampNeg)]) C (c_Md_nameOf G l v0R (aL σ (aR σ v0R 6) (aI σ v0R 7).toNatClampNeg) σ) (okO_iff.mp h1) rfl w2122 w69 w2120 w2123 w134 k_Md_nameOf rfl (by omega) (by decide) rfl (Nat.le_of_ble_eq_true rfl) d_Md_takePart_232 (fun r4 σ5 => ?_)
      refine x_goto (tgt := 240) C d_Md_takePart_235 (by decide) ?_
      refine x_lv [0] rfl ?_
      exact IH.2.2.2.2.2.2.2.1 v0R s0R s1I r4 (σ5)
  · refine x_aload_n C d_Md_takePart_204 0 rfl ?_
    refine x_gd (fun h6 => ?_)
    refine x_gd (fun h7 => ?_)
    refine x_getR (k := 6) (kv := 102) C (okO_iff.mp h6) rfl j11_ok (by decide) rfl (okO_iff.mp h7) (by decide) w1858 d_Md_takePart_205 ?_
    refine x_aload_n C d_Md_takePart_208 0 rfl ?_
    refine x_getI (k := 7) C (okO_iff.mp h6) rfl j11_ok (by decide) rfl w1859 d_Md_takePart_209 ?_
    refine x_gd (fun h8 => ?_)
    refine x_aldJ C (okO_iff.mp h7) (inB_iff.mp h8) d_Md_takePart_212 ?_
    refine x_l2i C d_Md_takePart_213 ?_
    refine x_goto (tgt := 240) C d_Md_takePart_214 (by decide) ?_
    refine x_lv [0] rfl ?_
    exact IH.2.2.2.2.2.2.2.1 v0R s0R s1I ((aL σ (aR σ v0R 6) (aI σ v0R 7).toNatClampNeg).toInt32) (σ)
set_option maxRecDepth 20000 in
theorem s_Md_takePart_7 {G : GX} {p : Program} {l : Launch} {e : Env} {s : State} {m : MethodId} {args : Array Value} {below : List Frame} {meth : Method} {c : Code} {z0 u0 n : Nat} (C : Cx G p s m args meth c prog_14_method_30_code 5 "BellPlateModel" ((none))) {n0 : Nat} {rec : GT_Md_all_Md_products_Md_sums_Md_takePart_M} (HR : H_Md_all_Md_products_Md_sums_Md_takePart_M G l n0 rec) (IH : I_Md_takePart G p l e s m args below meth c n0 rec z0 u0 n) (v0R : Nat) (s0R : Nat) (s1I : Int32) (s2I : Int32) (σ : AM) : VX (QM eV G args s below z0 u0) G p l e s m args below meth c (2 + n0 + 1) z0 u0 5 (lpK (lpn (F_Md_takePart rec) n) (T_Md_takePart_7 rec v0R s0R s1I s2I σ)) 240 [(0, .ref v0R)] [.int s2I, .int s1I, .ref s0R] σ := by
  unfold T_Md_takePart_7
  refine x_gd (fun h3 => ?_)
  refine x_callVV (As := [.int s1I, .int s2I]) C (c_Md_emit G l s0R s1I s2I σ) (okO_iff.mp h3) rfl w2162 w79 w2160 w2163 w134 k_Md_emit rfl (by omega) (by decide) rfl (Nat.le_of_ble_eq_true rfl) d_Md_takePart_240 (fun r1 σ2 => ?_)
  refine x_aload_n C d_Md_takePart_243 0 rfl ?_
  refine x_dup C d_Md_takePart_244 rfl ?_
  refine x_gd (fun h4 => ?_)
  refine x_getI (k := 7) C (okO_iff.mp h4) rfl j11_ok (by decide) rfl w1859 d_Md_takePart_245 ?_
  refine x_iconst (v := (1 : Int32)) C d_Md_takePart_248 (by decide) ?_
  refine x_iadd C d_Md_takePart_249 ?_
  refine x_putI (k := 7) C (okO_iff.mp h4) rfl j11_ok y11_ok n11_ok (by decide) rfl rfl rfl rfl w1859 d_Md_takePart_250 ?_
  refine x_letS (fun σ5 e6 => ?_)
  refine x_lv [] rfl ?_
  exact IH.2.2.2.2.2.2.2.2  (σ5)
set_option maxRecDepth 20000 in
theorem s_Md_takePart_8 {G : GX} {p : Program} {l : Launch} {e : Env} {s : State} {m : MethodId} {args : Array Value} {below : List Frame} {meth : Method} {c : Code} {z0 u0 n : Nat} (C : Cx G p s m args meth c prog_14_method_30_code 5 "BellPlateModel" ((none))) {n0 : Nat} {rec : GT_Md_all_Md_products_Md_sums_Md_takePart_M} (HR : H_Md_all_Md_products_Md_sums_Md_takePart_M G l n0 rec) (IH : I_Md_takePart G p l e s m args below meth c n0 rec z0 u0 n)  (σ : AM) : VX (QM eV G args s below z0 u0) G p l e s m args below meth c (2 + n0 + 1) z0 u0 5 (lpK (lpn (F_Md_takePart rec) n) (T_Md_takePart_8 rec  σ)) 253 [] [] σ := by
  unfold T_Md_takePart_8
  exact x_vret C d_Md_takePart_253
theorem i_Md_takePart {G : GX} {p : Program} {l : Launch} {e : Env} {s : State} {m : MethodId} {args : Array Value} {below : List Frame} {meth : Method} {c : Code} {z0 u0 : Nat} (C : Cx G p s m args meth c prog_14_method_30_code 5 "BellPlateModel" ((none))) {n0 : Nat} {rec : GT_Md_all_Md_products_Md_sums_Md_takePart_M} (HR : H_Md_all_Md_products_Md_sums_Md_takePart_M G l n0 rec) (n : Nat) : I_Md_takePart G p l e s m args below meth c n0 rec z0 u0 n := by
  induction n with
  | zero => exact ⟨fun _ _ _ => x_none, fun _ _ _ _ => x_none, fun _ _ _ _ _ => x_none, fun _ _ _ _ _ => x_none, fun _ _ _ _ _ => x_none, fun _ _ _ _ _ => x_none, fun _ _ _ _ _ _ => x_none, fun _ _ _ _ _ => x_none, fun _ => x_none⟩
  | succ n IH => exact ⟨fun v0R v1I σ => s_Md_takePart_0 C HR IH v0R v1I σ, fun v0R v1I s0I σ => s_Md_takePart_1 C HR IH v0R v1I s0I σ, fun v0R v1I v2I s0I σ => s_Md_takePart_2 C HR IH v0R v1I v2I s0I σ, fun v0R v1I v2I v4I σ => s_Md_takePart_3 C HR IH v0R v1I v2I v4I σ, fun v0R v1I v2I v4I σ => s_Md_takePart_4 C HR IH v0R v1I v2I v4I σ, fun v0R v1I v2I v4I σ => s_Md_takePart_5 C HR IH v0R v1I v2I v4I σ, fun v0R v2I v4I s0R s1I σ => s_Md_takePart_6 C HR IH v0R v2I v4I s0R s1I σ, fun v0R s0R s1I s2I σ => s_Md_takePart_7 C HR IH v0R s0R s1I s2I σ, fun σ => s_Md_takePart_8 C HR IH σ⟩
theorem n_Md_takePart (G : GX) (l : Launch) (n0 : Nat) (rec : GT_Md_all_Md_products_Md_sums_Md_takePart_M) (HR : H_Md_all_Md_products_Md_sums_Md_takePart_M G l n0 rec) (v0R : Nat) (v1I : Int32) (σ : AM) : CT eV G l (2 + (n0 + 1)) y_Md_takePart prog_14_method_30_code 5 (none) [.ref v0R, .int v1I] σ (N_Md_takePart rec v0R v1I σ) := by
  refine ct_of (by decide +kernel) (Nat.le_of_ble_eq_true rfl) (fun p e s m args below meth c C hin => ?_)
  refine x_lve (lv' := [(0, .ref v0R), (1, .int v1I)]) rfl ?_
  intro r σ' h
  obtain ⟨n, hn⟩ := (lp_iff _ _ _).mp h
  exact (i_Md_takePart C HR n).1 v0R v1I σ r σ' hn
abbrev S_Md_test : Type := Nat × Nat × Int32 × Int32 × Nat × Int32 × AM
noncomputable def T_Md_test_0 (rec : GT_Md_all_Md_products_Md_sums_Md_takePart_M) (v0R : Nat) (v1I : Int32) (σ : AM) : S_Md_test ⊕ Option (Unit × AM) :=
  gdT (okO σ v0R 12) <| bndT (rec.2.2.1 v0R v1I σ) fun _ σ2 => gdT (okO σ2 v0R 12) <| bndT (M_Md_isSign v0R (60 : Int32) σ2) fun r4 σ5 => gdT (okO σ5 v0R 12) <| bndT (M_Md_hasSign v0R (60 : Int32) σ5) fun r7 σ8 => if r7 = 0 then (gdT (okO σ8 v0R 12) <| bndT (M_Md_hasSign v0R (61 : Int32) σ8) fun r10 σ11 => if r10 = 0 then (.inl (3, 0, 0, 0, 0, 0, σ11)) else (.inl (1, v0R, v1I, r4, 0, 0, σ11))) else (.inl (1, v0R, v1I, r4, 0, 0, σ8))
noncomputable def T_Md_test_1 (rec : GT_Md_all_Md_products_Md_sums_Md_takePart_M) (v0R : Nat) (v1I : Int32) (v2I : Int32) (σ : AM) : S_Md_test ⊕ Option (Unit × AM) :=
  gdT (okO σ v0R 12) <| bndT (rec.2.2.1 v0R v1I σ) fun _ σ2 => if v2I = 0 then (.inl (2, 0, 0, 0, v0R, (8 : Int32), σ2)) else (.inl (2, 0, 0, 0, v0R, (7 : Int32), σ2))
noncomputable def T_Md_test_2 (rec : GT_Md_all_Md_products_Md_sums_Md_takePart_M) (s0R : Nat) (s1I : Int32) (σ : AM) : S_Md_test ⊕ Option (Unit × AM) :=
  gdT (okO σ s0R 12) <| bndT (M_Md_emit s0R s1I (0 : Int32) σ) fun _ σ2 => .inl (3, 0, 0, 0, 0, 0, σ2)
noncomputable def T_Md_test_3 (rec : GT_Md_all_Md_products_Md_sums_Md_takePart_M)  (σ : AM) : S_Md_test ⊕ Option (Unit × AM) :=
  .inr (some ((), σ))
noncomputable def F_Md_test (rec : GT_Md_all_Md_products_Md_sums_Md_takePart_M) : S_Md_test → S_Md_test ⊕ Option (Unit × AM) := fun s => match s.1 with
  | 0 => T_Md_test_0 rec (s.2.1) (s.2.2.1) (s.2.2.2.2.2.2)
  | 1 => T_Md_test_1 rec (s.2.1) (s.2.2.1) (s.2.2.2.1) (s.2.2.2.2.2.2)
  | 2 => T_Md_test_2 rec (s.2.2.2.2.1) (s.2.2.2.2.2.1) (s.2.2.2.2.2.2)
  | _ => T_Md_test_3 rec  (s.2.2.2.2.2.2)
noncomputable def L_Md_test_0 (rec : GT_Md_all_Md_products_Md_sums_Md_takePart_M) (v0R : Nat) (v1I : Int32) (σ : AM) : Option (Unit × AM) := lp (F_Md_test rec) (0, v0R, v1I, 0, 0, 0, σ)
noncomputable def L_Md_test_1 (rec : GT_Md_all_Md_products_Md_sums_Md_takePart_M) (v0R : Nat) (v1I : Int32) (v2I : Int32) (σ : AM) : Option (Unit × AM) := lp (F_Md_test rec) (1, v0R, v1I, v2I, 0, 0, σ)
noncomputable def L_Md_test_2 (rec : GT_Md_all_Md_products_Md_sums_Md_takePart_M) (s0R : Nat) (s1I : Int32) (σ : AM) : Option (Unit × AM) := lp (F_Md_test rec) (2, 0, 0, 0, s0R, s1I, σ)
noncomputable def L_Md_test_3 (rec : GT_Md_all_Md_products_Md_sums_Md_takePart_M)  (σ : AM) : Option (Unit × AM) := lp (F_Md_test rec) (3, 0, 0, 0, 0, 0, σ)
set_option maxRecDepth 20000 in
theorem E_Md_test_0 (rec : GT_Md_all_Md_products_Md_sums_Md_takePart_M) (v0R : Nat) (v1I : Int32) (σ : AM) : L_Md_test_0 rec v0R v1I σ = (gd (okO σ v0R 12) <| bnd (rec.2.2.1 v0R v1I σ) fun _ σ2 => gd (okO σ2 v0R 12) <| bnd (M_Md_isSign v0R (60 : Int32) σ2) fun r4 σ5 => gd (okO σ5 v0R 12) <| bnd (M_Md_hasSign v0R (60 : Int32) σ5) fun r7 σ8 => if r7 = 0 then (gd (okO σ8 v0R 12) <| bnd (M_Md_hasSign v0R (61 : Int32) σ8) fun r10 σ11 => if r10 = 0 then (L_Md_test_3 rec σ11) else (L_Md_test_1 rec v0R v1I r4 σ11)) else (L_Md_test_1 rec v0R v1I r4 σ8)) := by
  unfold L_Md_test_0
  rw [lp_eq]
  show lpK (lp (F_Md_test rec)) (T_Md_test_0 rec v0R v1I σ) = _
  unfold T_Md_test_0
  simp only [lpK_ite, lq_inl, lq_inr, lpK_bnd, lpK_gd, lq_let]
  try rfl
set_option maxRecDepth 20000 in
theorem E_Md_test_1 (rec : GT_Md_all_Md_products_Md_sums_Md_takePart_M) (v0R : Nat) (v1I : Int32) (v2I : Int32) (σ : AM) : L_Md_test_1 rec v0R v1I v2I σ = (gd (okO σ v0R 12) <| bnd (rec.2.2.1 v0R v1I σ) fun _ σ2 => if v2I = 0 then (L_Md_test_2 rec v0R ((8 : Int32)) σ2) else (L_Md_test_2 rec v0R ((7 : Int32)) σ2)) := by
  unfold L_Md_test_1
  rw [lp_eq]
  show lpK (lp (F_Md_test rec)) (T_Md_test_1 rec v0R v1I v2I σ) = _
  unfold T_Md_test_1
  simp only [lpK_ite, lq_inl, lq_inr, lpK_bnd, lpK_gd, lq_let]
  try rfl
set_option maxRecDepth 20000 in
theorem E_Md_test_2 (rec : GT_Md_all_Md_products_Md_sums_Md_takePart_M) (s0R : Nat) (s1I : Int32) (σ : AM) : L_Md_test_2 rec s0R s1I σ = (gd (okO σ s0R 12) <| bnd (M_Md_emit s0R s1I (0 : Int32) σ) fun _ σ2 => L_Md_test_3 rec σ2) := by
  unfold L_Md_test_2
  rw [lp_eq]
  show lpK (lp (F_Md_test rec)) (T_Md_test_2 rec s0R s1I σ) = _
  unfold T_Md_test_2
  simp only [lpK_ite, lq_inl, lq_inr, lpK_bnd, lpK_gd, lq_let]
  try rfl
set_option maxRecDepth 20000 in
theorem E_Md_test_3 (rec : GT_Md_all_Md_products_Md_sums_Md_takePart_M)  (σ : AM) : L_Md_test_3 rec  σ = ((some ((), σ))) := by
  unfold L_Md_test_3
  rw [lp_eq]
  show lpK (lp (F_Md_test rec)) (T_Md_test_3 rec  σ) = _
  unfold T_Md_test_3
  simp only [lpK_ite, lq_inl, lq_inr, lpK_bnd, lpK_gd, lq_let]
  try rfl
noncomputable def N_Md_test (rec : GT_Md_all_Md_products_Md_sums_Md_takePart_M) (v0R : Nat) (v1I : Int32) (σ : AM) : Option (Unit × AM) := mw σ (L_Md_test_0 rec v0R v1I σ)
def I_Md_test (G : GX) (p : Program) (l : Launch) (e : Env) (s : State) (m : MethodId) (args : Array Value) (below : List Frame) (meth : Method) (c : Code) (n0 : Nat) (rec : GT_Md_all_Md_products_Md_sums_Md_takePart_M) (z0 u0 n : Nat) : Prop :=
  (∀ (v0R : Nat) (v1I : Int32) (σ : AM), VX (QM eV G args s below z0 u0) G p l e s m args below meth c (2 + n0 + 1) z0 u0 3 (lpn (F_Md_test rec) n (0, v0R, v1I, 0, 0, 0, σ)) 0 [(0, .ref v0R), (1, .int v1I)] [] σ) ∧
  (∀ (v0R : Nat) (v1I : Int32) (v2I : Int32) (σ : AM), VX (QM eV G args s below z0 u0) G p l e s m args below meth c (2 + n0 + 1) z0 u0 3 (lpn (F_Md_test rec) n (1, v0R, v1I, v2I, 0, 0, σ)) 30 [(0, .ref v0R), (1, .int v1I), (2, .int v2I)] [] σ) ∧
  (∀ (s0R : Nat) (s1I : Int32) (σ : AM), VX (QM eV G args s below z0 u0) G p l e s m args below meth c (2 + n0 + 1) z0 u0 3 (lpn (F_Md_test rec) n (2, 0, 0, 0, s0R, s1I, σ)) 47 [] [.int s1I, .ref s0R] σ) ∧
  (∀ (σ : AM), VX (QM eV G args s below z0 u0) G p l e s m args below meth c (2 + n0 + 1) z0 u0 3 (lpn (F_Md_test rec) n (3, 0, 0, 0, 0, 0, σ)) 51 [] [] σ)
set_option maxRecDepth 20000 in
theorem s_Md_test_0 {G : GX} {p : Program} {l : Launch} {e : Env} {s : State} {m : MethodId} {args : Array Value} {below : List Frame} {meth : Method} {c : Code} {z0 u0 n : Nat} (C : Cx G p s m args meth c prog_14_method_27_code 3 "BellPlateModel" ((none))) {n0 : Nat} {rec : GT_Md_all_Md_products_Md_sums_Md_takePart_M} (HR : H_Md_all_Md_products_Md_sums_Md_takePart_M G l n0 rec) (IH : I_Md_test G p l e s m args below meth c n0 rec z0 u0 n) (v0R : Nat) (v1I : Int32) (σ : AM) : VX (QM eV G args s below z0 u0) G p l e s m args below meth c (2 + n0 + 1) z0 u0 3 (lpK (lpn (F_Md_test rec) n) (T_Md_test_0 rec v0R v1I σ)) 0 [(0, .ref v0R), (1, .int v1I)] [] σ := by
  unfold T_Md_test_0
  refine x_aload_n C d_Md_test_0 0 rfl ?_
  refine x_iload_n C d_Md_test_1 1 rfl ?_
  refine x_gd (fun h3 => ?_)
  refine x_callVV (As := [.int v1I]) C (HR.2.2.1 v0R v1I σ) (okO_iff.mp h3) rfl w2142 w74 w2140 w2143 w134 k_Md_sums rfl (by omega) (by decide) rfl (Nat.le_of_ble_eq_true rfl) d_Md_test_2 (fun r1 σ2 => ?_)
  refine x_aload_n C d_Md_test_5 0 rfl ?_
  refine x_bipush (v := (60 : Int32)) C d_Md_test_6 (by decide) ?_
  refine x_gd (fun h6 => ?_)
  refine x_callVI (As := [.int (60 : Int32)]) C (c_Md_isSign G l v0R (60 : Int32) σ2) (okO_iff.mp h6) rfl w2154 w77 w2152 w2155 w134 k_Md_isSign rfl (by omega) (by decide) rfl (Nat.le_of_ble_eq_true rfl) d_Md_test_8 (fun r4 σ5 => ?_)
  refine x_istore_n (lv' := [(2, .int r4), (0, .ref v0R), (1, .int v1I)]) C d_Md_test_11 (by decide) rfl rfl ?_
  refine x_aload_n C d_Md_test_12 1 rfl ?_
  refine x_bipush (v := (60 : Int32)) C d_Md_test_13 (by decide) ?_
  refine x_gd (fun h9 => ?_)
  refine x_callVI (As := [.int (60 : Int32)]) C (c_Md_hasSign G l v0R (60 : Int32) σ5) (okO_iff.mp h9) rfl w2166 w80 w2164 w2167 w134 k_Md_hasSign rfl (by omega) (by decide) rfl (Nat.le_of_ble_eq_true rfl) d_Md_test_15 (fun r7 σ8 => ?_)
  refine x_if_ne (tgt := 30) C d_Md_test_18 (by decide) (fun _ => ?_) (fun _ => ?_)
  · refine x_aload_n C d_Md_test_21 1 rfl ?_
    refine x_bipush (v := (61 : Int32)) C d_Md_test_22 (by decide) ?_
    refine x_gd (fun h12 => ?_)
    refine x_callVI (As := [.int (61 : Int32)]) C (c_Md_hasSign G l v0R (61 : Int32) σ8) (okO_iff.mp h12) rfl w2166 w80 w2164 w2167 w134 k_Md_hasSign rfl (by omega) (by decide) rfl (Nat.le_of_ble_eq_true rfl) d_Md_test_24 (fun r10 σ11 => ?_)
    refine x_if_eq (tgt := 51) C d_Md_test_27 (by decide) (fun _ => ?_) (fun _ => ?_)
    · refine x_lv [] rfl ?_
      exact IH.2.2.2  (σ11)
    · refine x_lv [1, 2, 0] rfl ?_
      exact IH.2.1 v0R v1I r4 (σ11)
  · refine x_lv [1, 2, 0] rfl ?_
    exact IH.2.1 v0R v1I r4 (σ8)
set_option maxRecDepth 20000 in
theorem s_Md_test_1 {G : GX} {p : Program} {l : Launch} {e : Env} {s : State} {m : MethodId} {args : Array Value} {below : List Frame} {meth : Method} {c : Code} {z0 u0 n : Nat} (C : Cx G p s m args meth c prog_14_method_27_code 3 "BellPlateModel" ((none))) {n0 : Nat} {rec : GT_Md_all_Md_products_Md_sums_Md_takePart_M} (HR : H_Md_all_Md_products_Md_sums_Md_takePart_M G l n0 rec) (IH : I_Md_test G p l e s m args below meth c n0 rec z0 u0 n) (v0R : Nat) (v1I : Int32) (v2I : Int32) (σ : AM) : VX (QM eV G args s below z0 u0) G p l e s m args below meth c (2 + n0 + 1) z0 u0 3 (lpK (lpn (F_Md_test rec) n) (T_Md_test_1 rec v0R v1I v2I σ)) 30 [(0, .ref v0R), (1, .int v1I), (2, .int v2I)] [] σ := by
  unfold T_Md_test_1
  refine x_aload_n C d_Md_test_30 0 rfl ?_
  refine x_iload_n C d_Md_test_31 1 rfl ?_
  refine x_gd (fun h3 => ?_)
  refine x_callVV (As := [.int v1I]) C (HR.2.2.1 v0R v1I σ) (okO_iff.mp h3) rfl w2142 w74 w2140 w2143 w134 k_Md_sums rfl (by omega) (by decide) rfl (Nat.le_of_ble_eq_true rfl) d_Md_test_32 (fun r1 σ2 => ?_)
  refine x_aload_n C d_Md_test_35 0 rfl ?_
  refine x_iload_n C d_Md_test_36 2 rfl ?_
  refine x_if_eq (tgt := 45) C d_Md_test_37 (by decide) (fun _ => ?_) (fun _ => ?_)
  · refine x_bipush (v := (8 : Int32)) C d_Md_test_45 (by decide) ?_
    refine x_lv [] rfl ?_
    exact IH.2.2.1 v0R ((8 : Int32)) (σ2)
  · refine x_bipush (v := (7 : Int32)) C d_Md_test_40 (by decide) ?_
    refine x_goto (tgt := 47) C d_Md_test_42 (by decide) ?_
    refine x_lv [] rfl ?_
    exact IH.2.2.1 v0R ((7 : Int32)) (σ2)
set_option maxRecDepth 20000 in
theorem s_Md_test_2 {G : GX} {p : Program} {l : Launch} {e : Env} {s : State} {m : MethodId} {args : Array Value} {below : List Frame} {meth : Method} {c : Code} {z0 u0 n : Nat} (C : Cx G p s m args meth c prog_14_method_27_code 3 "BellPlateModel" ((none))) {n0 : Nat} {rec : GT_Md_all_Md_products_Md_sums_Md_takePart_M} (HR : H_Md_all_Md_products_Md_sums_Md_takePart_M G l n0 rec) (IH : I_Md_test G p l e s m args below meth c n0 rec z0 u0 n) (s0R : Nat) (s1I : Int32) (σ : AM) : VX (QM eV G args s below z0 u0) G p l e s m args below meth c (2 + n0 + 1) z0 u0 3 (lpK (lpn (F_Md_test rec) n) (T_Md_test_2 rec s0R s1I σ)) 47 [] [.int s1I, .ref s0R] σ := by
  unfold T_Md_test_2
  refine x_iconst (v := (0 : Int32)) C d_Md_test_47 (by decide) ?_
  refine x_gd (fun h3 => ?_)
  refine x_callVV (As := [.int s1I, .int (0 : Int32)]) C (c_Md_emit G l s0R s1I (0 : Int32) σ) (okO_iff.mp h3) rfl w2162 w79 w2160 w2163 w134 k_Md_emit rfl (by omega) (by decide) rfl (Nat.le_of_ble_eq_true rfl) d_Md_test_48 (fun r1 σ2 => ?_)
  exact IH.2.2.2  (σ2)
set_option maxRecDepth 20000 in
theorem s_Md_test_3 {G : GX} {p : Program} {l : Launch} {e : Env} {s : State} {m : MethodId} {args : Array Value} {below : List Frame} {meth : Method} {c : Code} {z0 u0 n : Nat} (C : Cx G p s m args meth c prog_14_method_27_code 3 "BellPlateModel" ((none))) {n0 : Nat} {rec : GT_Md_all_Md_products_Md_sums_Md_takePart_M} (HR : H_Md_all_Md_products_Md_sums_Md_takePart_M G l n0 rec) (IH : I_Md_test G p l e s m args below meth c n0 rec z0 u0 n)  (σ : AM) : VX (QM eV G args s below z0 u0) G p l e s m args below meth c (2 + n0 + 1) z0 u0 3 (lpK (lpn (F_Md_test rec) n) (T_Md_test_3 rec  σ)) 51 [] [] σ := by
  unfold T_Md_test_3
  exact x_vret C d_Md_test_51
theorem i_Md_test {G : GX} {p : Program} {l : Launch} {e : Env} {s : State} {m : MethodId} {args : Array Value} {below : List Frame} {meth : Method} {c : Code} {z0 u0 : Nat} (C : Cx G p s m args meth c prog_14_method_27_code 3 "BellPlateModel" ((none))) {n0 : Nat} {rec : GT_Md_all_Md_products_Md_sums_Md_takePart_M} (HR : H_Md_all_Md_products_Md_sums_Md_takePart_M G l n0 rec) (n : Nat) : I_Md_test G p l e s m args below meth c n0 rec z0 u0 n := by
  induction n with
  | zero => exact ⟨fun _ _ _ => x_none, fun _ _ _ _ => x_none, fun _ _ _ => x_none, fun _ => x_none⟩
  | succ n IH => exact ⟨fun v0R v1I σ => s_Md_test_0 C HR IH v0R v1I σ, fun v0R v1I v2I σ => s_Md_test_1 C HR IH v0R v1I v2I σ, fun s0R s1I σ => s_Md_test_2 C HR IH s0R s1I σ, fun σ => s_Md_test_3 C HR IH σ⟩
theorem n_Md_test (G : GX) (l : Launch) (n0 : Nat) (rec : GT_Md_all_Md_products_Md_sums_Md_takePart_M) (HR : H_Md_all_Md_products_Md_sums_Md_takePart_M G l n0 rec) (v0R : Nat) (v1I : Int32) (σ : AM) : CT eV G l (2 + (n0 + 1)) y_Md_test prog_14_method_27_code 3 (none) [.ref v0R, .int v1I] σ (N_Md_test rec v0R v1I σ) := by
  refine ct_of (by decide +kernel) (Nat.le_of_ble_eq_true rfl) (fun p e s m args below meth c C hin => ?_)
  refine x_lve (lv' := [(0, .ref v0R), (1, .int v1I)]) rfl ?_
  intro r σ' h
  obtain ⟨n, hn⟩ := (lp_iff _ _ _).mp h
  exact (i_Md_test C HR n).1 v0R v1I σ r σ' hn
noncomputable def Q_Md_all_Md_products_Md_sums_Md_takePart_M : Nat → GT_Md_all_Md_products_Md_sums_Md_takePart_M
  | 0 => (fun _ _ _ => none, fun _ _ _ => none, fun _ _ _ => none, fun _ _ _ => none, fun _ _ _ => none)
  | n + 1 => (fun v0R v1I σ => N_Md_all (Q_Md_all_Md_products_Md_sums_Md_takePart_M n) v0R v1I σ, fun v0R v1I σ => N_Md_products (Q_Md_all_Md_products_Md_sums_Md_takePart_M n) v0R v1I σ, fun v0R v1I σ => N_Md_sums (Q_Md_all_Md_products_Md_sums_Md_takePart_M n) v0R v1I σ, fun v0R v1I σ => N_Md_takePart (Q_Md_all_Md_products_Md_sums_Md_takePart_M n) v0R v1I σ, fun v0R v1I σ => N_Md_test (Q_Md_all_Md_products_Md_sums_Md_takePart_M n) v0R v1I σ)
theorem q_Md_all_Md_products_Md_sums_Md_takePart_M (G : GX) (l : Launch) (n : Nat) : H_Md_all_Md_products_Md_sums_Md_takePart_M G l n (Q_Md_all_Md_products_Md_sums_Md_takePart_M n) := by
  induction n with
  | zero => exact ⟨fun _ _ _ r σ' h => absurd (show none = some (r, σ') from h) (fun q => by cases q), fun _ _ _ r σ' h => absurd (show none = some (r, σ') from h) (fun q => by cases q), fun _ _ _ r σ' h => absurd (show none = some (r, σ') from h) (fun q => by cases q), fun _ _ _ r σ' h => absurd (show none = some (r, σ') from h) (fun q => by cases q), fun _ _ _ r σ' h => absurd (show none = some (r, σ') from h) (fun q => by cases q)⟩
  | succ n ih => exact ⟨fun v0R v1I σ => n_Md_all G l n (Q_Md_all_Md_products_Md_sums_Md_takePart_M n) ih v0R v1I σ, fun v0R v1I σ => n_Md_products G l n (Q_Md_all_Md_products_Md_sums_Md_takePart_M n) ih v0R v1I σ, fun v0R v1I σ => n_Md_sums G l n (Q_Md_all_Md_products_Md_sums_Md_takePart_M n) ih v0R v1I σ, fun v0R v1I σ => n_Md_takePart G l n (Q_Md_all_Md_products_Md_sums_Md_takePart_M n) ih v0R v1I σ, fun v0R v1I σ => n_Md_test G l n (Q_Md_all_Md_products_Md_sums_Md_takePart_M n) ih v0R v1I σ⟩
noncomputable def M_Md_all (v0R : Nat) (v1I : Int32) (σ : AM) : Option (Unit × AM) := (Q_Md_all_Md_products_Md_sums_Md_takePart_M 80).1 v0R v1I σ
theorem c_Md_all (G : GX) (l : Launch) (v0R : Nat) (v1I : Int32) (σ : AM) : CT eV G l 82 y_Md_all prog_14_method_26_code 3 (none) [.ref v0R, .int v1I] σ (M_Md_all v0R v1I σ) := (q_Md_all_Md_products_Md_sums_Md_takePart_M G l 80).1 v0R v1I σ
noncomputable def M_Md_products (v0R : Nat) (v1I : Int32) (σ : AM) : Option (Unit × AM) := (Q_Md_all_Md_products_Md_sums_Md_takePart_M 80).2.1 v0R v1I σ
theorem c_Md_products (G : GX) (l : Launch) (v0R : Nat) (v1I : Int32) (σ : AM) : CT eV G l 82 y_Md_products prog_14_method_29_code 2 (none) [.ref v0R, .int v1I] σ (M_Md_products v0R v1I σ) := (q_Md_all_Md_products_Md_sums_Md_takePart_M G l 80).2.1 v0R v1I σ
noncomputable def M_Md_sums (v0R : Nat) (v1I : Int32) (σ : AM) : Option (Unit × AM) := (Q_Md_all_Md_products_Md_sums_Md_takePart_M 80).2.2.1 v0R v1I σ
theorem c_Md_sums (G : GX) (l : Launch) (v0R : Nat) (v1I : Int32) (σ : AM) : CT eV G l 82 y_Md_sums prog_14_method_28_code 3 (none) [.ref v0R, .int v1I] σ (M_Md_sums v0R v1I σ) := (q_Md_all_Md_products_Md_sums_Md_takePart_M G l 80).2.2.1 v0R v1I σ
noncomputable def M_Md_takePart (v0R : Nat) (v1I : Int32) (σ : AM) : Option (Unit × AM) := (Q_Md_all_Md_products_Md_sums_Md_takePart_M 80).2.2.2.1 v0R v1I σ
theorem c_Md_takePart (G : GX) (l : Launch) (v0R : Nat) (v1I : Int32) (σ : AM) : CT eV G l 82 y_Md_takePart prog_14_method_30_code 5 (none) [.ref v0R, .int v1I] σ (M_Md_takePart v0R v1I σ) := (q_Md_all_Md_products_Md_sums_Md_takePart_M G l 80).2.2.2.1 v0R v1I σ
noncomputable def M_Md_test (v0R : Nat) (v1I : Int32) (σ : AM) : Option (Unit × AM) := (Q_Md_all_Md_products_Md_sums_Md_takePart_M 80).2.2.2.2 v0R v1I σ
theorem c_Md_test (G : GX) (l : Launch) (v0R : Nat) (v1I : Int32) (σ : AM) : CT eV G l 82 y_Md_test prog_14_method_27_code 3 (none) [.ref v0R, .int v1I] σ (M_Md_test v0R v1I σ) := (q_Md_all_Md_products_Md_sums_Md_takePart_M G l 80).2.2.2.2 v0R v1I σ




/-! BellPlateModel.readWhole(Z)V -/
abbrev y_Md_readWhole : MethodName := ⟨"BellPlateModel", "readWhole", "(Z)V"⟩
theorem k_Md_readWhole : y_Md_readWhole.cls ≠ "java/lang/invoke/MethodHandle" ∧ y_Md_readWhole.cls ≠ "java/lang/invoke/VarHandle" ∧ (parseMethodDescriptor y_Md_readWhole.desc).map (fun d => d.parameters.length) = some 1 := by decide +kernel
theorem d_Md_readWhole_0 : decode prog_14_method_25_code 0 = .ok (.aload_n 0, 1) := by decide +kernel
theorem d_Md_readWhole_1 : decode prog_14_method_25_code 1 = .ok (.iload_n 1, 1) := by decide +kernel
theorem d_Md_readWhole_2 : decode prog_14_method_25_code 2 = .ok (.putfield 273, 3) := by decide +kernel
theorem d_Md_readWhole_5 : decode prog_14_method_25_code 5 = .ok (.aload_n 0, 1) := by decide +kernel
theorem d_Md_readWhole_6 : decode prog_14_method_25_code 6 = .ok (.iconst 0, 1) := by decide +kernel
theorem d_Md_readWhole_7 : decode prog_14_method_25_code 7 = .ok (.invokevirtual 277, 3) := by decide +kernel
theorem d_Md_readWhole_10 : decode prog_14_method_25_code 10 = .ok (.aload_n 0, 1) := by decide +kernel
theorem d_Md_readWhole_11 : decode prog_14_method_25_code 11 = .ok (.iconst 0, 1) := by decide +kernel
theorem d_Md_readWhole_12 : decode prog_14_method_25_code 12 = .ok (.iconst 0, 1) := by decide +kernel
theorem d_Md_readWhole_13 : decode prog_14_method_25_code 13 = .ok (.invokevirtual 280, 3) := by decide +kernel
theorem d_Md_readWhole_16 : decode prog_14_method_25_code 16 = .ok (.return_, 1) := by decide +kernel
abbrev S_Md_readWhole : Type := Nat × Nat × Int32 × AM
noncomputable def T_Md_readWhole_0 (v0R : Nat) (v1I : Int32) (σ : AM) : S_Md_readWhole ⊕ Option (Unit × AM) :=
  gdT (okO σ v0R 12) <| gdT (isB v1I) <| letT (sI σ v0R 23 v1I) fun σ3 => bndT (M_Md_all v0R (0 : Int32) σ3) fun _ σ6 => gdT (okO σ6 v0R 12) <| bndT (M_Md_emit v0R (0 : Int32) (0 : Int32) σ6) fun _ σ8 => .inr (some ((), σ8))
noncomputable def F_Md_readWhole : S_Md_readWhole → S_Md_readWhole ⊕ Option (Unit × AM) := fun s => match s.1 with
  | _ => T_Md_readWhole_0 (s.2.1) (s.2.2.1) (s.2.2.2)
noncomputable def L_Md_readWhole_0 (v0R : Nat) (v1I : Int32) (σ : AM) : Option (Unit × AM) := lp F_Md_readWhole (0, v0R, v1I, σ)
set_option maxRecDepth 20000 in
theorem E_Md_readWhole_0 (v0R : Nat) (v1I : Int32) (σ : AM) : L_Md_readWhole_0 v0R v1I σ = (gd (okO σ v0R 12) <| gd (isB v1I) <| letT (sI σ v0R 23 v1I) fun σ3 => bnd (M_Md_all v0R (0 : Int32) σ3) fun _ σ6 => gd (okO σ6 v0R 12) <| bnd (M_Md_emit v0R (0 : Int32) (0 : Int32) σ6) fun _ σ8 => (some ((), σ8))) := by
  unfold L_Md_readWhole_0
  rw [lp_eq]
  show lpK (lp F_Md_readWhole) (T_Md_readWhole_0 v0R v1I σ) = _
  unfold T_Md_readWhole_0
  simp only [lpK_ite, lq_inl, lq_inr, lpK_bnd, lpK_gd, lq_let]
  try rfl
noncomputable def M_Md_readWhole (v0R : Nat) (v1I : Int32) (σ : AM) : Option (Unit × AM) := mw σ (L_Md_readWhole_0 v0R v1I σ)
def I_Md_readWhole (G : GX) (p : Program) (l : Launch) (e : Env) (s : State) (m : MethodId) (args : Array Value) (below : List Frame) (meth : Method) (c : Code) (z0 u0 n : Nat) : Prop :=
  (∀ (v0R : Nat) (v1I : Int32) (σ : AM), VX (QM eV G args s below z0 u0) G p l e s m args below meth c 83 z0 u0 2 (lpn F_Md_readWhole n (0, v0R, v1I, σ)) 0 [(0, .ref v0R), (1, .int v1I)] [] σ)
set_option maxRecDepth 20000 in
theorem s_Md_readWhole_0 {G : GX} {p : Program} {l : Launch} {e : Env} {s : State} {m : MethodId} {args : Array Value} {below : List Frame} {meth : Method} {c : Code} {z0 u0 n : Nat} (C : Cx G p s m args meth c prog_14_method_25_code 2 "BellPlateModel" ((none))) (IH : I_Md_readWhole G p l e s m args below meth c z0 u0 n) (v0R : Nat) (v1I : Int32) (σ : AM) : VX (QM eV G args s below z0 u0) G p l e s m args below meth c 83 z0 u0 2 (lpK (lpn F_Md_readWhole n) (T_Md_readWhole_0 v0R v1I σ)) 0 [(0, .ref v0R), (1, .int v1I)] [] σ := by
  unfold T_Md_readWhole_0
  refine x_aload_n C d_Md_readWhole_0 0 rfl ?_
  refine x_iload_n C d_Md_readWhole_1 1 rfl ?_
  refine x_gd (fun h1 => ?_)
  refine x_gd (fun h2 => ?_)
  refine x_putI (k := 23) C (okO_iff.mp h1) rfl j11_ok y11_ok n11_ok (by decide) rfl rfl (isB_narrow h2) (isB_fits h2) w1875 d_Md_readWhole_2 ?_
  refine x_letS (fun σ3 e4 => ?_)
  refine x_aload_n C d_Md_readWhole_5 0 rfl ?_
  refine x_iconst (v := (0 : Int32)) C d_Md_readWhole_6 (by decide) ?_
  refine x_callVV (As := [.int (0 : Int32)]) C (c_Md_all G l v0R (0 : Int32) σ3) (by first | exact (okO_iff.mp h1) | (rw [e4]; exact (okO_iff.mp h1))) rfl w2134 w72 w2132 w2135 w134 k_Md_all rfl (by decide) (by decide) rfl (Nat.le_of_ble_eq_true rfl) d_Md_readWhole_7 (fun r5 σ6 => ?_)
  refine x_aload_n C d_Md_readWhole_10 0 rfl ?_
  refine x_iconst (v := (0 : Int32)) C d_Md_readWhole_11 (by decide) ?_
  refine x_iconst (v := (0 : Int32)) C d_Md_readWhole_12 (by decide) ?_
  refine x_gd (fun h9 => ?_)
  refine x_callVV (As := [.int (0 : Int32), .int (0 : Int32)]) C (c_Md_emit G l v0R (0 : Int32) (0 : Int32) σ6) (okO_iff.mp h9) rfl w2162 w79 w2160 w2163 w134 k_Md_emit rfl (by decide) (by decide) rfl (Nat.le_of_ble_eq_true rfl) d_Md_readWhole_13 (fun r7 σ8 => ?_)
  exact x_vret C d_Md_readWhole_16
theorem i_Md_readWhole {G : GX} {p : Program} {l : Launch} {e : Env} {s : State} {m : MethodId} {args : Array Value} {below : List Frame} {meth : Method} {c : Code} {z0 u0 : Nat} (C : Cx G p s m args meth c prog_14_method_25_code 2 "BellPlateModel" ((none))) (n : Nat) : I_Md_readWhole G p l e s m args below meth c z0 u0 n := by
  induction n with
  | zero => exact fun _ _ _ => x_none
  | succ n IH => exact fun v0R v1I σ => s_Md_readWhole_0 C IH v0R v1I σ
theorem c_Md_readWhole (G : GX) (l : Launch) (v0R : Nat) (v1I : Int32) (σ : AM) : CT eV G l 83 y_Md_readWhole prog_14_method_25_code 2 (none) [.ref v0R, .int v1I] σ (M_Md_readWhole v0R v1I σ) := by
  refine ct_of (by decide +kernel) (Nat.le_of_ble_eq_true rfl) (fun p e s m args below meth c C hin => ?_)
  refine x_lve (lv' := [(0, .ref v0R), (1, .int v1I)]) rfl ?_
  intro r σ' h
  obtain ⟨n, hn⟩ := (lp_iff _ _ _).mp h
  exact (i_Md_readWhole C n) v0R v1I σ r σ' hn
/-! BellPlateModel.readLine()V -/
abbrev y_Md_readLine : MethodName := ⟨"BellPlateModel", "readLine", "()V"⟩
theorem k_Md_readLine : y_Md_readLine.cls ≠ "java/lang/invoke/MethodHandle" ∧ y_Md_readLine.cls ≠ "java/lang/invoke/VarHandle" ∧ (parseMethodDescriptor y_Md_readLine.desc).map (fun d => d.parameters.length) = some 0 := by decide +kernel
theorem d_Md_readLine_0 : decode prog_14_method_23_code 0 = .ok (.aload_n 0, 1) := by decide +kernel
theorem d_Md_readLine_1 : decode prog_14_method_23_code 1 = .ok (.iconst 0, 1) := by decide +kernel
theorem d_Md_readLine_2 : decode prog_14_method_23_code 2 = .ok (.invokevirtual 206, 3) := by decide +kernel
theorem d_Md_readLine_5 : decode prog_14_method_23_code 5 = .ok (.ifCond .eq 108, 3) := by decide +kernel
theorem d_Md_readLine_8 : decode prog_14_method_23_code 8 = .ok (.aload_n 0, 1) := by decide +kernel
theorem d_Md_readLine_9 : decode prog_14_method_23_code 9 = .ok (.getfield 212, 3) := by decide +kernel
theorem d_Md_readLine_12 : decode prog_14_method_23_code 12 = .ok (.bipush 6, 2) := by decide +kernel
theorem d_Md_readLine_14 : decode prog_14_method_23_code 14 = .ok (.if_icmp .ne 9, 3) := by decide +kernel
theorem d_Md_readLine_17 : decode prog_14_method_23_code 17 = .ok (.aload_n 0, 1) := by decide +kernel
theorem d_Md_readLine_18 : decode prog_14_method_23_code 18 = .ok (.iconst 5, 1) := by decide +kernel
theorem d_Md_readLine_19 : decode prog_14_method_23_code 19 = .ok (.invokevirtual 202, 3) := by decide +kernel
theorem d_Md_readLine_22 : decode prog_14_method_23_code 22 = .ok (.return_, 1) := by decide +kernel
theorem d_Md_readLine_23 : decode prog_14_method_23_code 23 = .ok (.aload_n 0, 1) := by decide +kernel
theorem d_Md_readLine_24 : decode prog_14_method_23_code 24 = .ok (.dup, 1) := by decide +kernel
theorem d_Md_readLine_25 : decode prog_14_method_23_code 25 = .ok (.getfield 193, 3) := by decide +kernel
theorem d_Md_readLine_28 : decode prog_14_method_23_code 28 = .ok (.iconst 1, 1) := by decide +kernel
theorem d_Md_readLine_29 : decode prog_14_method_23_code 29 = .ok (.iadd, 1) := by decide +kernel
theorem d_Md_readLine_30 : decode prog_14_method_23_code 30 = .ok (.putfield 193, 3) := by decide +kernel
theorem d_Md_readLine_33 : decode prog_14_method_23_code 33 = .ok (.aload_n 0, 1) := by decide +kernel
theorem d_Md_readLine_34 : decode prog_14_method_23_code 34 = .ok (.invokevirtual 257, 3) := by decide +kernel
theorem d_Md_readLine_37 : decode prog_14_method_23_code 37 = .ok (.ifCond .ne 11, 3) := by decide +kernel
theorem d_Md_readLine_40 : decode prog_14_method_23_code 40 = .ok (.aload_n 0, 1) := by decide +kernel
theorem d_Md_readLine_41 : decode prog_14_method_23_code 41 = .ok (.iconst 1, 1) := by decide +kernel
theorem d_Md_readLine_42 : decode prog_14_method_23_code 42 = .ok (.invokevirtual 202, 3) := by decide +kernel
theorem d_Md_readLine_45 : decode prog_14_method_23_code 45 = .ok (.goto 281, 3) := by decide +kernel
theorem d_Md_readLine_48 : decode prog_14_method_23_code 48 = .ok (.aload_n 0, 1) := by decide +kernel
theorem d_Md_readLine_49 : decode prog_14_method_23_code 49 = .ok (.aload_n 0, 1) := by decide +kernel
theorem d_Md_readLine_50 : decode prog_14_method_23_code 50 = .ok (.getfield 30, 3) := by decide +kernel
theorem d_Md_readLine_53 : decode prog_14_method_23_code 53 = .ok (.aload_n 0, 1) := by decide +kernel
theorem d_Md_readLine_54 : decode prog_14_method_23_code 54 = .ok (.getfield 193, 3) := by decide +kernel
theorem d_Md_readLine_57 : decode prog_14_method_23_code 57 = .ok (.laload, 1) := by decide +kernel
theorem d_Md_readLine_58 : decode prog_14_method_23_code 58 = .ok (.invokevirtual 261, 3) := by decide +kernel
theorem d_Md_readLine_61 : decode prog_14_method_23_code 61 = .ok (.ifCond .lt 11, 3) := by decide +kernel
theorem d_Md_readLine_64 : decode prog_14_method_23_code 64 = .ok (.aload_n 0, 1) := by decide +kernel
theorem d_Md_readLine_65 : decode prog_14_method_23_code 65 = .ok (.iconst 3, 1) := by decide +kernel
theorem d_Md_readLine_66 : decode prog_14_method_23_code 66 = .ok (.invokevirtual 202, 3) := by decide +kernel
theorem d_Md_readLine_69 : decode prog_14_method_23_code 69 = .ok (.goto 257, 3) := by decide +kernel
theorem d_Md_readLine_72 : decode prog_14_method_23_code 72 = .ok (.aload_n 0, 1) := by decide +kernel
theorem d_Md_readLine_73 : decode prog_14_method_23_code 73 = .ok (.getfield 60, 3) := by decide +kernel
theorem d_Md_readLine_76 : decode prog_14_method_23_code 76 = .ok (.aload_n 0, 1) := by decide +kernel
theorem d_Md_readLine_77 : decode prog_14_method_23_code 77 = .ok (.getfield 212, 3) := by decide +kernel
theorem d_Md_readLine_80 : decode prog_14_method_23_code 80 = .ok (.aload_n 0, 1) := by decide +kernel
theorem d_Md_readLine_81 : decode prog_14_method_23_code 81 = .ok (.getfield 30, 3) := by decide +kernel
theorem d_Md_readLine_84 : decode prog_14_method_23_code 84 = .ok (.aload_n 0, 1) := by decide +kernel
theorem d_Md_readLine_85 : decode prog_14_method_23_code 85 = .ok (.getfield 193, 3) := by decide +kernel
theorem d_Md_readLine_88 : decode prog_14_method_23_code 88 = .ok (.laload, 1) := by decide +kernel
theorem d_Md_readLine_89 : decode prog_14_method_23_code 89 = .ok (.lastore, 1) := by decide +kernel
theorem d_Md_readLine_90 : decode prog_14_method_23_code 90 = .ok (.aload_n 0, 1) := by decide +kernel
theorem d_Md_readLine_91 : decode prog_14_method_23_code 91 = .ok (.dup, 1) := by decide +kernel
theorem d_Md_readLine_92 : decode prog_14_method_23_code 92 = .ok (.getfield 212, 3) := by decide +kernel
theorem d_Md_readLine_95 : decode prog_14_method_23_code 95 = .ok (.iconst 1, 1) := by decide +kernel
theorem d_Md_readLine_96 : decode prog_14_method_23_code 96 = .ok (.iadd, 1) := by decide +kernel
theorem d_Md_readLine_97 : decode prog_14_method_23_code 97 = .ok (.putfield 212, 3) := by decide +kernel
theorem d_Md_readLine_100 : decode prog_14_method_23_code 100 = .ok (.aload_n 0, 1) := by decide +kernel
theorem d_Md_readLine_101 : decode prog_14_method_23_code 101 = .ok (.dup, 1) := by decide +kernel
theorem d_Md_readLine_102 : decode prog_14_method_23_code 102 = .ok (.getfield 193, 3) := by decide +kernel
theorem d_Md_readLine_105 : decode prog_14_method_23_code 105 = .ok (.iconst 1, 1) := by decide +kernel
theorem d_Md_readLine_106 : decode prog_14_method_23_code 106 = .ok (.iadd, 1) := by decide +kernel
theorem d_Md_readLine_107 : decode prog_14_method_23_code 107 = .ok (.putfield 193, 3) := by decide +kernel
theorem d_Md_readLine_110 : decode prog_14_method_23_code 110 = .ok (.goto 216, 3) := by decide +kernel
theorem d_Md_readLine_113 : decode prog_14_method_23_code 113 = .ok (.aload_n 0, 1) := by decide +kernel
theorem d_Md_readLine_114 : decode prog_14_method_23_code 114 = .ok (.iconst 1, 1) := by decide +kernel
theorem d_Md_readLine_115 : decode prog_14_method_23_code 115 = .ok (.invokevirtual 206, 3) := by decide +kernel
theorem d_Md_readLine_118 : decode prog_14_method_23_code 118 = .ok (.ifCond .eq 40, 3) := by decide +kernel
theorem d_Md_readLine_121 : decode prog_14_method_23_code 121 = .ok (.aload_n 0, 1) := by decide +kernel
theorem d_Md_readLine_122 : decode prog_14_method_23_code 122 = .ok (.getfield 221, 3) := by decide +kernel
theorem d_Md_readLine_125 : decode prog_14_method_23_code 125 = .ok (.ifCond .lt 9, 3) := by decide +kernel
theorem d_Md_readLine_128 : decode prog_14_method_23_code 128 = .ok (.aload_n 0, 1) := by decide +kernel
theorem d_Md_readLine_129 : decode prog_14_method_23_code 129 = .ok (.iconst 3, 1) := by decide +kernel
theorem d_Md_readLine_130 : decode prog_14_method_23_code 130 = .ok (.invokevirtual 202, 3) := by decide +kernel
theorem d_Md_readLine_133 : decode prog_14_method_23_code 133 = .ok (.return_, 1) := by decide +kernel
theorem d_Md_readLine_134 : decode prog_14_method_23_code 134 = .ok (.aload_n 0, 1) := by decide +kernel
theorem d_Md_readLine_135 : decode prog_14_method_23_code 135 = .ok (.dup, 1) := by decide +kernel
theorem d_Md_readLine_136 : decode prog_14_method_23_code 136 = .ok (.getfield 193, 3) := by decide +kernel
theorem d_Md_readLine_139 : decode prog_14_method_23_code 139 = .ok (.iconst 1, 1) := by decide +kernel
theorem d_Md_readLine_140 : decode prog_14_method_23_code 140 = .ok (.iadd, 1) := by decide +kernel
theorem d_Md_readLine_141 : decode prog_14_method_23_code 141 = .ok (.putfield 193, 3) := by decide +kernel
theorem d_Md_readLine_144 : decode prog_14_method_23_code 144 = .ok (.aload_n 0, 1) := by decide +kernel
theorem d_Md_readLine_145 : decode prog_14_method_23_code 145 = .ok (.aload_n 0, 1) := by decide +kernel
theorem d_Md_readLine_146 : decode prog_14_method_23_code 146 = .ok (.iconst 1, 1) := by decide +kernel
theorem d_Md_readLine_147 : decode prog_14_method_23_code 147 = .ok (.bipush 9, 2) := by decide +kernel
theorem d_Md_readLine_149 : decode prog_14_method_23_code 149 = .ok (.invokevirtual 265, 3) := by decide +kernel
theorem d_Md_readLine_152 : decode prog_14_method_23_code 152 = .ok (.putfield 221, 3) := by decide +kernel
theorem d_Md_readLine_155 : decode prog_14_method_23_code 155 = .ok (.goto 171, 3) := by decide +kernel
theorem d_Md_readLine_158 : decode prog_14_method_23_code 158 = .ok (.aload_n 0, 1) := by decide +kernel
theorem d_Md_readLine_159 : decode prog_14_method_23_code 159 = .ok (.iconst 2, 1) := by decide +kernel
theorem d_Md_readLine_160 : decode prog_14_method_23_code 160 = .ok (.invokevirtual 206, 3) := by decide +kernel
theorem d_Md_readLine_163 : decode prog_14_method_23_code 163 = .ok (.ifCond .eq 40, 3) := by decide +kernel
theorem d_Md_readLine_166 : decode prog_14_method_23_code 166 = .ok (.aload_n 0, 1) := by decide +kernel
theorem d_Md_readLine_167 : decode prog_14_method_23_code 167 = .ok (.getfield 224, 3) := by decide +kernel
theorem d_Md_readLine_170 : decode prog_14_method_23_code 170 = .ok (.ifCond .lt 9, 3) := by decide +kernel
theorem d_Md_readLine_173 : decode prog_14_method_23_code 173 = .ok (.aload_n 0, 1) := by decide +kernel
theorem d_Md_readLine_174 : decode prog_14_method_23_code 174 = .ok (.iconst 3, 1) := by decide +kernel
theorem d_Md_readLine_175 : decode prog_14_method_23_code 175 = .ok (.invokevirtual 202, 3) := by decide +kernel
theorem d_Md_readLine_178 : decode prog_14_method_23_code 178 = .ok (.return_, 1) := by decide +kernel
theorem d_Md_readLine_179 : decode prog_14_method_23_code 179 = .ok (.aload_n 0, 1) := by decide +kernel
theorem d_Md_readLine_180 : decode prog_14_method_23_code 180 = .ok (.dup, 1) := by decide +kernel
theorem d_Md_readLine_181 : decode prog_14_method_23_code 181 = .ok (.getfield 193, 3) := by decide +kernel
theorem d_Md_readLine_184 : decode prog_14_method_23_code 184 = .ok (.iconst 1, 1) := by decide +kernel
theorem d_Md_readLine_185 : decode prog_14_method_23_code 185 = .ok (.iadd, 1) := by decide +kernel
theorem d_Md_readLine_186 : decode prog_14_method_23_code 186 = .ok (.putfield 193, 3) := by decide +kernel
theorem d_Md_readLine_189 : decode prog_14_method_23_code 189 = .ok (.aload_n 0, 1) := by decide +kernel
theorem d_Md_readLine_190 : decode prog_14_method_23_code 190 = .ok (.aload_n 0, 1) := by decide +kernel
theorem d_Md_readLine_191 : decode prog_14_method_23_code 191 = .ok (.iconst 1, 1) := by decide +kernel
theorem d_Md_readLine_192 : decode prog_14_method_23_code 192 = .ok (.bipush 60, 2) := by decide +kernel
theorem d_Md_readLine_194 : decode prog_14_method_23_code 194 = .ok (.invokevirtual 265, 3) := by decide +kernel
theorem d_Md_readLine_197 : decode prog_14_method_23_code 197 = .ok (.putfield 224, 3) := by decide +kernel
theorem d_Md_readLine_200 : decode prog_14_method_23_code 200 = .ok (.goto 126, 3) := by decide +kernel
theorem d_Md_readLine_203 : decode prog_14_method_23_code 203 = .ok (.aload_n 0, 1) := by decide +kernel
theorem d_Md_readLine_204 : decode prog_14_method_23_code 204 = .ok (.iconst 3, 1) := by decide +kernel
theorem d_Md_readLine_205 : decode prog_14_method_23_code 205 = .ok (.invokevirtual 206, 3) := by decide +kernel
theorem d_Md_readLine_208 : decode prog_14_method_23_code 208 = .ok (.ifCond .eq 60, 3) := by decide +kernel
theorem d_Md_readLine_211 : decode prog_14_method_23_code 211 = .ok (.aload_n 0, 1) := by decide +kernel
theorem d_Md_readLine_212 : decode prog_14_method_23_code 212 = .ok (.getfield 227, 3) := by decide +kernel
theorem d_Md_readLine_215 : decode prog_14_method_23_code 215 = .ok (.iconst 4, 1) := by decide +kernel
theorem d_Md_readLine_216 : decode prog_14_method_23_code 216 = .ok (.if_icmp .ne 9, 3) := by decide +kernel
theorem d_Md_readLine_219 : decode prog_14_method_23_code 219 = .ok (.aload_n 0, 1) := by decide +kernel
theorem d_Md_readLine_220 : decode prog_14_method_23_code 220 = .ok (.iconst 5, 1) := by decide +kernel
theorem d_Md_readLine_221 : decode prog_14_method_23_code 221 = .ok (.invokevirtual 202, 3) := by decide +kernel
theorem d_Md_readLine_224 : decode prog_14_method_23_code 224 = .ok (.return_, 1) := by decide +kernel
theorem d_Md_readLine_225 : decode prog_14_method_23_code 225 = .ok (.aload_n 0, 1) := by decide +kernel
theorem d_Md_readLine_226 : decode prog_14_method_23_code 226 = .ok (.dup, 1) := by decide +kernel
theorem d_Md_readLine_227 : decode prog_14_method_23_code 227 = .ok (.getfield 193, 3) := by decide +kernel
theorem d_Md_readLine_230 : decode prog_14_method_23_code 230 = .ok (.iconst 1, 1) := by decide +kernel
theorem d_Md_readLine_231 : decode prog_14_method_23_code 231 = .ok (.iadd, 1) := by decide +kernel
theorem d_Md_readLine_232 : decode prog_14_method_23_code 232 = .ok (.putfield 193, 3) := by decide +kernel
theorem d_Md_readLine_235 : decode prog_14_method_23_code 235 = .ok (.aload_n 0, 1) := by decide +kernel
theorem d_Md_readLine_236 : decode prog_14_method_23_code 236 = .ok (.getfield 57, 3) := by decide +kernel
theorem d_Md_readLine_239 : decode prog_14_method_23_code 239 = .ok (.iconst 5, 1) := by decide +kernel
theorem d_Md_readLine_240 : decode prog_14_method_23_code 240 = .ok (.aload_n 0, 1) := by decide +kernel
theorem d_Md_readLine_241 : decode prog_14_method_23_code 241 = .ok (.getfield 227, 3) := by decide +kernel
theorem d_Md_readLine_244 : decode prog_14_method_23_code 244 = .ok (.iadd, 1) := by decide +kernel
theorem d_Md_readLine_245 : decode prog_14_method_23_code 245 = .ok (.aload_n 0, 1) := by decide +kernel
theorem d_Md_readLine_246 : decode prog_14_method_23_code 246 = .ok (.getfield 218, 3) := by decide +kernel
theorem d_Md_readLine_249 : decode prog_14_method_23_code 249 = .ok (.iastore, 1) := by decide +kernel
theorem d_Md_readLine_250 : decode prog_14_method_23_code 250 = .ok (.aload_n 0, 1) := by decide +kernel
theorem d_Md_readLine_251 : decode prog_14_method_23_code 251 = .ok (.dup, 1) := by decide +kernel
theorem d_Md_readLine_252 : decode prog_14_method_23_code 252 = .ok (.getfield 227, 3) := by decide +kernel
theorem d_Md_readLine_255 : decode prog_14_method_23_code 255 = .ok (.iconst 1, 1) := by decide +kernel
theorem d_Md_readLine_256 : decode prog_14_method_23_code 256 = .ok (.iadd, 1) := by decide +kernel
theorem d_Md_readLine_257 : decode prog_14_method_23_code 257 = .ok (.putfield 227, 3) := by decide +kernel
theorem d_Md_readLine_260 : decode prog_14_method_23_code 260 = .ok (.aload_n 0, 1) := by decide +kernel
theorem d_Md_readLine_261 : decode prog_14_method_23_code 261 = .ok (.iconst 1, 1) := by decide +kernel
theorem d_Md_readLine_262 : decode prog_14_method_23_code 262 = .ok (.invokevirtual 269, 3) := by decide +kernel
theorem d_Md_readLine_265 : decode prog_14_method_23_code 265 = .ok (.goto 61, 3) := by decide +kernel
theorem d_Md_readLine_268 : decode prog_14_method_23_code 268 = .ok (.aload_n 0, 1) := by decide +kernel
theorem d_Md_readLine_269 : decode prog_14_method_23_code 269 = .ok (.iconst 4, 1) := by decide +kernel
theorem d_Md_readLine_270 : decode prog_14_method_23_code 270 = .ok (.invokevirtual 206, 3) := by decide +kernel
theorem d_Md_readLine_273 : decode prog_14_method_23_code 273 = .ok (.ifCond .eq 48, 3) := by decide +kernel
theorem d_Md_readLine_276 : decode prog_14_method_23_code 276 = .ok (.aload_n 0, 1) := by decide +kernel
theorem d_Md_readLine_277 : decode prog_14_method_23_code 277 = .ok (.getfield 57, 3) := by decide +kernel
theorem d_Md_readLine_280 : decode prog_14_method_23_code 280 = .ok (.bipush 9, 2) := by decide +kernel
theorem d_Md_readLine_282 : decode prog_14_method_23_code 282 = .ok (.iaload, 1) := by decide +kernel
theorem d_Md_readLine_283 : decode prog_14_method_23_code 283 = .ok (.ifCond .lt 9, 3) := by decide +kernel
theorem d_Md_readLine_286 : decode prog_14_method_23_code 286 = .ok (.aload_n 0, 1) := by decide +kernel
theorem d_Md_readLine_287 : decode prog_14_method_23_code 287 = .ok (.iconst 3, 1) := by decide +kernel
theorem d_Md_readLine_288 : decode prog_14_method_23_code 288 = .ok (.invokevirtual 202, 3) := by decide +kernel
theorem d_Md_readLine_291 : decode prog_14_method_23_code 291 = .ok (.return_, 1) := by decide +kernel
theorem d_Md_readLine_292 : decode prog_14_method_23_code 292 = .ok (.aload_n 0, 1) := by decide +kernel
theorem d_Md_readLine_293 : decode prog_14_method_23_code 293 = .ok (.dup, 1) := by decide +kernel
theorem d_Md_readLine_294 : decode prog_14_method_23_code 294 = .ok (.getfield 193, 3) := by decide +kernel
theorem d_Md_readLine_297 : decode prog_14_method_23_code 297 = .ok (.iconst 1, 1) := by decide +kernel
theorem d_Md_readLine_298 : decode prog_14_method_23_code 298 = .ok (.iadd, 1) := by decide +kernel
theorem d_Md_readLine_299 : decode prog_14_method_23_code 299 = .ok (.putfield 193, 3) := by decide +kernel
theorem d_Md_readLine_302 : decode prog_14_method_23_code 302 = .ok (.aload_n 0, 1) := by decide +kernel
theorem d_Md_readLine_303 : decode prog_14_method_23_code 303 = .ok (.getfield 57, 3) := by decide +kernel
theorem d_Md_readLine_306 : decode prog_14_method_23_code 306 = .ok (.bipush 9, 2) := by decide +kernel
theorem d_Md_readLine_308 : decode prog_14_method_23_code 308 = .ok (.aload_n 0, 1) := by decide +kernel
theorem d_Md_readLine_309 : decode prog_14_method_23_code 309 = .ok (.getfield 218, 3) := by decide +kernel
theorem d_Md_readLine_312 : decode prog_14_method_23_code 312 = .ok (.iastore, 1) := by decide +kernel
theorem d_Md_readLine_313 : decode prog_14_method_23_code 313 = .ok (.aload_n 0, 1) := by decide +kernel
theorem d_Md_readLine_314 : decode prog_14_method_23_code 314 = .ok (.iconst 0, 1) := by decide +kernel
theorem d_Md_readLine_315 : decode prog_14_method_23_code 315 = .ok (.invokevirtual 269, 3) := by decide +kernel
theorem d_Md_readLine_318 : decode prog_14_method_23_code 318 = .ok (.goto 8, 3) := by decide +kernel
theorem d_Md_readLine_321 : decode prog_14_method_23_code 321 = .ok (.aload_n 0, 1) := by decide +kernel
theorem d_Md_readLine_322 : decode prog_14_method_23_code 322 = .ok (.iconst 1, 1) := by decide +kernel
theorem d_Md_readLine_323 : decode prog_14_method_23_code 323 = .ok (.invokevirtual 202, 3) := by decide +kernel
theorem d_Md_readLine_326 : decode prog_14_method_23_code 326 = .ok (.return_, 1) := by decide +kernel
abbrev S_Md_readLine : Type := Nat × Nat × AM
noncomputable def T_Md_readLine_0 (v0R : Nat) (σ : AM) : S_Md_readLine ⊕ Option (Unit × AM) :=
  gdT (okO σ v0R 12) <| bndT (M_Md_isWord v0R (0 : Int32) σ) fun r1 σ2 => if r1 = 0 then (gdT (okO σ2 v0R 12) <| bndT (M_Md_isWord v0R (1 : Int32) σ2) fun r4 σ5 => if r4 = 0 then (gdT (okO σ5 v0R 12) <| bndT (M_Md_isWord v0R (2 : Int32) σ5) fun r7 σ8 => if r7 = 0 then (gdT (okO σ8 v0R 12) <| bndT (M_Md_isWord v0R (3 : Int32) σ8) fun r10 σ11 => if r10 = 0 then (gdT (okO σ11 v0R 12) <| bndT (M_Md_isWord v0R (4 : Int32) σ11) fun r13 σ14 => if r13 = 0 then (gdT (okO σ14 v0R 12) <| bndT (M_Md_faulty v0R (1 : Int32) σ14) fun _ σ17 => .inl (1, 0, σ17)) else (gdT (okO σ14 v0R 12) <| gdT (okO σ14 (aR σ14 v0R 14) 101) <| gdT (inB (9 : Int32) (aN σ14 (aR σ14 v0R 14))) <| if (aI σ14 (aR σ14 v0R 14) (9 : Int32).toNatClampNeg) < 0 then (letT (sI σ14 v0R 7 ((aI σ14 v0R 7) + (1 : Int32))) fun σ22 => gdT (okO σ22 (aR σ22 v0R 14) 101) <| gdT (inB (9 : Int32) (aN σ22 (aR σ22 v0R 14))) <| letT (sI σ22 (aR σ22 v0R 14) (9 : Int32).toNatClampNeg (aI σ22 v0R 22)) fun σ26 => bndT (M_Md_readWhole v0R (0 : Int32) σ26) fun _ σ29 => .inl (1, 0, σ29)) else (bndT (M_Md_faulty v0R (3 : Int32) σ14) fun _ σ31 => .inr (some ((), σ31))))) else (gdT (okO σ11 v0R 12) <| if (aI σ11 v0R 18) = (4 : Int32) then (bndT (M_Md_faulty v0R (5 : Int32) σ11) fun _ σ34 => .inr (some ((), σ34))) else (letT (sI σ11 v0R 7 ((aI σ11 v0R 7) + (1 : Int32))) fun σ35 => gdT (okO σ35 (aR σ35 v0R 14) 101) <| gdT (inB ((5 : Int32) + (aI σ35 v0R 18)) (aN σ35 (aR σ35 v0R 14))) <| letT (sI σ35 (aR σ35 v0R 14) ((5 : Int32) + (aI σ35 v0R 18)).toNatClampNeg (aI σ35 v0R 22)) fun σ39 => letT (sI σ39 v0R 18 ((aI σ39 v0R 18) + (1 : Int32))) fun σ41 => bndT (M_Md_readWhole v0R (1 : Int32) σ41) fun _ σ44 => .inl (1, 0, σ44)))) else (gdT (okO σ8 v0R 12) <| if (aI σ8 v0R 17) < 0 then (letT (sI σ8 v0R 7 ((aI σ8 v0R 7) + (1 : Int32))) fun σ46 => bndT (M_Md_takeNumber v0R (1 : Int32) (60 : Int32) σ46) fun r48 σ49 => gdT (okO σ49 v0R 12) <| letT (sI σ49 v0R 17 r48) fun σ51 => .inl (1, 0, σ51)) else (bndT (M_Md_faulty v0R (3 : Int32) σ8) fun _ σ54 => .inr (some ((), σ54))))) else (gdT (okO σ5 v0R 12) <| if (aI σ5 v0R 16) < 0 then (letT (sI σ5 v0R 7 ((aI σ5 v0R 7) + (1 : Int32))) fun σ56 => bndT (M_Md_takeNumber v0R (1 : Int32) (9 : Int32) σ56) fun r58 σ59 => gdT (okO σ59 v0R 12) <| letT (sI σ59 v0R 16 r58) fun σ61 => .inl (1, 0, σ61)) else (bndT (M_Md_faulty v0R (3 : Int32) σ5) fun _ σ64 => .inr (some ((), σ64))))) else (gdT (okO σ2 v0R 12) <| if (aI σ2 v0R 15) = (6 : Int32) then (bndT (M_Md_faulty v0R (5 : Int32) σ2) fun _ σ67 => .inr (some ((), σ67))) else (letT (sI σ2 v0R 7 ((aI σ2 v0R 7) + (1 : Int32))) fun σ68 => bndT (M_Md_isName v0R σ68) fun r70 σ71 => if r70 = 0 then (gdT (okO σ71 v0R 12) <| bndT (M_Md_faulty v0R (1 : Int32) σ71) fun _ σ73 => .inl (1, 0, σ73)) else (gdT (okO σ71 v0R 12) <| gdT (okO σ71 (aR σ71 v0R 6) 102) <| gdT (inB (aI σ71 v0R 7) (aN σ71 (aR σ71 v0R 6))) <| bndT (M_Md_nameOf v0R (aL σ71 (aR σ71 v0R 6) (aI σ71 v0R 7).toNatClampNeg) σ71) fun r78 σ79 => if r78 < 0 then (gdT (okO σ79 v0R 12) <| gdT (okO σ79 (aR σ79 v0R 19) 102) <| gdT (okO σ79 (aR σ79 v0R 6) 102) <| gdT (inB (aI σ79 v0R 7) (aN σ79 (aR σ79 v0R 6))) <| gdT (inB (aI σ79 v0R 15) (aN σ79 (aR σ79 v0R 19))) <| letT (sL σ79 (aR σ79 v0R 19) (aI σ79 v0R 15).toNatClampNeg (aL σ79 (aR σ79 v0R 6) (aI σ79 v0R 7).toNatClampNeg)) fun σ85 => letT (sI σ85 v0R 15 ((aI σ85 v0R 15) + (1 : Int32))) fun σ87 => letT (sI σ87 v0R 7 ((aI σ87 v0R 7) + (1 : Int32))) fun σ89 => .inl (1, 0, σ89)) else (gdT (okO σ79 v0R 12) <| bndT (M_Md_faulty v0R (3 : Int32) σ79) fun _ σ92 => .inl (1, 0, σ92)))))
noncomputable def T_Md_readLine_1  (σ : AM) : S_Md_readLine ⊕ Option (Unit × AM) :=
  .inr (some ((), σ))
noncomputable def F_Md_readLine : S_Md_readLine → S_Md_readLine ⊕ Option (Unit × AM) := fun s => match s.1 with
  | 0 => T_Md_readLine_0 (s.2.1) (s.2.2)
  | _ => T_Md_readLine_1  (s.2.2)
noncomputable def L_Md_readLine_0 (v0R : Nat) (σ : AM) : Option (Unit × AM) := lp F_Md_readLine (0, v0R, σ)
noncomputable def L_Md_readLine_1  (σ : AM) : Option (Unit × AM) := lp F_Md_readLine (1, 0, σ)
set_option maxRecDepth 20000 in
theorem E_Md_readLine_0 (v0R : Nat) (σ : AM) : L_Md_readLine_0 v0R σ = (gd (okO σ v0R 12) <| bnd (M_Md_isWord v0R (0 : Int32) σ) fun r1 σ2 => if r1 = 0 then (gd (okO σ2 v0R 12) <| bnd (M_Md_isWord v0R (1 : Int32) σ2) fun r4 σ5 => if r4 = 0 then (gd (okO σ5 v0R 12) <| bnd (M_Md_isWord v0R (2 : Int32) σ5) fun r7 σ8 => if r7 = 0 then (gd (okO σ8 v0R 12) <| bnd (M_Md_isWord v0R (3 : Int32) σ8) fun r10 σ11 => if r10 = 0 then (gd (okO σ11 v0R 12) <| bnd (M_Md_isWord v0R (4 : Int32) σ11) fun r13 σ14 => if r13 = 0 then (gd (okO σ14 v0R 12) <| bnd (M_Md_faulty v0R (1 : Int32) σ14) fun _ σ17 => L_Md_readLine_1 σ17) else (gd (okO σ14 v0R 12) <| gd (okO σ14 (aR σ14 v0R 14) 101) <| gd (inB (9 : Int32) (aN σ14 (aR σ14 v0R 14))) <| if (aI σ14 (aR σ14 v0R 14) (9 : Int32).toNatClampNeg) < 0 then (letT (sI σ14 v0R 7 ((aI σ14 v0R 7) + (1 : Int32))) fun σ22 => gd (okO σ22 (aR σ22 v0R 14) 101) <| gd (inB (9 : Int32) (aN σ22 (aR σ22 v0R 14))) <| letT (sI σ22 (aR σ22 v0R 14) (9 : Int32).toNatClampNeg (aI σ22 v0R 22)) fun σ26 => bnd (M_Md_readWhole v0R (0 : Int32) σ26) fun _ σ29 => L_Md_readLine_1 σ29) else (bnd (M_Md_faulty v0R (3 : Int32) σ14) fun _ σ31 => (some ((), σ31))))) else (gd (okO σ11 v0R 12) <| if (aI σ11 v0R 18) = (4 : Int32) then (bnd (M_Md_faulty v0R (5 : Int32) σ11) fun _ σ34 => (some ((), σ34))) else (letT (sI σ11 v0R 7 ((aI σ11 v0R 7) + (1 : Int32))) fun σ35 => gd (okO σ35 (aR σ35 v0R 14) 101) <| gd (inB ((5 : Int32) + (aI σ35 v0R 18)) (aN σ35 (aR σ35 v0R 14))) <| letT (sI σ35 (aR σ35 v0R 14) ((5 : Int32) + (aI σ35 v0R 18)).toNatClampNeg (aI σ35 v0R 22)) fun σ39 => letT (sI σ39 v0R 18 ((aI σ39 v0R 18) + (1 : Int32))) fun σ41 => bnd (M_Md_readWhole v0R (1 : Int32) σ41) fun _ σ44 => L_Md_readLine_1 σ44))) else (gd (okO σ8 v0R 12) <| if (aI σ8 v0R 17) < 0 then (letT (sI σ8 v0R 7 ((aI σ8 v0R 7) + (1 : Int32))) fun σ46 => bnd (M_Md_takeNumber v0R (1 : Int32) (60 : Int32) σ46) fun r48 σ49 => gd (okO σ49 v0R 12) <| letT (sI σ49 v0R 17 r48) fun σ51 => L_Md_readLine_1 σ51) else (bnd (M_Md_faulty v0R (3 : Int32) σ8) fun _ σ54 => (some ((), σ54))))) else (gd (okO σ5 v0R 12) <| if (aI σ5 v0R 16) < 0 then (letT (sI σ5 v0R 7 ((aI σ5 v0R 7) + (1 : Int32))) fun σ56 => bnd (M_Md_takeNumber v0R (1 : Int32) (9 : Int32) σ56) fun r58 σ59 => gd (okO σ59 v0R 12) <| letT (sI σ59 v0R 16 r58) fun σ61 => L_Md_readLine_1 σ61) else (bnd (M_Md_faulty v0R (3 : Int32) σ5) fun _ σ64 => (some ((), σ64))))) else (gd (okO σ2 v0R 12) <| if (aI σ2 v0R 15) = (6 : Int32) then (bnd (M_Md_faulty v0R (5 : Int32) σ2) fun _ σ67 => (some ((), σ67))) else (letT (sI σ2 v0R 7 ((aI σ2 v0R 7) + (1 : Int32))) fun σ68 => bnd (M_Md_isName v0R σ68) fun r70 σ71 => if r70 = 0 then (gd (okO σ71 v0R 12) <| bnd (M_Md_faulty v0R (1 : Int32) σ71) fun _ σ73 => L_Md_readLine_1 σ73) else (gd (okO σ71 v0R 12) <| gd (okO σ71 (aR σ71 v0R 6) 102) <| gd (inB (aI σ71 v0R 7) (aN σ71 (aR σ71 v0R 6))) <| bnd (M_Md_nameOf v0R (aL σ71 (aR σ71 v0R 6) (aI σ71 v0R 7).toNatClampNeg) σ71) fun r78 σ79 => if r78 < 0 then (gd (okO σ79 v0R 12) <| gd (okO σ79 (aR σ79 v0R 19) 102) <| gd (okO σ79 (aR σ79 v0R 6) 102) <| gd (inB (aI σ79 v0R 7) (aN σ79 (aR σ79 v0R 6))) <| gd (inB (aI σ79 v0R 15) (aN σ79 (aR σ79 v0R 19))) <| letT (sL σ79 (aR σ79 v0R 19) (aI σ79 v0R 15).toNatClampNeg (aL σ79 (aR σ79 v0R 6) (aI σ79 v0R 7).toNatClampNeg)) fun σ85 => letT (sI σ85 v0R 15 ((aI σ85 v0R 15) + (1 : Int32))) fun σ87 => letT (sI σ87 v0R 7 ((aI σ87 v0R 7) + (1 : Int32))) fun σ89 => L_Md_readLine_1 σ89) else (gd (okO σ79 v0R 12) <| bnd (M_Md_faulty v0R (3 : Int32) σ79) fun _ σ92 => L_Md_readLine_1 σ92))))) := by
  unfold L_Md_readLine_0
  rw [lp_eq]
  show lpK (lp F_Md_readLine) (T_Md_readLine_0 v0R σ) = _
  unfold T_Md_readLine_0
  simp only [lpK_ite, lq_inl, lq_inr, lpK_bnd, lpK_gd, lq_let]
  try rfl
set_option maxRecDepth 20000 in
theorem E_Md_readLine_1  (σ : AM) : L_Md_readLine_1  σ = ((some ((), σ))) := by
  unfold L_Md_readLine_1
  rw [lp_eq]
  show lpK (lp F_Md_readLine) (T_Md_readLine_1  σ) = _
  unfold T_Md_readLine_1
  simp only [lpK_ite, lq_inl, lq_inr, lpK_bnd, lpK_gd, lq_let]
  try rfl
noncomputable def M_Md_readLine (v0R : Nat) (σ : AM) : Option (Unit × AM) := mw σ (L_Md_readLine_0 v0R σ)
def I_Md_readLine (G : GX) (p : Program) (l : Launch) (e : Env) (s : State) (m : MethodId) (args : Array Value) (below : List Frame) (meth : Method) (c : Code) (z0 u0 n : Nat) : Prop :=
  (∀ (v0R : Nat) (σ : AM), VX (QM eV G args s below z0 u0) G p l e s m args below meth c 84 z0 u0 1 (lpn F_Md_readLine n (0, v0R, σ)) 0 [(0, .ref v0R)] [] σ) ∧
  (∀ (σ : AM), VX (QM eV G args s below z0 u0) G p l e s m args below meth c 84 z0 u0 1 (lpn F_Md_readLine n (1, 0, σ)) 326 [] [] σ)
set_option maxRecDepth 20000 in
theorem s_Md_readLine_0 {G : GX} {p : Program} {l : Launch} {e : Env} {s : State} {m : MethodId} {args : Array Value} {below : List Frame} {meth : Method} {c : Code} {z0 u0 n : Nat} (C : Cx G p s m args meth c prog_14_method_23_code 1 "BellPlateModel" ((none))) (IH : I_Md_readLine G p l e s m args below meth c z0 u0 n) (v0R : Nat) (σ : AM) : VX (QM eV G args s below z0 u0) G p l e s m args below meth c 84 z0 u0 1 (lpK (lpn F_Md_readLine n) (T_Md_readLine_0 v0R σ)) 0 [(0, .ref v0R)] [] σ := by
  unfold T_Md_readLine_0
  refine x_aload_n C d_Md_readLine_0 0 rfl ?_
  refine x_iconst (v := (0 : Int32)) C d_Md_readLine_1 (by decide) ?_
  refine x_gd (fun h3 => ?_)
  refine x_callVI (As := [.int (0 : Int32)]) C (c_Md_isWord G l v0R (0 : Int32) σ) (okO_iff.mp h3) rfl w2110 w66 w2108 w2111 w134 k_Md_isWord rfl (by decide) (by decide) rfl (Nat.le_of_ble_eq_true rfl) d_Md_readLine_2 (fun r1 σ2 => ?_)
  refine x_if_eq (tgt := 113) C d_Md_readLine_5 (by decide) (fun _ => ?_) (fun _ => ?_)
  · refine x_aload_n C d_Md_readLine_113 0 rfl ?_
    refine x_iconst (v := (1 : Int32)) C d_Md_readLine_114 (by decide) ?_
    refine x_gd (fun h6 => ?_)
    refine x_callVI (As := [.int (1 : Int32)]) C (c_Md_isWord G l v0R (1 : Int32) σ2) (okO_iff.mp h6) rfl w2110 w66 w2108 w2111 w134 k_Md_isWord rfl (by decide) (by decide) rfl (Nat.le_of_ble_eq_true rfl) d_Md_readLine_115 (fun r4 σ5 => ?_)
    refine x_if_eq (tgt := 158) C d_Md_readLine_118 (by decide) (fun _ => ?_) (fun _ => ?_)
    · refine x_aload_n C d_Md_readLine_158 0 rfl ?_
      refine x_iconst (v := (2 : Int32)) C d_Md_readLine_159 (by decide) ?_
      refine x_gd (fun h9 => ?_)
      refine x_callVI (As := [.int (2 : Int32)]) C (c_Md_isWord G l v0R (2 : Int32) σ5) (okO_iff.mp h9) rfl w2110 w66 w2108 w2111 w134 k_Md_isWord rfl (by decide) (by decide) rfl (Nat.le_of_ble_eq_true rfl) d_Md_readLine_160 (fun r7 σ8 => ?_)
      refine x_if_eq (tgt := 203) C d_Md_readLine_163 (by decide) (fun _ => ?_) (fun _ => ?_)
      · refine x_aload_n C d_Md_readLine_203 0 rfl ?_
        refine x_iconst (v := (3 : Int32)) C d_Md_readLine_204 (by decide) ?_
        refine x_gd (fun h12 => ?_)
        refine x_callVI (As := [.int (3 : Int32)]) C (c_Md_isWord G l v0R (3 : Int32) σ8) (okO_iff.mp h12) rfl w2110 w66 w2108 w2111 w134 k_Md_isWord rfl (by decide) (by decide) rfl (Nat.le_of_ble_eq_true rfl) d_Md_readLine_205 (fun r10 σ11 => ?_)
        refine x_if_eq (tgt := 268) C d_Md_readLine_208 (by decide) (fun _ => ?_) (fun _ => ?_)
        · refine x_aload_n C d_Md_readLine_268 0 rfl ?_
          refine x_iconst (v := (4 : Int32)) C d_Md_readLine_269 (by decide) ?_
          refine x_gd (fun h15 => ?_)
          refine x_callVI (As := [.int (4 : Int32)]) C (c_Md_isWord G l v0R (4 : Int32) σ11) (okO_iff.mp h15) rfl w2110 w66 w2108 w2111 w134 k_Md_isWord rfl (by decide) (by decide) rfl (Nat.le_of_ble_eq_true rfl) d_Md_readLine_270 (fun r13 σ14 => ?_)
          refine x_if_eq (tgt := 321) C d_Md_readLine_273 (by decide) (fun _ => ?_) (fun _ => ?_)
          · refine x_aload_n C d_Md_readLine_321 0 rfl ?_
            refine x_iconst (v := (1 : Int32)) C d_Md_readLine_322 (by decide) ?_
            refine x_gd (fun h18 => ?_)
            refine x_callVV (As := [.int (1 : Int32)]) C (c_Md_faulty G l v0R (1 : Int32) σ14) (okO_iff.mp h18) rfl w2114 w67 w2112 w2115 w134 k_Md_faulty rfl (by decide) (by decide) rfl (Nat.le_of_ble_eq_true rfl) d_Md_readLine_323 (fun r16 σ17 => ?_)
            refine x_lv [] rfl ?_
            exact IH.2  (σ17)
          · refine x_aload_n C d_Md_readLine_276 0 rfl ?_
            refine x_gd (fun h19 => ?_)
            refine x_gd (fun h20 => ?_)
            refine x_getR (k := 14) (kv := 101) C (okO_iff.mp h19) rfl j11_ok (by decide) rfl (okO_iff.mp h20) (by decide) w1866 d_Md_readLine_277 ?_
            refine x_bipush (v := (9 : Int32)) C d_Md_readLine_280 (by decide) ?_
            refine x_gd (fun h21 => ?_)
            refine x_aldI C (okO_iff.mp h20) (inB_iff.mp h21) d_Md_readLine_282 ?_
            refine x_if_lt (tgt := 292) C d_Md_readLine_283 (by decide) (fun _ => ?_) (fun _ => ?_)
            · refine x_aload_n C d_Md_readLine_292 0 rfl ?_
              refine x_dup C d_Md_readLine_293 rfl ?_
              refine x_getI (k := 7) C (okO_iff.mp h19) rfl j11_ok (by decide) rfl w1859 d_Md_readLine_294 ?_
              refine x_iconst (v := (1 : Int32)) C d_Md_readLine_297 (by decide) ?_
              refine x_iadd C d_Md_readLine_298 ?_
              refine x_putI (k := 7) C (okO_iff.mp h19) rfl j11_ok y11_ok n11_ok (by decide) rfl rfl rfl rfl w1859 d_Md_readLine_299 ?_
              refine x_letS (fun σ22 e23 => ?_)
              refine x_aload_n C d_Md_readLine_302 0 rfl ?_
              refine x_gd (fun h24 => ?_)
              refine x_getR (k := 14) (kv := 101) C (by first | exact (okO_iff.mp h19) | (rw [e23]; exact (okO_iff.mp h19))) rfl j11_ok (by decide) rfl (okO_iff.mp h24) (by decide) w1866 d_Md_readLine_303 ?_
              refine x_bipush (v := (9 : Int32)) C d_Md_readLine_306 (by decide) ?_
              refine x_aload_n C d_Md_readLine_308 0 rfl ?_
              refine x_getI (k := 22) C (by first | exact (okO_iff.mp h19) | (rw [e23]; exact (okO_iff.mp h19))) rfl j11_ok (by decide) rfl w1874 d_Md_readLine_309 ?_
              refine x_gd (fun h25 => ?_)
              refine x_astI C (okO_iff.mp h24) (inB_iff.mp h25) d_Md_readLine_312 ?_
              refine x_letS (fun σ26 e27 => ?_)
              refine x_aload_n C d_Md_readLine_313 0 rfl ?_
              refine x_iconst (v := (0 : Int32)) C d_Md_readLine_314 (by decide) ?_
              refine x_callVV (As := [.int (0 : Int32)]) C (c_Md_readWhole G l v0R (0 : Int32) σ26) (by first | exact (okO_iff.mp h19) | (rw [e27, e23]; exact (okO_iff.mp h19))) rfl w2130 w71 w2128 w2131 w134 k_Md_readWhole rfl (by decide) (by decide) rfl (Nat.le_of_ble_eq_true rfl) d_Md_readLine_315 (fun r28 σ29 => ?_)
              refine x_goto (tgt := 326) C d_Md_readLine_318 (by decide) ?_
              refine x_lv [] rfl ?_
              exact IH.2  (σ29)
            · refine x_aload_n C d_Md_readLine_286 0 rfl ?_
              refine x_iconst (v := (3 : Int32)) C d_Md_readLine_287 (by decide) ?_
              refine x_callVV (As := [.int (3 : Int32)]) C (c_Md_faulty G l v0R (3 : Int32) σ14) (okO_iff.mp h19) rfl w2114 w67 w2112 w2115 w134 k_Md_faulty rfl (by decide) (by decide) rfl (Nat.le_of_ble_eq_true rfl) d_Md_readLine_288 (fun r30 σ31 => ?_)
              exact x_vret C d_Md_readLine_291
        · refine x_aload_n C d_Md_readLine_211 0 rfl ?_
          refine x_gd (fun h32 => ?_)
          refine x_getI (k := 18) C (okO_iff.mp h32) rfl j11_ok (by decide) rfl w1870 d_Md_readLine_212 ?_
          refine x_iconst (v := (4 : Int32)) C d_Md_readLine_215 (by decide) ?_
          refine x_icmp_ne (tgt := 225) C d_Md_readLine_216 (by decide) (fun _ => ?_) (fun _ => ?_)
          · refine x_aload_n C d_Md_readLine_219 0 rfl ?_
            refine x_iconst (v := (5 : Int32)) C d_Md_readLine_220 (by decide) ?_
            refine x_callVV (As := [.int (5 : Int32)]) C (c_Md_faulty G l v0R (5 : Int32) σ11) (okO_iff.mp h32) rfl w2114 w67 w2112 w2115 w134 k_Md_faulty rfl (by decide) (by decide) rfl (Nat.le_of_ble_eq_true rfl) d_Md_readLine_221 (fun r33 σ34 => ?_)
            exact x_vret C d_Md_readLine_224
          · refine x_aload_n C d_Md_readLine_225 0 rfl ?_
            refine x_dup C d_Md_readLine_226 rfl ?_
            refine x_getI (k := 7) C (okO_iff.mp h32) rfl j11_ok (by decide) rfl w1859 d_Md_readLine_227 ?_
            refine x_iconst (v := (1 : Int32)) C d_Md_readLine_230 (by decide) ?_
            refine x_iadd C d_Md_readLine_231 ?_
            refine x_putI (k := 7) C (okO_iff.mp h32) rfl j11_ok y11_ok n11_ok (by decide) rfl rfl rfl rfl w1859 d_Md_readLine_232 ?_
            refine x_letS (fun σ35 e36 => ?_)
            refine x_aload_n C d_Md_readLine_235 0 rfl ?_
            refine x_gd (fun h37 => ?_)
            refine x_getR (k := 14) (kv := 101) C (by first | exact (okO_iff.mp h32) | (rw [e36]; exact (okO_iff.mp h32))) rfl j11_ok (by decide) rfl (okO_iff.mp h37) (by decide) w1866 d_Md_readLine_236 ?_
            refine x_iconst (v := (5 : Int32)) C d_Md_readLine_239 (by decide) ?_
            refine x_aload_n C d_Md_readLine_240 0 rfl ?_
            refine x_getI (k := 18) C (by first | exact (okO_iff.mp h32) | (rw [e36]; exact (okO_iff.mp h32))) rfl j11_ok (by decide) rfl w1870 d_Md_readLine_241 ?_
            refine x_iadd C d_Md_readLine_244 ?_
            refine x_aload_n C d_Md_readLine_245 0 rfl ?_
            refine x_getI (k := 22) C (by first | exact (okO_iff.mp h32) | (rw [e36]; exact (okO_iff.mp h32))) rfl j11_ok (by decide) rfl w1874 d_Md_readLine_246 ?_
            refine x_gd (fun h38 => ?_)
            refine x_astI C (okO_iff.mp h37) (inB_iff.mp h38) d_Md_readLine_249 ?_
            refine x_letS (fun σ39 e40 => ?_)
            refine x_aload_n C d_Md_readLine_250 0 rfl ?_
            refine x_dup C d_Md_readLine_251 rfl ?_
            refine x_getI (k := 18) C (by first | exact (okO_iff.mp h32) | (rw [e40, e36]; exact (okO_iff.mp h32))) rfl j11_ok (by decide) rfl w1870 d_Md_readLine_252 ?_
            refine x_iconst (v := (1 : Int32)) C d_Md_readLine_255 (by decide) ?_
            refine x_iadd C d_Md_readLine_256 ?_
            refine x_putI (k := 18) C (by first | exact (okO_iff.mp h32) | (rw [e40, e36]; exact (okO_iff.mp h32))) rfl j11_ok y11_ok n11_ok (by decide) rfl rfl rfl rfl w1870 d_Md_readLine_257 ?_
            refine x_letS (fun σ41 e42 => ?_)
            refine x_aload_n C d_Md_readLine_260 0 rfl ?_
            refine x_iconst (v := (1 : Int32)) C d_Md_readLine_261 (by decide) ?_
            refine x_callVV (As := [.int (1 : Int32)]) C (c_Md_readWhole G l v0R (1 : Int32) σ41) (by first | exact (okO_iff.mp h32) | (rw [e42, e40, e36]; exact (okO_iff.mp h32))) rfl w2130 w71 w2128 w2131 w134 k_Md_readWhole rfl (by decide) (by decide) rfl (Nat.le_of_ble_eq_true rfl) d_Md_readLine_262 (fun r43 σ44 => ?_)
            refine x_goto (tgt := 326) C d_Md_readLine_265 (by decide) ?_
            refine x_lv [] rfl ?_
            exact IH.2  (σ44)
      · refine x_aload_n C d_Md_readLine_166 0 rfl ?_
        refine x_gd (fun h45 => ?_)
        refine x_getI (k := 17) C (okO_iff.mp h45) rfl j11_ok (by decide) rfl w1869 d_Md_readLine_167 ?_
        refine x_if_lt (tgt := 179) C d_Md_readLine_170 (by decide) (fun _ => ?_) (fun _ => ?_)
        · refine x_aload_n C d_Md_readLine_179 0 rfl ?_
          refine x_dup C d_Md_readLine_180 rfl ?_
          refine x_getI (k := 7) C (okO_iff.mp h45) rfl j11_ok (by decide) rfl w1859 d_Md_readLine_181 ?_
          refine x_iconst (v := (1 : Int32)) C d_Md_readLine_184 (by decide) ?_
          refine x_iadd C d_Md_readLine_185 ?_
          refine x_putI (k := 7) C (okO_iff.mp h45) rfl j11_ok y11_ok n11_ok (by decide) rfl rfl rfl rfl w1859 d_Md_readLine_186 ?_
          refine x_letS (fun σ46 e47 => ?_)
          refine x_aload_n C d_Md_readLine_189 0 rfl ?_
          refine x_aload_n C d_Md_readLine_190 0 rfl ?_
          refine x_iconst (v := (1 : Int32)) C d_Md_readLine_191 (by decide) ?_
          refine x_bipush (v := (60 : Int32)) C d_Md_readLine_192 (by decide) ?_
          refine x_callVI (As := [.int (1 : Int32), .int (60 : Int32)]) C (c_Md_takeNumber G l v0R (1 : Int32) (60 : Int32) σ46) (by first | exact (okO_iff.mp h45) | (rw [e47]; exact (okO_iff.mp h45))) rfl w2126 w70 w2124 w2127 w134 k_Md_takeNumber rfl (by decide) (by decide) rfl (Nat.le_of_ble_eq_true rfl) d_Md_readLine_194 (fun r48 σ49 => ?_)
          refine x_gd (fun h50 => ?_)
          refine x_putI (k := 17) C (okO_iff.mp h50) rfl j11_ok y11_ok n11_ok (by decide) rfl rfl rfl rfl w1869 d_Md_readLine_197 ?_
          refine x_letS (fun σ51 e52 => ?_)
          refine x_goto (tgt := 326) C d_Md_readLine_200 (by decide) ?_
          refine x_lv [] rfl ?_
          exact IH.2  (σ51)
        · refine x_aload_n C d_Md_readLine_173 0 rfl ?_
          refine x_iconst (v := (3 : Int32)) C d_Md_readLine_174 (by decide) ?_
          refine x_callVV (As := [.int (3 : Int32)]) C (c_Md_faulty G l v0R (3 : Int32) σ8) (okO_iff.mp h45) rfl w2114 w67 w2112 w2115 w134 k_Md_faulty rfl (by decide) (by decide) rfl (Nat.le_of_ble_eq_true rfl) d_Md_readLine_175 (fun r53 σ54 => ?_)
          exact x_vret C d_Md_readLine_178
    · refine x_aload_n C d_Md_readLine_121 0 rfl ?_
      refine x_gd (fun h55 => ?_)
      refine x_getI (k := 16) C (okO_iff.mp h55) rfl j11_ok (by decide) rfl w1868 d_Md_readLine_122 ?_
      refine x_if_lt (tgt := 134) C d_Md_readLine_125 (by decide) (fun _ => ?_) (fun _ => ?_)
      · refine x_aload_n C d_Md_readLine_134 0 rfl ?_
        refine x_dup C d_Md_readLine_135 rfl ?_
        refine x_getI (k := 7) C (okO_iff.mp h55) rfl j11_ok (by decide) rfl w1859 d_Md_readLine_136 ?_
        refine x_iconst (v := (1 : Int32)) C d_Md_readLine_139 (by decide) ?_
        refine x_iadd C d_Md_readLine_140 ?_
        refine x_putI (k := 7) C (okO_iff.mp h55) rfl j11_ok y11_ok n11_ok (by decide) rfl rfl rfl rfl w1859 d_Md_readLine_141 ?_
        refine x_letS (fun σ56 e57 => ?_)
        refine x_aload_n C d_Md_readLine_144 0 rfl ?_
        refine x_aload_n C d_Md_readLine_145 0 rfl ?_
        refine x_iconst (v := (1 : Int32)) C d_Md_readLine_146 (by decide) ?_
        refine x_bipush (v := (9 : Int32)) C d_Md_readLine_147 (by decide) ?_
        refine x_callVI (As := [.int (1 : Int32), .int (9 : Int32)]) C (c_Md_takeNumber G l v0R (1 : Int32) (9 : Int32) σ56) (by first | exact (okO_iff.mp h55) | (rw [e57]; exact (okO_iff.mp h55))) rfl w2126 w70 w2124 w2127 w134 k_Md_takeNumber rfl (by decide) (by decide) rfl (Nat.le_of_ble_eq_true rfl) d_Md_readLine_149 (fun r58 σ59 => ?_)
        refine x_gd (fun h60 => ?_)
        refine x_putI (k := 16) C (okO_iff.mp h60) rfl j11_ok y11_ok n11_ok (by decide) rfl rfl rfl rfl w1868 d_Md_readLine_152 ?_
        refine x_letS (fun σ61 e62 => ?_)
        refine x_goto (tgt := 326) C d_Md_readLine_155 (by decide) ?_
        refine x_lv [] rfl ?_
        exact IH.2  (σ61)
      · refine x_aload_n C d_Md_readLine_128 0 rfl ?_
        refine x_iconst (v := (3 : Int32)) C d_Md_readLine_129 (by decide) ?_
        refine x_callVV (As := [.int (3 : Int32)]) C (c_Md_faulty G l v0R (3 : Int32) σ5) (okO_iff.mp h55) rfl w2114 w67 w2112 w2115 w134 k_Md_faulty rfl (by decide) (by decide) rfl (Nat.le_of_ble_eq_true rfl) d_Md_readLine_130 (fun r63 σ64 => ?_)
        exact x_vret C d_Md_readLine_133
  · refine x_aload_n C d_Md_readLine_8 0 rfl ?_
    refine x_gd (fun h65 => ?_)
    refine x_getI (k := 15) C (okO_iff.mp h65) rfl j11_ok (by decide) rfl w1867 d_Md_readLine_9 ?_
    refine x_bipush (v := (6 : Int32)) C d_Md_readLine_12 (by decide) ?_
    refine x_icmp_ne (tgt := 23) C d_Md_readLine_14 (by decide) (fun _ => ?_) (fun _ => ?_)
    · refine x_aload_n C d_Md_readLine_17 0 rfl ?_
      refine x_iconst (v := (5 : Int32)) C d_Md_readLine_18 (by decide) ?_
      refine x_callVV (As := [.int (5 : Int32)]) C (c_Md_faulty G l v0R (5 : Int32) σ2) (okO_iff.mp h65) rfl w2114 w67 w2112 w2115 w134 k_Md_faulty rfl (by decide) (by decide) rfl (Nat.le_of_ble_eq_true rfl) d_Md_readLine_19 (fun r66 σ67 => ?_)
      exact x_vret C d_Md_readLine_22
    · refine x_aload_n C d_Md_readLine_23 0 rfl ?_
      refine x_dup C d_Md_readLine_24 rfl ?_
      refine x_getI (k := 7) C (okO_iff.mp h65) rfl j11_ok (by decide) rfl w1859 d_Md_readLine_25 ?_
      refine x_iconst (v := (1 : Int32)) C d_Md_readLine_28 (by decide) ?_
      refine x_iadd C d_Md_readLine_29 ?_
      refine x_putI (k := 7) C (okO_iff.mp h65) rfl j11_ok y11_ok n11_ok (by decide) rfl rfl rfl rfl w1859 d_Md_readLine_30 ?_
      refine x_letS (fun σ68 e69 => ?_)
      refine x_aload_n C d_Md_readLine_33 0 rfl ?_
      refine x_callVI (As := []) C (c_Md_isName G l v0R  σ68) (by first | exact (okO_iff.mp h65) | (rw [e69]; exact (okO_iff.mp h65))) rfl w2118 w68 w2116 w2119 w134 k_Md_isName rfl (by decide) (by decide) rfl (Nat.le_of_ble_eq_true rfl) d_Md_readLine_34 (fun r70 σ71 => ?_)
      refine x_if_ne (tgt := 48) C d_Md_readLine_37 (by decide) (fun _ => ?_) (fun _ => ?_)
      · refine x_aload_n C d_Md_readLine_40 0 rfl ?_
        refine x_iconst (v := (1 : Int32)) C d_Md_readLine_41 (by decide) ?_
        refine x_gd (fun h74 => ?_)
        refine x_callVV (As := [.int (1 : Int32)]) C (c_Md_faulty G l v0R (1 : Int32) σ71) (okO_iff.mp h74) rfl w2114 w67 w2112 w2115 w134 k_Md_faulty rfl (by decide) (by decide) rfl (Nat.le_of_ble_eq_true rfl) d_Md_readLine_42 (fun r72 σ73 => ?_)
        refine x_goto (tgt := 326) C d_Md_readLine_45 (by decide) ?_
        refine x_lv [] rfl ?_
        exact IH.2  (σ73)
      · refine x_aload_n C d_Md_readLine_48 0 rfl ?_
        refine x_aload_n C d_Md_readLine_49 0 rfl ?_
        refine x_gd (fun h75 => ?_)
        refine x_gd (fun h76 => ?_)
        refine x_getR (k := 6) (kv := 102) C (okO_iff.mp h75) rfl j11_ok (by decide) rfl (okO_iff.mp h76) (by decide) w1858 d_Md_readLine_50 ?_
        refine x_aload_n C d_Md_readLine_53 0 rfl ?_
        refine x_getI (k := 7) C (okO_iff.mp h75) rfl j11_ok (by decide) rfl w1859 d_Md_readLine_54 ?_
        refine x_gd (fun h77 => ?_)
        refine x_aldJ C (okO_iff.mp h76) (inB_iff.mp h77) d_Md_readLine_57 ?_
        refine x_callVI (As := [.long (aL σ71 (aR σ71 v0R 6) (aI σ71 v0R 7).toNatClampNeg)]) C (c_Md_nameOf G l v0R (aL σ71 (aR σ71 v0R 6) (aI σ71 v0R 7).toNatClampNeg) σ71) (okO_iff.mp h75) rfl w2122 w69 w2120 w2123 w134 k_Md_nameOf rfl (by decide) (by decide) rfl (Nat.le_of_ble_eq_true rfl) d_Md_readLine_58 (fun r78 σ79 => ?_)
        refine x_if_lt (tgt := 72) C d_Md_readLine_61 (by decide) (fun _ => ?_) (fun _ => ?_)
        · refine x_aload_n C d_Md_readLine_72 0 rfl ?_
          refine x_gd (fun h80 => ?_)
          refine x_gd (fun h81 => ?_)
          refine x_getR (k := 19) (kv := 102) C (okO_iff.mp h80) rfl j11_ok (by decide) rfl (okO_iff.mp h81) (by decide) w1871 d_Md_readLine_73 ?_
          refine x_aload_n C d_Md_readLine_76 0 rfl ?_
          refine x_getI (k := 15) C (okO_iff.mp h80) rfl j11_ok (by decide) rfl w1867 d_Md_readLine_77 ?_
          refine x_aload_n C d_Md_readLine_80 0 rfl ?_
          refine x_gd (fun h82 => ?_)
          refine x_getR (k := 6) (kv := 102) C (okO_iff.mp h80) rfl j11_ok (by decide) rfl (okO_iff.mp h82) (by decide) w1858 d_Md_readLine_81 ?_
          refine x_aload_n C d_Md_readLine_84 0 rfl ?_
          refine x_getI (k := 7) C (okO_iff.mp h80) rfl j11_ok (by decide) rfl w1859 d_Md_readLine_85 ?_
          refine x_gd (fun h83 => ?_)
          refine x_aldJ C (okO_iff.mp h82) (inB_iff.mp h83) d_Md_readLine_88 ?_
          refine x_gd (fun h84 => ?_)
          refine x_astJ C (okO_iff.mp h81) (inB_iff.mp h84) d_Md_readLine_89 ?_
          refine x_letS (fun σ85 e86 => ?_)
          refine x_aload_n C d_Md_readLine_90 0 rfl ?_
          refine x_dup C d_Md_readLine_91 rfl ?_
          refine x_getI (k := 15) C (by first | exact (okO_iff.mp h80) | (rw [e86]; exact (okO_iff.mp h80))) rfl j11_ok (by decide) rfl w1867 d_Md_readLine_92 ?_
          refine x_iconst (v := (1 : Int32)) C d_Md_readLine_95 (by decide) ?_
          refine x_iadd C d_Md_readLine_96 ?_
          refine x_putI (k := 15) C (by first | exact (okO_iff.mp h80) | (rw [e86]; exact (okO_iff.mp h80))) rfl j11_ok y11_ok n11_ok (by decide) rfl rfl rfl rfl w1867 d_Md_readLine_97 ?_
          refine x_letS (fun σ87 e88 => ?_)
          refine x_aload_n C d_Md_readLine_100 0 rfl ?_
          refine x_dup C d_Md_readLine_101 rfl ?_
          refine x_getI (k := 7) C (by first | exact (okO_iff.mp h80) | (rw [e88, e86]; exact (okO_iff.mp h80))) rfl j11_ok (by decide) rfl w1859 d_Md_readLine_102 ?_
          refine x_iconst (v := (1 : Int32)) C d_Md_readLine_105 (by decide) ?_
          refine x_iadd C d_Md_readLine_106 ?_
          refine x_putI (k := 7) C (by first | exact (okO_iff.mp h80) | (rw [e88, e86]; exact (okO_iff.mp h80))) rfl j11_ok y11_ok n11_ok (by decide) rfl rfl rfl rfl w1859 d_Md_readLine_107 ?_
          refine x_letS (fun σ89 e90 => ?_)
          refine x_goto (tgt := 326) C d_Md_readLine_110 (by decide) ?_
          refine x_lv [] rfl ?_
          exact IH.2  (σ89)
        · refine x_aload_n C d_Md_readLine_64 0 rfl ?_
          refine x_iconst (v := (3 : Int32)) C d_Md_readLine_65 (by decide) ?_
          refine x_gd (fun h93 => ?_)
          refine x_callVV (As := [.int (3 : Int32)]) C (c_Md_faulty G l v0R (3 : Int32) σ79) (okO_iff.mp h93) rfl w2114 w67 w2112 w2115 w134 k_Md_faulty rfl (by decide) (by decide) rfl (Nat.le_of_ble_eq_true rfl) d_Md_readLine_66 (fun r91 σ92 => ?_)
          refine x_goto (tgt := 326) C d_Md_readLine_69 (by decide) ?_
          refine x_lv [] rfl ?_
          exact IH.2  (σ92)
set_option maxRecDepth 20000 in
theorem s_Md_readLine_1 {G : GX} {p : Program} {l : Launch} {e : Env} {s : State} {m : MethodId} {args : Array Value} {below : List Frame} {meth : Method} {c : Code} {z0 u0 n : Nat} (C : Cx G p s m args meth c prog_14_method_23_code 1 "BellPlateModel" ((none))) (IH : I_Md_readLine G p l e s m args below meth c z0 u0 n)  (σ : AM) : VX (QM eV G args s below z0 u0) G p l e s m args below meth c 84 z0 u0 1 (lpK (lpn F_Md_readLine n) (T_Md_readLine_1  σ)) 326 [] [] σ := by
  unfold T_Md_readLine_1
  exact x_vret C d_Md_readLine_326
theorem i_Md_readLine {G : GX} {p : Program} {l : Launch} {e : Env} {s : State} {m : MethodId} {args : Array Value} {below : List Frame} {meth : Method} {c : Code} {z0 u0 : Nat} (C : Cx G p s m args meth c prog_14_method_23_code 1 "BellPlateModel" ((none))) (n : Nat) : I_Md_readLine G p l e s m args below meth c z0 u0 n := by
  induction n with
  | zero => exact ⟨fun _ _ => x_none, fun _ => x_none⟩
  | succ n IH => exact ⟨fun v0R σ => s_Md_readLine_0 C IH v0R σ, fun σ => s_Md_readLine_1 C IH σ⟩
theorem c_Md_readLine (G : GX) (l : Launch) (v0R : Nat) (σ : AM) : CT eV G l 84 y_Md_readLine prog_14_method_23_code 1 (none) [.ref v0R] σ (M_Md_readLine v0R σ) := by
  refine ct_of (by decide +kernel) (Nat.le_of_ble_eq_true rfl) (fun p e s m args below meth c C hin => ?_)
  refine x_lve (lv' := [(0, .ref v0R)]) rfl ?_
  intro r σ' h
  obtain ⟨n, hn⟩ := (lp_iff _ _ _).mp h
  exact (i_Md_readLine C n).1 v0R σ r σ' hn
/-! BellPlateModel.takesTower()V -/
abbrev y_Md_takesTower : MethodName := ⟨"BellPlateModel", "takesTower", "()V"⟩
theorem k_Md_takesTower : y_Md_takesTower.cls ≠ "java/lang/invoke/MethodHandle" ∧ y_Md_takesTower.cls ≠ "java/lang/invoke/VarHandle" ∧ (parseMethodDescriptor y_Md_takesTower.desc).map (fun d => d.parameters.length) = some 0 := by decide +kernel
theorem d_Md_takesTower_0 : decode prog_14_method_22_code 0 = .ok (.aload_n 0, 1) := by decide +kernel
theorem d_Md_takesTower_1 : decode prog_14_method_22_code 1 = .ok (.aload_n 0, 1) := by decide +kernel
theorem d_Md_takesTower_2 : decode prog_14_method_22_code 2 = .ok (.getfield 212, 3) := by decide +kernel
theorem d_Md_takesTower_5 : decode prog_14_method_22_code 5 = .ok (.putfield 239, 3) := by decide +kernel
theorem d_Md_takesTower_8 : decode prog_14_method_22_code 8 = .ok (.aload_n 0, 1) := by decide +kernel
theorem d_Md_takesTower_9 : decode prog_14_method_22_code 9 = .ok (.aload_n 0, 1) := by decide +kernel
theorem d_Md_takesTower_10 : decode prog_14_method_22_code 10 = .ok (.getfield 221, 3) := by decide +kernel
theorem d_Md_takesTower_13 : decode prog_14_method_22_code 13 = .ok (.ifCond .ge 7, 3) := by decide +kernel
theorem d_Md_takesTower_16 : decode prog_14_method_22_code 16 = .ok (.iconst 3, 1) := by decide +kernel
theorem d_Md_takesTower_17 : decode prog_14_method_22_code 17 = .ok (.goto 7, 3) := by decide +kernel
theorem d_Md_takesTower_20 : decode prog_14_method_22_code 20 = .ok (.aload_n 0, 1) := by decide +kernel
theorem d_Md_takesTower_21 : decode prog_14_method_22_code 21 = .ok (.getfield 221, 3) := by decide +kernel
theorem d_Md_takesTower_24 : decode prog_14_method_22_code 24 = .ok (.putfield 161, 3) := by decide +kernel
theorem d_Md_takesTower_27 : decode prog_14_method_22_code 27 = .ok (.aload_n 0, 1) := by decide +kernel
theorem d_Md_takesTower_28 : decode prog_14_method_22_code 28 = .ok (.aload_n 0, 1) := by decide +kernel
theorem d_Md_takesTower_29 : decode prog_14_method_22_code 29 = .ok (.getfield 224, 3) := by decide +kernel
theorem d_Md_takesTower_32 : decode prog_14_method_22_code 32 = .ok (.ifCond .ge 8, 3) := by decide +kernel
theorem d_Md_takesTower_35 : decode prog_14_method_22_code 35 = .ok (.bipush 10, 2) := by decide +kernel
theorem d_Md_takesTower_37 : decode prog_14_method_22_code 37 = .ok (.goto 7, 3) := by decide +kernel
theorem d_Md_takesTower_40 : decode prog_14_method_22_code 40 = .ok (.aload_n 0, 1) := by decide +kernel
theorem d_Md_takesTower_41 : decode prog_14_method_22_code 41 = .ok (.getfield 224, 3) := by decide +kernel
theorem d_Md_takesTower_44 : decode prog_14_method_22_code 44 = .ok (.putfield 164, 3) := by decide +kernel
theorem d_Md_takesTower_47 : decode prog_14_method_22_code 47 = .ok (.aload_n 0, 1) := by decide +kernel
theorem d_Md_takesTower_48 : decode prog_14_method_22_code 48 = .ok (.aload_n 0, 1) := by decide +kernel
theorem d_Md_takesTower_49 : decode prog_14_method_22_code 49 = .ok (.getfield 227, 3) := by decide +kernel
theorem d_Md_takesTower_52 : decode prog_14_method_22_code 52 = .ok (.putfield 242, 3) := by decide +kernel
theorem d_Md_takesTower_55 : decode prog_14_method_22_code 55 = .ok (.iconst 0, 1) := by decide +kernel
theorem d_Md_takesTower_56 : decode prog_14_method_22_code 56 = .ok (.istore_n 1, 1) := by decide +kernel
theorem d_Md_takesTower_57 : decode prog_14_method_22_code 57 = .ok (.iload_n 1, 1) := by decide +kernel
theorem d_Md_takesTower_58 : decode prog_14_method_22_code 58 = .ok (.iconst 5, 1) := by decide +kernel
theorem d_Md_takesTower_59 : decode prog_14_method_22_code 59 = .ok (.if_icmp .ge 23, 3) := by decide +kernel
theorem d_Md_takesTower_62 : decode prog_14_method_22_code 62 = .ok (.aload_n 0, 1) := by decide +kernel
theorem d_Md_takesTower_63 : decode prog_14_method_22_code 63 = .ok (.getfield 57, 3) := by decide +kernel
theorem d_Md_takesTower_66 : decode prog_14_method_22_code 66 = .ok (.iload_n 1, 1) := by decide +kernel
theorem d_Md_takesTower_67 : decode prog_14_method_22_code 67 = .ok (.aload_n 0, 1) := by decide +kernel
theorem d_Md_takesTower_68 : decode prog_14_method_22_code 68 = .ok (.getfield 57, 3) := by decide +kernel
theorem d_Md_takesTower_71 : decode prog_14_method_22_code 71 = .ok (.iconst 5, 1) := by decide +kernel
theorem d_Md_takesTower_72 : decode prog_14_method_22_code 72 = .ok (.iload_n 1, 1) := by decide +kernel
theorem d_Md_takesTower_73 : decode prog_14_method_22_code 73 = .ok (.iadd, 1) := by decide +kernel
theorem d_Md_takesTower_74 : decode prog_14_method_22_code 74 = .ok (.iaload, 1) := by decide +kernel
theorem d_Md_takesTower_75 : decode prog_14_method_22_code 75 = .ok (.iastore, 1) := by decide +kernel
theorem d_Md_takesTower_76 : decode prog_14_method_22_code 76 = .ok (.iinc 1 1, 3) := by decide +kernel
theorem d_Md_takesTower_79 : decode prog_14_method_22_code 79 = .ok (.goto (-22), 3) := by decide +kernel
theorem d_Md_takesTower_82 : decode prog_14_method_22_code 82 = .ok (.iconst 0, 1) := by decide +kernel
theorem d_Md_takesTower_83 : decode prog_14_method_22_code 83 = .ok (.istore_n 1, 1) := by decide +kernel
theorem d_Md_takesTower_84 : decode prog_14_method_22_code 84 = .ok (.iload_n 1, 1) := by decide +kernel
theorem d_Md_takesTower_85 : decode prog_14_method_22_code 85 = .ok (.aload_n 0, 1) := by decide +kernel
theorem d_Md_takesTower_86 : decode prog_14_method_22_code 86 = .ok (.getfield 218, 3) := by decide +kernel
theorem d_Md_takesTower_89 : decode prog_14_method_22_code 89 = .ok (.if_icmp .ge 41, 3) := by decide +kernel
theorem d_Md_takesTower_92 : decode prog_14_method_22_code 92 = .ok (.aload_n 0, 1) := by decide +kernel
theorem d_Md_takesTower_93 : decode prog_14_method_22_code 93 = .ok (.getfield 63, 3) := by decide +kernel
theorem d_Md_takesTower_96 : decode prog_14_method_22_code 96 = .ok (.iload_n 1, 1) := by decide +kernel
theorem d_Md_takesTower_97 : decode prog_14_method_22_code 97 = .ok (.aload_n 0, 1) := by decide +kernel
theorem d_Md_takesTower_98 : decode prog_14_method_22_code 98 = .ok (.getfield 63, 3) := by decide +kernel
theorem d_Md_takesTower_101 : decode prog_14_method_22_code 101 = .ok (.sipush 1100, 3) := by decide +kernel
theorem d_Md_takesTower_104 : decode prog_14_method_22_code 104 = .ok (.iload_n 1, 1) := by decide +kernel
theorem d_Md_takesTower_105 : decode prog_14_method_22_code 105 = .ok (.iadd, 1) := by decide +kernel
theorem d_Md_takesTower_106 : decode prog_14_method_22_code 106 = .ok (.iaload, 1) := by decide +kernel
theorem d_Md_takesTower_107 : decode prog_14_method_22_code 107 = .ok (.iastore, 1) := by decide +kernel
theorem d_Md_takesTower_108 : decode prog_14_method_22_code 108 = .ok (.aload_n 0, 1) := by decide +kernel
theorem d_Md_takesTower_109 : decode prog_14_method_22_code 109 = .ok (.getfield 66, 3) := by decide +kernel
theorem d_Md_takesTower_112 : decode prog_14_method_22_code 112 = .ok (.iload_n 1, 1) := by decide +kernel
theorem d_Md_takesTower_113 : decode prog_14_method_22_code 113 = .ok (.aload_n 0, 1) := by decide +kernel
theorem d_Md_takesTower_114 : decode prog_14_method_22_code 114 = .ok (.getfield 66, 3) := by decide +kernel
theorem d_Md_takesTower_117 : decode prog_14_method_22_code 117 = .ok (.sipush 1100, 3) := by decide +kernel
theorem d_Md_takesTower_120 : decode prog_14_method_22_code 120 = .ok (.iload_n 1, 1) := by decide +kernel
theorem d_Md_takesTower_121 : decode prog_14_method_22_code 121 = .ok (.iadd, 1) := by decide +kernel
theorem d_Md_takesTower_122 : decode prog_14_method_22_code 122 = .ok (.iaload, 1) := by decide +kernel
theorem d_Md_takesTower_123 : decode prog_14_method_22_code 123 = .ok (.iastore, 1) := by decide +kernel
theorem d_Md_takesTower_124 : decode prog_14_method_22_code 124 = .ok (.iinc 1 1, 3) := by decide +kernel
theorem d_Md_takesTower_127 : decode prog_14_method_22_code 127 = .ok (.goto (-43), 3) := by decide +kernel
theorem d_Md_takesTower_130 : decode prog_14_method_22_code 130 = .ok (.aload_n 0, 1) := by decide +kernel
theorem d_Md_takesTower_131 : decode prog_14_method_22_code 131 = .ok (.iconst 0, 1) := by decide +kernel
theorem d_Md_takesTower_132 : decode prog_14_method_22_code 132 = .ok (.putfield 245, 3) := by decide +kernel
theorem d_Md_takesTower_135 : decode prog_14_method_22_code 135 = .ok (.aload_n 0, 1) := by decide +kernel
theorem d_Md_takesTower_136 : decode prog_14_method_22_code 136 = .ok (.iconst 0, 1) := by decide +kernel
theorem d_Md_takesTower_137 : decode prog_14_method_22_code 137 = .ok (.putfield 248, 3) := by decide +kernel
theorem d_Md_takesTower_140 : decode prog_14_method_22_code 140 = .ok (.aload_n 0, 1) := by decide +kernel
theorem d_Md_takesTower_141 : decode prog_14_method_22_code 141 = .ok (.iconst 0, 1) := by decide +kernel
theorem d_Md_takesTower_142 : decode prog_14_method_22_code 142 = .ok (.putfield 251, 3) := by decide +kernel
theorem d_Md_takesTower_145 : decode prog_14_method_22_code 145 = .ok (.aload_n 0, 1) := by decide +kernel
theorem d_Md_takesTower_146 : decode prog_14_method_22_code 146 = .ok (.iconst 0, 1) := by decide +kernel
theorem d_Md_takesTower_147 : decode prog_14_method_22_code 147 = .ok (.putfield 254, 3) := by decide +kernel
theorem d_Md_takesTower_150 : decode prog_14_method_22_code 150 = .ok (.iconst 0, 1) := by decide +kernel
theorem d_Md_takesTower_151 : decode prog_14_method_22_code 151 = .ok (.istore_n 1, 1) := by decide +kernel
theorem d_Md_takesTower_152 : decode prog_14_method_22_code 152 = .ok (.iload_n 1, 1) := by decide +kernel
theorem d_Md_takesTower_153 : decode prog_14_method_22_code 153 = .ok (.iconst 4, 1) := by decide +kernel
theorem d_Md_takesTower_154 : decode prog_14_method_22_code 154 = .ok (.if_icmp .ge 16, 3) := by decide +kernel
theorem d_Md_takesTower_157 : decode prog_14_method_22_code 157 = .ok (.aload_n 0, 1) := by decide +kernel
theorem d_Md_takesTower_158 : decode prog_14_method_22_code 158 = .ok (.getfield 152, 3) := by decide +kernel
theorem d_Md_takesTower_161 : decode prog_14_method_22_code 161 = .ok (.iload_n 1, 1) := by decide +kernel
theorem d_Md_takesTower_162 : decode prog_14_method_22_code 162 = .ok (.iconst 0, 1) := by decide +kernel
theorem d_Md_takesTower_163 : decode prog_14_method_22_code 163 = .ok (.iastore, 1) := by decide +kernel
theorem d_Md_takesTower_164 : decode prog_14_method_22_code 164 = .ok (.iinc 1 1, 3) := by decide +kernel
theorem d_Md_takesTower_167 : decode prog_14_method_22_code 167 = .ok (.goto (-15), 3) := by decide +kernel
theorem d_Md_takesTower_170 : decode prog_14_method_22_code 170 = .ok (.aload_n 0, 1) := by decide +kernel
theorem d_Md_takesTower_171 : decode prog_14_method_22_code 171 = .ok (.invokevirtual 167, 3) := by decide +kernel
theorem d_Md_takesTower_174 : decode prog_14_method_22_code 174 = .ok (.return_, 1) := by decide +kernel
abbrev S_Md_takesTower : Type := Nat × Nat × Int32 × Nat × Int32 × AM
noncomputable def T_Md_takesTower_0 (v0R : Nat) (σ : AM) : S_Md_takesTower ⊕ Option (Unit × AM) :=
  gdT (okO σ v0R 12) <| letT (sI σ v0R 10 (aI σ v0R 15)) fun σ2 => if (aI σ2 v0R 16) < 0 then (.inl (1, v0R, 0, v0R, (3 : Int32), σ2)) else (.inl (1, v0R, 0, v0R, aI σ2 v0R 16, σ2))
noncomputable def T_Md_takesTower_1 (v0R : Nat) (s0R : Nat) (s1I : Int32) (σ : AM) : S_Md_takesTower ⊕ Option (Unit × AM) :=
  gdT (okO σ s0R 12) <| letT (sI σ s0R 11 s1I) fun σ2 => gdT (okO σ2 v0R 12) <| if (aI σ2 v0R 17) < 0 then (.inl (2, v0R, 0, v0R, (10 : Int32), σ2)) else (.inl (2, v0R, 0, v0R, aI σ2 v0R 17, σ2))
noncomputable def T_Md_takesTower_2 (v0R : Nat) (s0R : Nat) (s1I : Int32) (σ : AM) : S_Md_takesTower ⊕ Option (Unit × AM) :=
  gdT (okO σ s0R 12) <| letT (sI σ s0R 12 s1I) fun σ2 => gdT (okO σ2 v0R 12) <| letT (sI σ2 v0R 13 (aI σ2 v0R 18)) fun σ5 => .inl (3, v0R, (0 : Int32), 0, 0, σ5)
noncomputable def T_Md_takesTower_3 (v0R : Nat) (v1I : Int32) (σ : AM) : S_Md_takesTower ⊕ Option (Unit × AM) :=
  if v1I < (5 : Int32) then (gdT (okO σ v0R 12) <| gdT (okO σ (aR σ v0R 14) 101) <| gdT (inB ((5 : Int32) + v1I) (aN σ (aR σ v0R 14))) <| gdT (inB v1I (aN σ (aR σ v0R 14))) <| letT (sI σ (aR σ v0R 14) v1I.toNatClampNeg (aI σ (aR σ v0R 14) ((5 : Int32) + v1I).toNatClampNeg)) fun σ5 => .inl (3, v0R, v1I + (1 : Int32), 0, 0, σ5)) else (.inl (4, v0R, (0 : Int32), 0, 0, σ))
noncomputable def T_Md_takesTower_4 (v0R : Nat) (v1I : Int32) (σ : AM) : S_Md_takesTower ⊕ Option (Unit × AM) :=
  gdT (okO σ v0R 12) <| if v1I < (aI σ v0R 22) then (gdT (okO σ (aR σ v0R 20) 101) <| gdT (inB ((1100 : Int32) + v1I) (aN σ (aR σ v0R 20))) <| gdT (inB v1I (aN σ (aR σ v0R 20))) <| letT (sI σ (aR σ v0R 20) v1I.toNatClampNeg (aI σ (aR σ v0R 20) ((1100 : Int32) + v1I).toNatClampNeg)) fun σ5 => gdT (okO σ5 (aR σ5 v0R 21) 101) <| gdT (inB ((1100 : Int32) + v1I) (aN σ5 (aR σ5 v0R 21))) <| gdT (inB v1I (aN σ5 (aR σ5 v0R 21))) <| letT (sI σ5 (aR σ5 v0R 21) v1I.toNatClampNeg (aI σ5 (aR σ5 v0R 21) ((1100 : Int32) + v1I).toNatClampNeg)) fun σ10 => .inl (4, v0R, v1I + (1 : Int32), 0, 0, σ10)) else (letT (sI σ v0R 37 (0 : Int32)) fun σ12 => letT (sI σ12 v0R 42 (0 : Int32)) fun σ14 => letT (sI σ14 v0R 70 (0 : Int32)) fun σ16 => letT (sI σ16 v0R 72 (0 : Int32)) fun σ18 => .inl (5, v0R, (0 : Int32), 0, 0, σ18))
noncomputable def T_Md_takesTower_5 (v0R : Nat) (v1I : Int32) (σ : AM) : S_Md_takesTower ⊕ Option (Unit × AM) :=
  if v1I < (4 : Int32) then (gdT (okO σ v0R 12) <| gdT (okO σ (aR σ v0R 73) 101) <| gdT (inB v1I (aN σ (aR σ v0R 73))) <| letT (sI σ (aR σ v0R 73) v1I.toNatClampNeg (0 : Int32)) fun σ4 => .inl (5, v0R, v1I + (1 : Int32), 0, 0, σ4)) else (gdT (okO σ v0R 12) <| bndT (M_Md_laysAll v0R σ) fun _ σ7 => .inr (some ((), σ7)))
noncomputable def F_Md_takesTower : S_Md_takesTower → S_Md_takesTower ⊕ Option (Unit × AM) := fun s => match s.1 with
  | 0 => T_Md_takesTower_0 (s.2.1) (s.2.2.2.2.2)
  | 1 => T_Md_takesTower_1 (s.2.1) (s.2.2.2.1) (s.2.2.2.2.1) (s.2.2.2.2.2)
  | 2 => T_Md_takesTower_2 (s.2.1) (s.2.2.2.1) (s.2.2.2.2.1) (s.2.2.2.2.2)
  | 3 => T_Md_takesTower_3 (s.2.1) (s.2.2.1) (s.2.2.2.2.2)
  | 4 => T_Md_takesTower_4 (s.2.1) (s.2.2.1) (s.2.2.2.2.2)
  | _ => T_Md_takesTower_5 (s.2.1) (s.2.2.1) (s.2.2.2.2.2)
noncomputable def L_Md_takesTower_0 (v0R : Nat) (σ : AM) : Option (Unit × AM) := lp F_Md_takesTower (0, v0R, 0, 0, 0, σ)
noncomputable def L_Md_takesTower_1 (v0R : Nat) (s0R : Nat) (s1I : Int32) (σ : AM) : Option (Unit × AM) := lp F_Md_takesTower (1, v0R, 0, s0R, s1I, σ)
noncomputable def L_Md_takesTower_2 (v0R : Nat) (s0R : Nat) (s1I : Int32) (σ : AM) : Option (Unit × AM) := lp F_Md_takesTower (2, v0R, 0, s0R, s1I, σ)
noncomputable def L_Md_takesTower_3 (v0R : Nat) (v1I : Int32) (σ : AM) : Option (Unit × AM) := lp F_Md_takesTower (3, v0R, v1I, 0, 0, σ)
noncomputable def L_Md_takesTower_4 (v0R : Nat) (v1I : Int32) (σ : AM) : Option (Unit × AM) := lp F_Md_takesTower (4, v0R, v1I, 0, 0, σ)
noncomputable def L_Md_takesTower_5 (v0R : Nat) (v1I : Int32) (σ : AM) : Option (Unit × AM) := lp F_Md_takesTower (5, v0R, v1I, 0, 0, σ)
set_option maxRecDepth 20000 in
theorem E_Md_takesTower_0 (v0R : Nat) (σ : AM) : L_Md_takesTower_0 v0R σ = (gd (okO σ v0R 12) <| letT (sI σ v0R 10 (aI σ v0R 15)) fun σ2 => if (aI σ2 v0R 16) < 0 then (L_Md_takesTower_1 v0R v0R ((3 : Int32)) σ2) else (L_Md_takesTower_1 v0R v0R (aI σ2 v0R 16) σ2)) := by
  unfold L_Md_takesTower_0
  rw [lp_eq]
  show lpK (lp F_Md_takesTower) (T_Md_takesTower_0 v0R σ) = _
  unfold T_Md_takesTower_0
  simp only [lpK_ite, lq_inl, lq_inr, lpK_bnd, lpK_gd, lq_let]
  try rfl
set_option maxRecDepth 20000 in
theorem E_Md_takesTower_1 (v0R : Nat) (s0R : Nat) (s1I : Int32) (σ : AM) : L_Md_takesTower_1 v0R s0R s1I σ = (gd (okO σ s0R 12) <| letT (sI σ s0R 11 s1I) fun σ2 => gd (okO σ2 v0R 12) <| if (aI σ2 v0R 17) < 0 then (L_Md_takesTower_2 v0R v0R ((10 : Int32)) σ2) else (L_Md_takesTower_2 v0R v0R (aI σ2 v0R 17) σ2)) := by
  unfold L_Md_takesTower_1
  rw [lp_eq]
  show lpK (lp F_Md_takesTower) (T_Md_takesTower_1 v0R s0R s1I σ) = _
  unfold T_Md_takesTower_1
  simp only [lpK_ite, lq_inl, lq_inr, lpK_bnd, lpK_gd, lq_let]
  try rfl
set_option maxRecDepth 20000 in
theorem E_Md_takesTower_2 (v0R : Nat) (s0R : Nat) (s1I : Int32) (σ : AM) : L_Md_takesTower_2 v0R s0R s1I σ = (gd (okO σ s0R 12) <| letT (sI σ s0R 12 s1I) fun σ2 => gd (okO σ2 v0R 12) <| letT (sI σ2 v0R 13 (aI σ2 v0R 18)) fun σ5 => L_Md_takesTower_3 v0R ((0 : Int32)) σ5) := by
  unfold L_Md_takesTower_2
  rw [lp_eq]
  show lpK (lp F_Md_takesTower) (T_Md_takesTower_2 v0R s0R s1I σ) = _
  unfold T_Md_takesTower_2
  simp only [lpK_ite, lq_inl, lq_inr, lpK_bnd, lpK_gd, lq_let]
  try rfl
set_option maxRecDepth 20000 in
theorem E_Md_takesTower_3 (v0R : Nat) (v1I : Int32) (σ : AM) : L_Md_takesTower_3 v0R v1I σ = (if v1I < (5 : Int32) then (gd (okO σ v0R 12) <| gd (okO σ (aR σ v0R 14) 101) <| gd (inB ((5 : Int32) + v1I) (aN σ (aR σ v0R 14))) <| gd (inB v1I (aN σ (aR σ v0R 14))) <| letT (sI σ (aR σ v0R 14) v1I.toNatClampNeg (aI σ (aR σ v0R 14) ((5 : Int32) + v1I).toNatClampNeg)) fun σ5 => L_Md_takesTower_3 v0R (v1I + (1 : Int32)) σ5) else (L_Md_takesTower_4 v0R ((0 : Int32)) σ)) := by
  unfold L_Md_takesTower_3
  rw [lp_eq]
  show lpK (lp F_Md_takesTower) (T_Md_takesTower_3 v0R v1I σ) = _
  unfold T_Md_takesTower_3
  simp only [lpK_ite, lq_inl, lq_inr, lpK_bnd, lpK_gd, lq_let]
  try rfl
set_option maxRecDepth 20000 in
theorem E_Md_takesTower_4 (v0R : Nat) (v1I : Int32) (σ : AM) : L_Md_takesTower_4 v0R v1I σ = (gd (okO σ v0R 12) <| if v1I < (aI σ v0R 22) then (gd (okO σ (aR σ v0R 20) 101) <| gd (inB ((1100 : Int32) + v1I) (aN σ (aR σ v0R 20))) <| gd (inB v1I (aN σ (aR σ v0R 20))) <| letT (sI σ (aR σ v0R 20) v1I.toNatClampNeg (aI σ (aR σ v0R 20) ((1100 : Int32) + v1I).toNatClampNeg)) fun σ5 => gd (okO σ5 (aR σ5 v0R 21) 101) <| gd (inB ((1100 : Int32) + v1I) (aN σ5 (aR σ5 v0R 21))) <| gd (inB v1I (aN σ5 (aR σ5 v0R 21))) <| letT (sI σ5 (aR σ5 v0R 21) v1I.toNatClampNeg (aI σ5 (aR σ5 v0R 21) ((1100 : Int32) + v1I).toNatClampNeg)) fun σ10 => L_Md_takesTower_4 v0R (v1I + (1 : Int32)) σ10) else (letT (sI σ v0R 37 (0 : Int32)) fun σ12 => letT (sI σ12 v0R 42 (0 : Int32)) fun σ14 => letT (sI σ14 v0R 70 (0 : Int32)) fun σ16 => letT (sI σ16 v0R 72 (0 : Int32)) fun σ18 => L_Md_takesTower_5 v0R ((0 : Int32)) σ18)) := by
  unfold L_Md_takesTower_4
  rw [lp_eq]
  show lpK (lp F_Md_takesTower) (T_Md_takesTower_4 v0R v1I σ) = _
  unfold T_Md_takesTower_4
  simp only [lpK_ite, lq_inl, lq_inr, lpK_bnd, lpK_gd, lq_let]
  try rfl
set_option maxRecDepth 20000 in
theorem E_Md_takesTower_5 (v0R : Nat) (v1I : Int32) (σ : AM) : L_Md_takesTower_5 v0R v1I σ = (if v1I < (4 : Int32) then (gd (okO σ v0R 12) <| gd (okO σ (aR σ v0R 73) 101) <| gd (inB v1I (aN σ (aR σ v0R 73))) <| letT (sI σ (aR σ v0R 73) v1I.toNatClampNeg (0 : Int32)) fun σ4 => L_Md_takesTower_5 v0R (v1I + (1 : Int32)) σ4) else (gd (okO σ v0R 12) <| bnd (M_Md_laysAll v0R σ) fun _ σ7 => (some ((), σ7)))) := by
  unfold L_Md_takesTower_5
  rw [lp_eq]
  show lpK (lp F_Md_takesTower) (T_Md_takesTower_5 v0R v1I σ) = _
  unfold T_Md_takesTower_5
  simp only [lpK_ite, lq_inl, lq_inr, lpK_bnd, lpK_gd, lq_let]
  try rfl
noncomputable def M_Md_takesTower (v0R : Nat) (σ : AM) : Option (Unit × AM) := mw σ (L_Md_takesTower_0 v0R σ)
def I_Md_takesTower (G : GX) (p : Program) (l : Launch) (e : Env) (s : State) (m : MethodId) (args : Array Value) (below : List Frame) (meth : Method) (c : Code) (z0 u0 n : Nat) : Prop :=
  (∀ (v0R : Nat) (σ : AM), VX (QM eV G args s below z0 u0) G p l e s m args below meth c 4 z0 u0 2 (lpn F_Md_takesTower n (0, v0R, 0, 0, 0, σ)) 0 [(0, .ref v0R)] [] σ) ∧
  (∀ (v0R : Nat) (s0R : Nat) (s1I : Int32) (σ : AM), VX (QM eV G args s below z0 u0) G p l e s m args below meth c 4 z0 u0 2 (lpn F_Md_takesTower n (1, v0R, 0, s0R, s1I, σ)) 24 [(0, .ref v0R)] [.int s1I, .ref s0R] σ) ∧
  (∀ (v0R : Nat) (s0R : Nat) (s1I : Int32) (σ : AM), VX (QM eV G args s below z0 u0) G p l e s m args below meth c 4 z0 u0 2 (lpn F_Md_takesTower n (2, v0R, 0, s0R, s1I, σ)) 44 [(0, .ref v0R)] [.int s1I, .ref s0R] σ) ∧
  (∀ (v0R : Nat) (v1I : Int32) (σ : AM), VX (QM eV G args s below z0 u0) G p l e s m args below meth c 4 z0 u0 2 (lpn F_Md_takesTower n (3, v0R, v1I, 0, 0, σ)) 57 [(0, .ref v0R), (1, .int v1I)] [] σ) ∧
  (∀ (v0R : Nat) (v1I : Int32) (σ : AM), VX (QM eV G args s below z0 u0) G p l e s m args below meth c 4 z0 u0 2 (lpn F_Md_takesTower n (4, v0R, v1I, 0, 0, σ)) 84 [(0, .ref v0R), (1, .int v1I)] [] σ) ∧
  (∀ (v0R : Nat) (v1I : Int32) (σ : AM), VX (QM eV G args s below z0 u0) G p l e s m args below meth c 4 z0 u0 2 (lpn F_Md_takesTower n (5, v0R, v1I, 0, 0, σ)) 152 [(0, .ref v0R), (1, .int v1I)] [] σ)
set_option maxRecDepth 20000 in
theorem s_Md_takesTower_0 {G : GX} {p : Program} {l : Launch} {e : Env} {s : State} {m : MethodId} {args : Array Value} {below : List Frame} {meth : Method} {c : Code} {z0 u0 n : Nat} (C : Cx G p s m args meth c prog_14_method_22_code 2 "BellPlateModel" ((none))) (IH : I_Md_takesTower G p l e s m args below meth c z0 u0 n) (v0R : Nat) (σ : AM) : VX (QM eV G args s below z0 u0) G p l e s m args below meth c 4 z0 u0 2 (lpK (lpn F_Md_takesTower n) (T_Md_takesTower_0 v0R σ)) 0 [(0, .ref v0R)] [] σ := by
  unfold T_Md_takesTower_0
  refine x_aload_n C d_Md_takesTower_0 0 rfl ?_
  refine x_aload_n C d_Md_takesTower_1 0 rfl ?_
  refine x_gd (fun h1 => ?_)
  refine x_getI (k := 15) C (okO_iff.mp h1) rfl j11_ok (by decide) rfl w1867 d_Md_takesTower_2 ?_
  refine x_putI (k := 10) C (okO_iff.mp h1) rfl j11_ok y11_ok n11_ok (by decide) rfl rfl rfl rfl w1862 d_Md_takesTower_5 ?_
  refine x_letS (fun σ2 e3 => ?_)
  refine x_aload_n C d_Md_takesTower_8 0 rfl ?_
  refine x_aload_n C d_Md_takesTower_9 0 rfl ?_
  refine x_getI (k := 16) C (by first | exact (okO_iff.mp h1) | (rw [e3]; exact (okO_iff.mp h1))) rfl j11_ok (by decide) rfl w1868 d_Md_takesTower_10 ?_
  refine x_if_ge (tgt := 20) C d_Md_takesTower_13 (by decide) (fun _ => ?_) (fun _ => ?_)
  · refine x_iconst (v := (3 : Int32)) C d_Md_takesTower_16 (by decide) ?_
    refine x_goto (tgt := 24) C d_Md_takesTower_17 (by decide) ?_
    exact IH.2.1 v0R v0R ((3 : Int32)) (σ2)
  · refine x_aload_n C d_Md_takesTower_20 0 rfl ?_
    refine x_getI (k := 16) C (by first | exact (okO_iff.mp h1) | (rw [e3]; exact (okO_iff.mp h1))) rfl j11_ok (by decide) rfl w1868 d_Md_takesTower_21 ?_
    exact IH.2.1 v0R v0R (aI σ2 v0R 16) (σ2)
set_option maxRecDepth 20000 in
theorem s_Md_takesTower_1 {G : GX} {p : Program} {l : Launch} {e : Env} {s : State} {m : MethodId} {args : Array Value} {below : List Frame} {meth : Method} {c : Code} {z0 u0 n : Nat} (C : Cx G p s m args meth c prog_14_method_22_code 2 "BellPlateModel" ((none))) (IH : I_Md_takesTower G p l e s m args below meth c z0 u0 n) (v0R : Nat) (s0R : Nat) (s1I : Int32) (σ : AM) : VX (QM eV G args s below z0 u0) G p l e s m args below meth c 4 z0 u0 2 (lpK (lpn F_Md_takesTower n) (T_Md_takesTower_1 v0R s0R s1I σ)) 24 [(0, .ref v0R)] [.int s1I, .ref s0R] σ := by
  unfold T_Md_takesTower_1
  refine x_gd (fun h1 => ?_)
  refine x_putI (k := 11) C (okO_iff.mp h1) rfl j11_ok y11_ok n11_ok (by decide) rfl rfl rfl rfl w1863 d_Md_takesTower_24 ?_
  refine x_letS (fun σ2 e3 => ?_)
  refine x_aload_n C d_Md_takesTower_27 0 rfl ?_
  refine x_aload_n C d_Md_takesTower_28 0 rfl ?_
  refine x_gd (fun h4 => ?_)
  refine x_getI (k := 17) C (okO_iff.mp h4) rfl j11_ok (by decide) rfl w1869 d_Md_takesTower_29 ?_
  refine x_if_ge (tgt := 40) C d_Md_takesTower_32 (by decide) (fun _ => ?_) (fun _ => ?_)
  · refine x_bipush (v := (10 : Int32)) C d_Md_takesTower_35 (by decide) ?_
    refine x_goto (tgt := 44) C d_Md_takesTower_37 (by decide) ?_
    exact IH.2.2.1 v0R v0R ((10 : Int32)) (σ2)
  · refine x_aload_n C d_Md_takesTower_40 0 rfl ?_
    refine x_getI (k := 17) C (okO_iff.mp h4) rfl j11_ok (by decide) rfl w1869 d_Md_takesTower_41 ?_
    exact IH.2.2.1 v0R v0R (aI σ2 v0R 17) (σ2)
set_option maxRecDepth 20000 in
theorem s_Md_takesTower_2 {G : GX} {p : Program} {l : Launch} {e : Env} {s : State} {m : MethodId} {args : Array Value} {below : List Frame} {meth : Method} {c : Code} {z0 u0 n : Nat} (C : Cx G p s m args meth c prog_14_method_22_code 2 "BellPlateModel" ((none))) (IH : I_Md_takesTower G p l e s m args below meth c z0 u0 n) (v0R : Nat) (s0R : Nat) (s1I : Int32) (σ : AM) : VX (QM eV G args s below z0 u0) G p l e s m args below meth c 4 z0 u0 2 (lpK (lpn F_Md_takesTower n) (T_Md_takesTower_2 v0R s0R s1I σ)) 44 [(0, .ref v0R)] [.int s1I, .ref s0R] σ := by
  unfold T_Md_takesTower_2
  refine x_gd (fun h1 => ?_)
  refine x_putI (k := 12) C (okO_iff.mp h1) rfl j11_ok y11_ok n11_ok (by decide) rfl rfl rfl rfl w1864 d_Md_takesTower_44 ?_
  refine x_letS (fun σ2 e3 => ?_)
  refine x_aload_n C d_Md_takesTower_47 0 rfl ?_
  refine x_aload_n C d_Md_takesTower_48 0 rfl ?_
  refine x_gd (fun h4 => ?_)
  refine x_getI (k := 18) C (okO_iff.mp h4) rfl j11_ok (by decide) rfl w1870 d_Md_takesTower_49 ?_
  refine x_putI (k := 13) C (okO_iff.mp h4) rfl j11_ok y11_ok n11_ok (by decide) rfl rfl rfl rfl w1865 d_Md_takesTower_52 ?_
  refine x_letS (fun σ5 e6 => ?_)
  refine x_iconst (v := (0 : Int32)) C d_Md_takesTower_55 (by decide) ?_
  refine x_istore_n (lv' := [(1, .int (0 : Int32)), (0, .ref v0R)]) C d_Md_takesTower_56 (by decide) rfl rfl ?_
  refine x_lv [1, 0] rfl ?_
  exact IH.2.2.2.1 v0R ((0 : Int32)) (σ5)
set_option maxRecDepth 20000 in
theorem s_Md_takesTower_3 {G : GX} {p : Program} {l : Launch} {e : Env} {s : State} {m : MethodId} {args : Array Value} {below : List Frame} {meth : Method} {c : Code} {z0 u0 n : Nat} (C : Cx G p s m args meth c prog_14_method_22_code 2 "BellPlateModel" ((none))) (IH : I_Md_takesTower G p l e s m args below meth c z0 u0 n) (v0R : Nat) (v1I : Int32) (σ : AM) : VX (QM eV G args s below z0 u0) G p l e s m args below meth c 4 z0 u0 2 (lpK (lpn F_Md_takesTower n) (T_Md_takesTower_3 v0R v1I σ)) 57 [(0, .ref v0R), (1, .int v1I)] [] σ := by
  unfold T_Md_takesTower_3
  refine x_iload_n C d_Md_takesTower_57 1 rfl ?_
  refine x_iconst (v := (5 : Int32)) C d_Md_takesTower_58 (by decide) ?_
  refine x_icmp_ge (tgt := 82) C d_Md_takesTower_59 (by decide) (fun _ => ?_) (fun _ => ?_)
  · refine x_aload_n C d_Md_takesTower_62 0 rfl ?_
    refine x_gd (fun h1 => ?_)
    refine x_gd (fun h2 => ?_)
    refine x_getR (k := 14) (kv := 101) C (okO_iff.mp h1) rfl j11_ok (by decide) rfl (okO_iff.mp h2) (by decide) w1866 d_Md_takesTower_63 ?_
    refine x_iload_n C d_Md_takesTower_66 1 rfl ?_
    refine x_aload_n C d_Md_takesTower_67 0 rfl ?_
    refine x_getR (k := 14) (kv := 101) C (okO_iff.mp h1) rfl j11_ok (by decide) rfl (okO_iff.mp h2) (by decide) w1866 d_Md_takesTower_68 ?_
    refine x_iconst (v := (5 : Int32)) C d_Md_takesTower_71 (by decide) ?_
    refine x_iload_n C d_Md_takesTower_72 1 rfl ?_
    refine x_iadd C d_Md_takesTower_73 ?_
    refine x_gd (fun h3 => ?_)
    refine x_aldI C (okO_iff.mp h2) (inB_iff.mp h3) d_Md_takesTower_74 ?_
    refine x_gd (fun h4 => ?_)
    refine x_astI C (okO_iff.mp h2) (inB_iff.mp h4) d_Md_takesTower_75 ?_
    refine x_letS (fun σ5 e6 => ?_)
    refine x_iinc (v := v1I + (1 : Int32)) (lv' := [(1, .int (v1I + (1 : Int32))), (0, .ref v0R)]) C d_Md_takesTower_76 1 rfl rfl (by decide) rfl ?_
    refine x_goto (tgt := 57) C d_Md_takesTower_79 (by decide) ?_
    refine x_lv [1, 0] rfl ?_
    exact IH.2.2.2.1 v0R (v1I + (1 : Int32)) (σ5)
  · refine x_iconst (v := (0 : Int32)) C d_Md_takesTower_82 (by decide) ?_
    refine x_istore_n (lv' := [(1, .int (0 : Int32)), (0, .ref v0R)]) C d_Md_takesTower_83 (by decide) rfl rfl ?_
    refine x_lv [1, 0] rfl ?_
    exact IH.2.2.2.2.1 v0R ((0 : Int32)) (σ)
set_option maxRecDepth 20000 in
theorem s_Md_takesTower_4 {G : GX} {p : Program} {l : Launch} {e : Env} {s : State} {m : MethodId} {args : Array Value} {below : List Frame} {meth : Method} {c : Code} {z0 u0 n : Nat} (C : Cx G p s m args meth c prog_14_method_22_code 2 "BellPlateModel" ((none))) (IH : I_Md_takesTower G p l e s m args below meth c z0 u0 n) (v0R : Nat) (v1I : Int32) (σ : AM) : VX (QM eV G args s below z0 u0) G p l e s m args below meth c 4 z0 u0 2 (lpK (lpn F_Md_takesTower n) (T_Md_takesTower_4 v0R v1I σ)) 84 [(0, .ref v0R), (1, .int v1I)] [] σ := by
  unfold T_Md_takesTower_4
  refine x_iload_n C d_Md_takesTower_84 1 rfl ?_
  refine x_aload_n C d_Md_takesTower_85 0 rfl ?_
  refine x_gd (fun h1 => ?_)
  refine x_getI (k := 22) C (okO_iff.mp h1) rfl j11_ok (by decide) rfl w1874 d_Md_takesTower_86 ?_
  refine x_icmp_ge (tgt := 130) C d_Md_takesTower_89 (by decide) (fun _ => ?_) (fun _ => ?_)
  · refine x_aload_n C d_Md_takesTower_92 0 rfl ?_
    refine x_gd (fun h2 => ?_)
    refine x_getR (k := 20) (kv := 101) C (okO_iff.mp h1) rfl j11_ok (by decide) rfl (okO_iff.mp h2) (by decide) w1872 d_Md_takesTower_93 ?_
    refine x_iload_n C d_Md_takesTower_96 1 rfl ?_
    refine x_aload_n C d_Md_takesTower_97 0 rfl ?_
    refine x_getR (k := 20) (kv := 101) C (okO_iff.mp h1) rfl j11_ok (by decide) rfl (okO_iff.mp h2) (by decide) w1872 d_Md_takesTower_98 ?_
    refine x_sipush (v := (1100 : Int32)) C d_Md_takesTower_101 (by decide) ?_
    refine x_iload_n C d_Md_takesTower_104 1 rfl ?_
    refine x_iadd C d_Md_takesTower_105 ?_
    refine x_gd (fun h3 => ?_)
    refine x_aldI C (okO_iff.mp h2) (inB_iff.mp h3) d_Md_takesTower_106 ?_
    refine x_gd (fun h4 => ?_)
    refine x_astI C (okO_iff.mp h2) (inB_iff.mp h4) d_Md_takesTower_107 ?_
    refine x_letS (fun σ5 e6 => ?_)
    refine x_aload_n C d_Md_takesTower_108 0 rfl ?_
    refine x_gd (fun h7 => ?_)
    refine x_getR (k := 21) (kv := 101) C (by first | exact (okO_iff.mp h1) | (rw [e6]; exact (okO_iff.mp h1))) rfl j11_ok (by decide) rfl (okO_iff.mp h7) (by decide) w1873 d_Md_takesTower_109 ?_
    refine x_iload_n C d_Md_takesTower_112 1 rfl ?_
    refine x_aload_n C d_Md_takesTower_113 0 rfl ?_
    refine x_getR (k := 21) (kv := 101) C (by first | exact (okO_iff.mp h1) | (rw [e6]; exact (okO_iff.mp h1))) rfl j11_ok (by decide) rfl (okO_iff.mp h7) (by decide) w1873 d_Md_takesTower_114 ?_
    refine x_sipush (v := (1100 : Int32)) C d_Md_takesTower_117 (by decide) ?_
    refine x_iload_n C d_Md_takesTower_120 1 rfl ?_
    refine x_iadd C d_Md_takesTower_121 ?_
    refine x_gd (fun h8 => ?_)
    refine x_aldI C (okO_iff.mp h7) (inB_iff.mp h8) d_Md_takesTower_122 ?_
    refine x_gd (fun h9 => ?_)
    refine x_astI C (okO_iff.mp h7) (inB_iff.mp h9) d_Md_takesTower_123 ?_
    refine x_letS (fun σ10 e11 => ?_)
    refine x_iinc (v := v1I + (1 : Int32)) (lv' := [(1, .int (v1I + (1 : Int32))), (0, .ref v0R)]) C d_Md_takesTower_124 1 rfl rfl (by decide) rfl ?_
    refine x_goto (tgt := 84) C d_Md_takesTower_127 (by decide) ?_
    refine x_lv [1, 0] rfl ?_
    exact IH.2.2.2.2.1 v0R (v1I + (1 : Int32)) (σ10)
  · refine x_aload_n C d_Md_takesTower_130 0 rfl ?_
    refine x_iconst (v := (0 : Int32)) C d_Md_takesTower_131 (by decide) ?_
    refine x_putI (k := 37) C (okO_iff.mp h1) rfl j11_ok y11_ok n11_ok (by decide) rfl rfl rfl rfl w1889 d_Md_takesTower_132 ?_
    refine x_letS (fun σ12 e13 => ?_)
    refine x_aload_n C d_Md_takesTower_135 0 rfl ?_
    refine x_iconst (v := (0 : Int32)) C d_Md_takesTower_136 (by decide) ?_
    refine x_putI (k := 42) C (by first | exact (okO_iff.mp h1) | (rw [e13]; exact (okO_iff.mp h1))) rfl j11_ok y11_ok n11_ok (by decide) rfl rfl rfl rfl w1894 d_Md_takesTower_137 ?_
    refine x_letS (fun σ14 e15 => ?_)
    refine x_aload_n C d_Md_takesTower_140 0 rfl ?_
    refine x_iconst (v := (0 : Int32)) C d_Md_takesTower_141 (by decide) ?_
    refine x_putI (k := 70) C (by first | exact (okO_iff.mp h1) | (rw [e15, e13]; exact (okO_iff.mp h1))) rfl j11_ok y11_ok n11_ok (by decide) rfl rfl rfl rfl w1922 d_Md_takesTower_142 ?_
    refine x_letS (fun σ16 e17 => ?_)
    refine x_aload_n C d_Md_takesTower_145 0 rfl ?_
    refine x_iconst (v := (0 : Int32)) C d_Md_takesTower_146 (by decide) ?_
    refine x_putI (k := 72) C (by first | exact (okO_iff.mp h1) | (rw [e17, e15, e13]; exact (okO_iff.mp h1))) rfl j11_ok y11_ok n11_ok (by decide) rfl rfl rfl rfl w1924 d_Md_takesTower_147 ?_
    refine x_letS (fun σ18 e19 => ?_)
    refine x_iconst (v := (0 : Int32)) C d_Md_takesTower_150 (by decide) ?_
    refine x_istore_n (lv' := [(1, .int (0 : Int32)), (0, .ref v0R)]) C d_Md_takesTower_151 (by decide) rfl rfl ?_
    refine x_lv [1, 0] rfl ?_
    exact IH.2.2.2.2.2 v0R ((0 : Int32)) (σ18)
set_option maxRecDepth 20000 in
theorem s_Md_takesTower_5 {G : GX} {p : Program} {l : Launch} {e : Env} {s : State} {m : MethodId} {args : Array Value} {below : List Frame} {meth : Method} {c : Code} {z0 u0 n : Nat} (C : Cx G p s m args meth c prog_14_method_22_code 2 "BellPlateModel" ((none))) (IH : I_Md_takesTower G p l e s m args below meth c z0 u0 n) (v0R : Nat) (v1I : Int32) (σ : AM) : VX (QM eV G args s below z0 u0) G p l e s m args below meth c 4 z0 u0 2 (lpK (lpn F_Md_takesTower n) (T_Md_takesTower_5 v0R v1I σ)) 152 [(0, .ref v0R), (1, .int v1I)] [] σ := by
  unfold T_Md_takesTower_5
  refine x_iload_n C d_Md_takesTower_152 1 rfl ?_
  refine x_iconst (v := (4 : Int32)) C d_Md_takesTower_153 (by decide) ?_
  refine x_icmp_ge (tgt := 170) C d_Md_takesTower_154 (by decide) (fun _ => ?_) (fun _ => ?_)
  · refine x_aload_n C d_Md_takesTower_157 0 rfl ?_
    refine x_gd (fun h1 => ?_)
    refine x_gd (fun h2 => ?_)
    refine x_getR (k := 73) (kv := 101) C (okO_iff.mp h1) rfl j11_ok (by decide) rfl (okO_iff.mp h2) (by decide) w1925 d_Md_takesTower_158 ?_
    refine x_iload_n C d_Md_takesTower_161 1 rfl ?_
    refine x_iconst (v := (0 : Int32)) C d_Md_takesTower_162 (by decide) ?_
    refine x_gd (fun h3 => ?_)
    refine x_astI C (okO_iff.mp h2) (inB_iff.mp h3) d_Md_takesTower_163 ?_
    refine x_letS (fun σ4 e5 => ?_)
    refine x_iinc (v := v1I + (1 : Int32)) (lv' := [(1, .int (v1I + (1 : Int32))), (0, .ref v0R)]) C d_Md_takesTower_164 1 rfl rfl (by decide) rfl ?_
    refine x_goto (tgt := 152) C d_Md_takesTower_167 (by decide) ?_
    refine x_lv [1, 0] rfl ?_
    exact IH.2.2.2.2.2 v0R (v1I + (1 : Int32)) (σ4)
  · refine x_aload_n C d_Md_takesTower_170 0 rfl ?_
    refine x_gd (fun h8 => ?_)
    refine x_callVV (As := []) C (c_Md_laysAll G l v0R  σ) (okO_iff.mp h8) rfl w1814 w55 w1812 w1815 w134 k_Md_laysAll rfl (by decide) (by decide) rfl (Nat.le_of_ble_eq_true rfl) d_Md_takesTower_171 (fun r6 σ7 => ?_)
    exact x_vret C d_Md_takesTower_174
theorem i_Md_takesTower {G : GX} {p : Program} {l : Launch} {e : Env} {s : State} {m : MethodId} {args : Array Value} {below : List Frame} {meth : Method} {c : Code} {z0 u0 : Nat} (C : Cx G p s m args meth c prog_14_method_22_code 2 "BellPlateModel" ((none))) (n : Nat) : I_Md_takesTower G p l e s m args below meth c z0 u0 n := by
  induction n with
  | zero => exact ⟨fun _ _ => x_none, fun _ _ _ _ => x_none, fun _ _ _ _ => x_none, fun _ _ _ => x_none, fun _ _ _ => x_none, fun _ _ _ => x_none⟩
  | succ n IH => exact ⟨fun v0R σ => s_Md_takesTower_0 C IH v0R σ, fun v0R s0R s1I σ => s_Md_takesTower_1 C IH v0R s0R s1I σ, fun v0R s0R s1I σ => s_Md_takesTower_2 C IH v0R s0R s1I σ, fun v0R v1I σ => s_Md_takesTower_3 C IH v0R v1I σ, fun v0R v1I σ => s_Md_takesTower_4 C IH v0R v1I σ, fun v0R v1I σ => s_Md_takesTower_5 C IH v0R v1I σ⟩
theorem c_Md_takesTower (G : GX) (l : Launch) (v0R : Nat) (σ : AM) : CT eV G l 4 y_Md_takesTower prog_14_method_22_code 2 (none) [.ref v0R] σ (M_Md_takesTower v0R σ) := by
  refine ct_of (by decide +kernel) (Nat.le_of_ble_eq_true rfl) (fun p e s m args below meth c C hin => ?_)
  refine x_lve (lv' := [(0, .ref v0R)]) rfl ?_
  intro r σ' h
  obtain ⟨n, hn⟩ := (lp_iff _ _ _).mp h
  exact (i_Md_takesTower C n).1 v0R σ r σ' hn
/-! BellPlateModel.tower()I -/
abbrev y_Md_tower : MethodName := ⟨"BellPlateModel", "tower", "()I"⟩
theorem k_Md_tower : y_Md_tower.cls ≠ "java/lang/invoke/MethodHandle" ∧ y_Md_tower.cls ≠ "java/lang/invoke/VarHandle" ∧ (parseMethodDescriptor y_Md_tower.desc).map (fun d => d.parameters.length) = some 0 := by decide +kernel
theorem d_Md_tower_0 : decode prog_14_method_21_code 0 = .ok (.aload_n 0, 1) := by decide +kernel
theorem d_Md_tower_1 : decode prog_14_method_21_code 1 = .ok (.iconst 0, 1) := by decide +kernel
theorem d_Md_tower_2 : decode prog_14_method_21_code 2 = .ok (.putfield 1, 3) := by decide +kernel
theorem d_Md_tower_5 : decode prog_14_method_21_code 5 = .ok (.aload_n 0, 1) := by decide +kernel
theorem d_Md_tower_6 : decode prog_14_method_21_code 6 = .ok (.invokevirtual 215, 3) := by decide +kernel
theorem d_Md_tower_9 : decode prog_14_method_21_code 9 = .ok (.aload_n 0, 1) := by decide +kernel
theorem d_Md_tower_10 : decode prog_14_method_21_code 10 = .ok (.iconst 0, 1) := by decide +kernel
theorem d_Md_tower_11 : decode prog_14_method_21_code 11 = .ok (.putfield 218, 3) := by decide +kernel
theorem d_Md_tower_14 : decode prog_14_method_21_code 14 = .ok (.aload_n 0, 1) := by decide +kernel
theorem d_Md_tower_15 : decode prog_14_method_21_code 15 = .ok (.iconst 0, 1) := by decide +kernel
theorem d_Md_tower_16 : decode prog_14_method_21_code 16 = .ok (.putfield 212, 3) := by decide +kernel
theorem d_Md_tower_19 : decode prog_14_method_21_code 19 = .ok (.aload_n 0, 1) := by decide +kernel
theorem d_Md_tower_20 : decode prog_14_method_21_code 20 = .ok (.iconst (-1), 1) := by decide +kernel
theorem d_Md_tower_21 : decode prog_14_method_21_code 21 = .ok (.putfield 221, 3) := by decide +kernel
theorem d_Md_tower_24 : decode prog_14_method_21_code 24 = .ok (.aload_n 0, 1) := by decide +kernel
theorem d_Md_tower_25 : decode prog_14_method_21_code 25 = .ok (.iconst (-1), 1) := by decide +kernel
theorem d_Md_tower_26 : decode prog_14_method_21_code 26 = .ok (.putfield 224, 3) := by decide +kernel
theorem d_Md_tower_29 : decode prog_14_method_21_code 29 = .ok (.aload_n 0, 1) := by decide +kernel
theorem d_Md_tower_30 : decode prog_14_method_21_code 30 = .ok (.iconst 0, 1) := by decide +kernel
theorem d_Md_tower_31 : decode prog_14_method_21_code 31 = .ok (.putfield 227, 3) := by decide +kernel
theorem d_Md_tower_34 : decode prog_14_method_21_code 34 = .ok (.aload_n 0, 1) := by decide +kernel
theorem d_Md_tower_35 : decode prog_14_method_21_code 35 = .ok (.getfield 57, 3) := by decide +kernel
theorem d_Md_tower_38 : decode prog_14_method_21_code 38 = .ok (.bipush 9, 2) := by decide +kernel
theorem d_Md_tower_40 : decode prog_14_method_21_code 40 = .ok (.iconst (-1), 1) := by decide +kernel
theorem d_Md_tower_41 : decode prog_14_method_21_code 41 = .ok (.iastore, 1) := by decide +kernel
theorem d_Md_tower_42 : decode prog_14_method_21_code 42 = .ok (.aload_n 0, 1) := by decide +kernel
theorem d_Md_tower_43 : decode prog_14_method_21_code 43 = .ok (.getfield 196, 3) := by decide +kernel
theorem d_Md_tower_46 : decode prog_14_method_21_code 46 = .ok (.ifCond .ne 28, 3) := by decide +kernel
theorem d_Md_tower_49 : decode prog_14_method_21_code 49 = .ok (.aload_n 0, 1) := by decide +kernel
theorem d_Md_tower_50 : decode prog_14_method_21_code 50 = .ok (.getfield 24, 3) := by decide +kernel
theorem d_Md_tower_53 : decode prog_14_method_21_code 53 = .ok (.aload_n 0, 1) := by decide +kernel
theorem d_Md_tower_54 : decode prog_14_method_21_code 54 = .ok (.getfield 193, 3) := by decide +kernel
theorem d_Md_tower_57 : decode prog_14_method_21_code 57 = .ok (.iaload, 1) := by decide +kernel
theorem d_Md_tower_58 : decode prog_14_method_21_code 58 = .ok (.ifCond .eq 16, 3) := by decide +kernel
theorem d_Md_tower_61 : decode prog_14_method_21_code 61 = .ok (.aload_n 0, 1) := by decide +kernel
theorem d_Md_tower_62 : decode prog_14_method_21_code 62 = .ok (.invokevirtual 230, 3) := by decide +kernel
theorem d_Md_tower_65 : decode prog_14_method_21_code 65 = .ok (.aload_n 0, 1) := by decide +kernel
theorem d_Md_tower_66 : decode prog_14_method_21_code 66 = .ok (.bipush 59, 2) := by decide +kernel
theorem d_Md_tower_68 : decode prog_14_method_21_code 68 = .ok (.invokevirtual 233, 3) := by decide +kernel
theorem d_Md_tower_71 : decode prog_14_method_21_code 71 = .ok (.goto (-29), 3) := by decide +kernel
theorem d_Md_tower_74 : decode prog_14_method_21_code 74 = .ok (.iconst 1, 1) := by decide +kernel
theorem d_Md_tower_75 : decode prog_14_method_21_code 75 = .ok (.istore_n 1, 1) := by decide +kernel
theorem d_Md_tower_76 : decode prog_14_method_21_code 76 = .ok (.iconst 0, 1) := by decide +kernel
theorem d_Md_tower_77 : decode prog_14_method_21_code 77 = .ok (.istore_n 2, 1) := by decide +kernel
theorem d_Md_tower_78 : decode prog_14_method_21_code 78 = .ok (.iload_n 2, 1) := by decide +kernel
theorem d_Md_tower_79 : decode prog_14_method_21_code 79 = .ok (.aload_n 0, 1) := by decide +kernel
theorem d_Md_tower_80 : decode prog_14_method_21_code 80 = .ok (.getfield 212, 3) := by decide +kernel
theorem d_Md_tower_83 : decode prog_14_method_21_code 83 = .ok (.if_icmp .ge 29, 3) := by decide +kernel
theorem d_Md_tower_86 : decode prog_14_method_21_code 86 = .ok (.iload_n 1, 1) := by decide +kernel
theorem d_Md_tower_87 : decode prog_14_method_21_code 87 = .ok (.aload_n 0, 1) := by decide +kernel
theorem d_Md_tower_88 : decode prog_14_method_21_code 88 = .ok (.getfield 221, 3) := by decide +kernel
theorem d_Md_tower_91 : decode prog_14_method_21_code 91 = .ok (.ifCond .ge 7, 3) := by decide +kernel
theorem d_Md_tower_94 : decode prog_14_method_21_code 94 = .ok (.iconst 3, 1) := by decide +kernel
theorem d_Md_tower_95 : decode prog_14_method_21_code 95 = .ok (.goto 7, 3) := by decide +kernel
theorem d_Md_tower_98 : decode prog_14_method_21_code 98 = .ok (.aload_n 0, 1) := by decide +kernel
theorem d_Md_tower_99 : decode prog_14_method_21_code 99 = .ok (.getfield 221, 3) := by decide +kernel
theorem d_Md_tower_102 : decode prog_14_method_21_code 102 = .ok (.iconst 1, 1) := by decide +kernel
theorem d_Md_tower_103 : decode prog_14_method_21_code 103 = .ok (.iadd, 1) := by decide +kernel
theorem d_Md_tower_104 : decode prog_14_method_21_code 104 = .ok (.imul, 1) := by decide +kernel
theorem d_Md_tower_105 : decode prog_14_method_21_code 105 = .ok (.istore_n 1, 1) := by decide +kernel
theorem d_Md_tower_106 : decode prog_14_method_21_code 106 = .ok (.iinc 2 1, 3) := by decide +kernel
theorem d_Md_tower_109 : decode prog_14_method_21_code 109 = .ok (.goto (-31), 3) := by decide +kernel
theorem d_Md_tower_112 : decode prog_14_method_21_code 112 = .ok (.aload_n 0, 1) := by decide +kernel
theorem d_Md_tower_113 : decode prog_14_method_21_code 113 = .ok (.getfield 196, 3) := by decide +kernel
theorem d_Md_tower_116 : decode prog_14_method_21_code 116 = .ok (.ifCond .ne 16, 3) := by decide +kernel
theorem d_Md_tower_119 : decode prog_14_method_21_code 119 = .ok (.iload_n 1, 1) := by decide +kernel
theorem d_Md_tower_120 : decode prog_14_method_21_code 120 = .ok (.sipush 16384, 3) := by decide +kernel
theorem d_Md_tower_123 : decode prog_14_method_21_code 123 = .ok (.if_icmp .le 9, 3) := by decide +kernel
theorem d_Md_tower_126 : decode prog_14_method_21_code 126 = .ok (.aload_n 0, 1) := by decide +kernel
theorem d_Md_tower_127 : decode prog_14_method_21_code 127 = .ok (.bipush 6, 2) := by decide +kernel
theorem d_Md_tower_129 : decode prog_14_method_21_code 129 = .ok (.invokevirtual 202, 3) := by decide +kernel
theorem d_Md_tower_132 : decode prog_14_method_21_code 132 = .ok (.aload_n 0, 1) := by decide +kernel
theorem d_Md_tower_133 : decode prog_14_method_21_code 133 = .ok (.getfield 196, 3) := by decide +kernel
theorem d_Md_tower_136 : decode prog_14_method_21_code 136 = .ok (.ifCond .le 8, 3) := by decide +kernel
theorem d_Md_tower_139 : decode prog_14_method_21_code 139 = .ok (.aload_n 0, 1) := by decide +kernel
theorem d_Md_tower_140 : decode prog_14_method_21_code 140 = .ok (.getfield 196, 3) := by decide +kernel
theorem d_Md_tower_143 : decode prog_14_method_21_code 143 = .ok (.ireturn, 1) := by decide +kernel
theorem d_Md_tower_144 : decode prog_14_method_21_code 144 = .ok (.aload_n 0, 1) := by decide +kernel
theorem d_Md_tower_145 : decode prog_14_method_21_code 145 = .ok (.invokevirtual 236, 3) := by decide +kernel
theorem d_Md_tower_148 : decode prog_14_method_21_code 148 = .ok (.iconst 0, 1) := by decide +kernel
theorem d_Md_tower_149 : decode prog_14_method_21_code 149 = .ok (.ireturn, 1) := by decide +kernel
abbrev S_Md_tower : Type := Nat × Nat × Int32 × Int32 × Int32 × Int32 × AM
noncomputable def T_Md_tower_0 (v0R : Nat) (σ : AM) : S_Md_tower ⊕ Option (Int32 × AM) :=
  gdT (okO σ v0R 12) <| letT (sI σ v0R 0 (0 : Int32)) fun σ2 => bndT (M_Md_cutAll v0R σ2) fun _ σ5 => gdT (okO σ5 v0R 12) <| letT (sI σ5 v0R 22 (0 : Int32)) fun σ7 => letT (sI σ7 v0R 15 (0 : Int32)) fun σ9 => letT (sI σ9 v0R 16 ((-1) : Int32)) fun σ11 => letT (sI σ11 v0R 17 ((-1) : Int32)) fun σ13 => letT (sI σ13 v0R 18 (0 : Int32)) fun σ15 => gdT (okO σ15 (aR σ15 v0R 14) 101) <| gdT (inB (9 : Int32) (aN σ15 (aR σ15 v0R 14))) <| letT (sI σ15 (aR σ15 v0R 14) (9 : Int32).toNatClampNeg ((-1) : Int32)) fun σ19 => .inl (1, v0R, 0, 0, 0, 0, σ19)
noncomputable def T_Md_tower_1 (v0R : Nat) (σ : AM) : S_Md_tower ⊕ Option (Int32 × AM) :=
  gdT (okO σ v0R 12) <| if (aI σ v0R 8) = 0 then (gdT (okO σ (aR σ v0R 4) 101) <| gdT (inB (aI σ v0R 7) (aN σ (aR σ v0R 4))) <| if (aI σ (aR σ v0R 4) (aI σ v0R 7).toNatClampNeg) = 0 then (.inl (2, v0R, 0, 0, 0, 0, σ)) else (bndT (M_Md_readLine v0R σ) fun _ σ5 => gdT (okO σ5 v0R 12) <| bndT (M_Md_takeSign v0R (59 : Int32) σ5) fun _ σ7 => .inl (1, v0R, 0, 0, 0, 0, σ7))) else (.inl (2, v0R, 0, 0, 0, 0, σ))
noncomputable def T_Md_tower_2 (v0R : Nat) (σ : AM) : S_Md_tower ⊕ Option (Int32 × AM) :=
  .inl (3, v0R, (1 : Int32), (0 : Int32), 0, 0, σ)
noncomputable def T_Md_tower_3 (v0R : Nat) (v1I : Int32) (v2I : Int32) (σ : AM) : S_Md_tower ⊕ Option (Int32 × AM) :=
  gdT (okO σ v0R 12) <| if v2I < (aI σ v0R 15) then (if (aI σ v0R 16) < 0 then (.inl (4, v0R, 0, v2I, v1I, (3 : Int32), σ)) else (.inl (4, v0R, 0, v2I, v1I, aI σ v0R 16, σ))) else (if (aI σ v0R 8) = 0 then (if (16384 : Int32) < v1I then (bndT (M_Md_faulty v0R (6 : Int32) σ) fun _ σ3 => .inl (5, v0R, 0, 0, 0, 0, σ3)) else (.inl (5, v0R, 0, 0, 0, 0, σ))) else (.inl (5, v0R, 0, 0, 0, 0, σ)))
noncomputable def T_Md_tower_4 (v0R : Nat) (v2I : Int32) (s0I : Int32) (s1I : Int32) (σ : AM) : S_Md_tower ⊕ Option (Int32 × AM) :=
  letT (s0I * (s1I + (1 : Int32))) fun x1 => .inl (3, v0R, x1, v2I + (1 : Int32), 0, 0, σ)
noncomputable def T_Md_tower_5 (v0R : Nat) (σ : AM) : S_Md_tower ⊕ Option (Int32 × AM) :=
  gdT (okO σ v0R 12) <| if 0 < (aI σ v0R 8) then (.inr (some ((aI σ v0R 8), σ))) else (bndT (M_Md_takesTower v0R σ) fun _ σ3 => .inr (some ((0 : Int32), σ3)))
noncomputable def F_Md_tower : S_Md_tower → S_Md_tower ⊕ Option (Int32 × AM) := fun s => match s.1 with
  | 0 => T_Md_tower_0 (s.2.1) (s.2.2.2.2.2.2)
  | 1 => T_Md_tower_1 (s.2.1) (s.2.2.2.2.2.2)
  | 2 => T_Md_tower_2 (s.2.1) (s.2.2.2.2.2.2)
  | 3 => T_Md_tower_3 (s.2.1) (s.2.2.1) (s.2.2.2.1) (s.2.2.2.2.2.2)
  | 4 => T_Md_tower_4 (s.2.1) (s.2.2.2.1) (s.2.2.2.2.1) (s.2.2.2.2.2.1) (s.2.2.2.2.2.2)
  | _ => T_Md_tower_5 (s.2.1) (s.2.2.2.2.2.2)
noncomputable def L_Md_tower_0 (v0R : Nat) (σ : AM) : Option (Int32 × AM) := lp F_Md_tower (0, v0R, 0, 0, 0, 0, σ)
noncomputable def L_Md_tower_1 (v0R : Nat) (σ : AM) : Option (Int32 × AM) := lp F_Md_tower (1, v0R, 0, 0, 0, 0, σ)
noncomputable def L_Md_tower_2 (v0R : Nat) (σ : AM) : Option (Int32 × AM) := lp F_Md_tower (2, v0R, 0, 0, 0, 0, σ)
noncomputable def L_Md_tower_3 (v0R : Nat) (v1I : Int32) (v2I : Int32) (σ : AM) : Option (Int32 × AM) := lp F_Md_tower (3, v0R, v1I, v2I, 0, 0, σ)
noncomputable def L_Md_tower_4 (v0R : Nat) (v2I : Int32) (s0I : Int32) (s1I : Int32) (σ : AM) : Option (Int32 × AM) := lp F_Md_tower (4, v0R, 0, v2I, s0I, s1I, σ)
noncomputable def L_Md_tower_5 (v0R : Nat) (σ : AM) : Option (Int32 × AM) := lp F_Md_tower (5, v0R, 0, 0, 0, 0, σ)
set_option maxRecDepth 20000 in
theorem E_Md_tower_0 (v0R : Nat) (σ : AM) : L_Md_tower_0 v0R σ = (gd (okO σ v0R 12) <| letT (sI σ v0R 0 (0 : Int32)) fun σ2 => bnd (M_Md_cutAll v0R σ2) fun _ σ5 => gd (okO σ5 v0R 12) <| letT (sI σ5 v0R 22 (0 : Int32)) fun σ7 => letT (sI σ7 v0R 15 (0 : Int32)) fun σ9 => letT (sI σ9 v0R 16 ((-1) : Int32)) fun σ11 => letT (sI σ11 v0R 17 ((-1) : Int32)) fun σ13 => letT (sI σ13 v0R 18 (0 : Int32)) fun σ15 => gd (okO σ15 (aR σ15 v0R 14) 101) <| gd (inB (9 : Int32) (aN σ15 (aR σ15 v0R 14))) <| letT (sI σ15 (aR σ15 v0R 14) (9 : Int32).toNatClampNeg ((-1) : Int32)) fun σ19 => L_Md_tower_1 v0R σ19) := by
  unfold L_Md_tower_0
  rw [lp_eq]
  show lpK (lp F_Md_tower) (T_Md_tower_0 v0R σ) = _
  unfold T_Md_tower_0
  simp only [lpK_ite, lq_inl, lq_inr, lpK_bnd, lpK_gd, lq_let]
  try rfl
set_option maxRecDepth 20000 in
theorem E_Md_tower_1 (v0R : Nat) (σ : AM) : L_Md_tower_1 v0R σ = (gd (okO σ v0R 12) <| if (aI σ v0R 8) = 0 then (gd (okO σ (aR σ v0R 4) 101) <| gd (inB (aI σ v0R 7) (aN σ (aR σ v0R 4))) <| if (aI σ (aR σ v0R 4) (aI σ v0R 7).toNatClampNeg) = 0 then (L_Md_tower_2 v0R σ) else (bnd (M_Md_readLine v0R σ) fun _ σ5 => gd (okO σ5 v0R 12) <| bnd (M_Md_takeSign v0R (59 : Int32) σ5) fun _ σ7 => L_Md_tower_1 v0R σ7)) else (L_Md_tower_2 v0R σ)) := by
  unfold L_Md_tower_1
  rw [lp_eq]
  show lpK (lp F_Md_tower) (T_Md_tower_1 v0R σ) = _
  unfold T_Md_tower_1
  simp only [lpK_ite, lq_inl, lq_inr, lpK_bnd, lpK_gd, lq_let]
  try rfl
set_option maxRecDepth 20000 in
theorem E_Md_tower_2 (v0R : Nat) (σ : AM) : L_Md_tower_2 v0R σ = (L_Md_tower_3 v0R ((1 : Int32)) ((0 : Int32)) σ) := by
  unfold L_Md_tower_2
  rw [lp_eq]
  show lpK (lp F_Md_tower) (T_Md_tower_2 v0R σ) = _
  unfold T_Md_tower_2
  simp only [lpK_ite, lq_inl, lq_inr, lpK_bnd, lpK_gd, lq_let]
  try rfl
set_option maxRecDepth 20000 in
theorem E_Md_tower_3 (v0R : Nat) (v1I : Int32) (v2I : Int32) (σ : AM) : L_Md_tower_3 v0R v1I v2I σ = (gd (okO σ v0R 12) <| if v2I < (aI σ v0R 15) then (if (aI σ v0R 16) < 0 then (L_Md_tower_4 v0R v2I v1I ((3 : Int32)) σ) else (L_Md_tower_4 v0R v2I v1I (aI σ v0R 16) σ)) else (if (aI σ v0R 8) = 0 then (if (16384 : Int32) < v1I then (bnd (M_Md_faulty v0R (6 : Int32) σ) fun _ σ3 => L_Md_tower_5 v0R σ3) else (L_Md_tower_5 v0R σ)) else (L_Md_tower_5 v0R σ))) := by
  unfold L_Md_tower_3
  rw [lp_eq]
  show lpK (lp F_Md_tower) (T_Md_tower_3 v0R v1I v2I σ) = _
  unfold T_Md_tower_3
  simp only [lpK_ite, lq_inl, lq_inr, lpK_bnd, lpK_gd, lq_let]
  try rfl
set_option maxRecDepth 20000 in
theorem E_Md_tower_4 (v0R : Nat) (v2I : Int32) (s0I : Int32) (s1I : Int32) (σ : AM) : L_Md_tower_4 v0R v2I s0I s1I σ = (letT (s0I * (s1I + (1 : Int32))) fun x1 => L_Md_tower_3 v0R x1 (v2I + (1 : Int32)) σ) := by
  unfold L_Md_tower_4
  rw [lp_eq]
  show lpK (lp F_Md_tower) (T_Md_tower_4 v0R v2I s0I s1I σ) = _
  unfold T_Md_tower_4
  simp only [lpK_ite, lq_inl, lq_inr, lpK_bnd, lpK_gd, lq_let]
  try rfl
set_option maxRecDepth 20000 in
theorem E_Md_tower_5 (v0R : Nat) (σ : AM) : L_Md_tower_5 v0R σ = (gd (okO σ v0R 12) <| if 0 < (aI σ v0R 8) then ((some ((aI σ v0R 8), σ))) else (bnd (M_Md_takesTower v0R σ) fun _ σ3 => (some ((0 : Int32), σ3)))) := by
  unfold L_Md_tower_5
  rw [lp_eq]
  show lpK (lp F_Md_tower) (T_Md_tower_5 v0R σ) = _
  unfold T_Md_tower_5
  simp only [lpK_ite, lq_inl, lq_inr, lpK_bnd, lpK_gd, lq_let]
  try rfl
noncomputable def M_Md_tower (v0R : Nat) (σ : AM) : Option (Int32 × AM) := mw σ (L_Md_tower_0 v0R σ)
def I_Md_tower (G : GX) (p : Program) (l : Launch) (e : Env) (s : State) (m : MethodId) (args : Array Value) (below : List Frame) (meth : Method) (c : Code) (z0 u0 n : Nat) : Prop :=
  (∀ (v0R : Nat) (σ : AM), VX (QM eI G args s below z0 u0) G p l e s m args below meth c 85 z0 u0 3 (lpn F_Md_tower n (0, v0R, 0, 0, 0, 0, σ)) 0 [(0, .ref v0R)] [] σ) ∧
  (∀ (v0R : Nat) (σ : AM), VX (QM eI G args s below z0 u0) G p l e s m args below meth c 85 z0 u0 3 (lpn F_Md_tower n (1, v0R, 0, 0, 0, 0, σ)) 42 [(0, .ref v0R)] [] σ) ∧
  (∀ (v0R : Nat) (σ : AM), VX (QM eI G args s below z0 u0) G p l e s m args below meth c 85 z0 u0 3 (lpn F_Md_tower n (2, v0R, 0, 0, 0, 0, σ)) 74 [(0, .ref v0R)] [] σ) ∧
  (∀ (v0R : Nat) (v1I : Int32) (v2I : Int32) (σ : AM), VX (QM eI G args s below z0 u0) G p l e s m args below meth c 85 z0 u0 3 (lpn F_Md_tower n (3, v0R, v1I, v2I, 0, 0, σ)) 78 [(0, .ref v0R), (1, .int v1I), (2, .int v2I)] [] σ) ∧
  (∀ (v0R : Nat) (v2I : Int32) (s0I : Int32) (s1I : Int32) (σ : AM), VX (QM eI G args s below z0 u0) G p l e s m args below meth c 85 z0 u0 3 (lpn F_Md_tower n (4, v0R, 0, v2I, s0I, s1I, σ)) 102 [(0, .ref v0R), (2, .int v2I)] [.int s1I, .int s0I] σ) ∧
  (∀ (v0R : Nat) (σ : AM), VX (QM eI G args s below z0 u0) G p l e s m args below meth c 85 z0 u0 3 (lpn F_Md_tower n (5, v0R, 0, 0, 0, 0, σ)) 132 [(0, .ref v0R)] [] σ)
set_option maxRecDepth 20000 in
theorem s_Md_tower_0 {G : GX} {p : Program} {l : Launch} {e : Env} {s : State} {m : MethodId} {args : Array Value} {below : List Frame} {meth : Method} {c : Code} {z0 u0 n : Nat} (C : Cx G p s m args meth c prog_14_method_21_code 3 "BellPlateModel" ((some FieldType.int))) (IH : I_Md_tower G p l e s m args below meth c z0 u0 n) (v0R : Nat) (σ : AM) : VX (QM eI G args s below z0 u0) G p l e s m args below meth c 85 z0 u0 3 (lpK (lpn F_Md_tower n) (T_Md_tower_0 v0R σ)) 0 [(0, .ref v0R)] [] σ := by
  unfold T_Md_tower_0
  refine x_aload_n C d_Md_tower_0 0 rfl ?_
  refine x_iconst (v := (0 : Int32)) C d_Md_tower_1 (by decide) ?_
  refine x_gd (fun h1 => ?_)
  refine x_putI (k := 0) C (okO_iff.mp h1) rfl j11_ok y11_ok n11_ok (by decide) rfl rfl rfl rfl w1852 d_Md_tower_2 ?_
  refine x_letS (fun σ2 e3 => ?_)
  refine x_aload_n C d_Md_tower_5 0 rfl ?_
  refine x_callVV (As := []) C (c_Md_cutAll G l v0R  σ2) (by first | exact (okO_iff.mp h1) | (rw [e3]; exact (okO_iff.mp h1))) rfl w2087 w64 w2085 w2088 w134 k_Md_cutAll rfl (by decide) (by decide) rfl (Nat.le_of_ble_eq_true rfl) d_Md_tower_6 (fun r4 σ5 => ?_)
  refine x_aload_n C d_Md_tower_9 0 rfl ?_
  refine x_iconst (v := (0 : Int32)) C d_Md_tower_10 (by decide) ?_
  refine x_gd (fun h6 => ?_)
  refine x_putI (k := 22) C (okO_iff.mp h6) rfl j11_ok y11_ok n11_ok (by decide) rfl rfl rfl rfl w1874 d_Md_tower_11 ?_
  refine x_letS (fun σ7 e8 => ?_)
  refine x_aload_n C d_Md_tower_14 0 rfl ?_
  refine x_iconst (v := (0 : Int32)) C d_Md_tower_15 (by decide) ?_
  refine x_putI (k := 15) C (by first | exact (okO_iff.mp h6) | (rw [e8]; exact (okO_iff.mp h6))) rfl j11_ok y11_ok n11_ok (by decide) rfl rfl rfl rfl w1867 d_Md_tower_16 ?_
  refine x_letS (fun σ9 e10 => ?_)
  refine x_aload_n C d_Md_tower_19 0 rfl ?_
  refine x_iconst (v := ((-1) : Int32)) C d_Md_tower_20 (by decide) ?_
  refine x_putI (k := 16) C (by first | exact (okO_iff.mp h6) | (rw [e10, e8]; exact (okO_iff.mp h6))) rfl j11_ok y11_ok n11_ok (by decide) rfl rfl rfl rfl w1868 d_Md_tower_21 ?_
  refine x_letS (fun σ11 e12 => ?_)
  refine x_aload_n C d_Md_tower_24 0 rfl ?_
  refine x_iconst (v := ((-1) : Int32)) C d_Md_tower_25 (by decide) ?_
  refine x_putI (k := 17) C (by first | exact (okO_iff.mp h6) | (rw [e12, e10, e8]; exact (okO_iff.mp h6))) rfl j11_ok y11_ok n11_ok (by decide) rfl rfl rfl rfl w1869 d_Md_tower_26 ?_
  refine x_letS (fun σ13 e14 => ?_)
  refine x_aload_n C d_Md_tower_29 0 rfl ?_
  refine x_iconst (v := (0 : Int32)) C d_Md_tower_30 (by decide) ?_
  refine x_putI (k := 18) C (by first | exact (okO_iff.mp h6) | (rw [e14, e12, e10, e8]; exact (okO_iff.mp h6))) rfl j11_ok y11_ok n11_ok (by decide) rfl rfl rfl rfl w1870 d_Md_tower_31 ?_
  refine x_letS (fun σ15 e16 => ?_)
  refine x_aload_n C d_Md_tower_34 0 rfl ?_
  refine x_gd (fun h17 => ?_)
  refine x_getR (k := 14) (kv := 101) C (by first | exact (okO_iff.mp h6) | (rw [e16, e14, e12, e10, e8]; exact (okO_iff.mp h6))) rfl j11_ok (by decide) rfl (okO_iff.mp h17) (by decide) w1866 d_Md_tower_35 ?_
  refine x_bipush (v := (9 : Int32)) C d_Md_tower_38 (by decide) ?_
  refine x_iconst (v := ((-1) : Int32)) C d_Md_tower_40 (by decide) ?_
  refine x_gd (fun h18 => ?_)
  refine x_astI C (okO_iff.mp h17) (inB_iff.mp h18) d_Md_tower_41 ?_
  refine x_letS (fun σ19 e20 => ?_)
  exact IH.2.1 v0R (σ19)
set_option maxRecDepth 20000 in
theorem s_Md_tower_1 {G : GX} {p : Program} {l : Launch} {e : Env} {s : State} {m : MethodId} {args : Array Value} {below : List Frame} {meth : Method} {c : Code} {z0 u0 n : Nat} (C : Cx G p s m args meth c prog_14_method_21_code 3 "BellPlateModel" ((some FieldType.int))) (IH : I_Md_tower G p l e s m args below meth c z0 u0 n) (v0R : Nat) (σ : AM) : VX (QM eI G args s below z0 u0) G p l e s m args below meth c 85 z0 u0 3 (lpK (lpn F_Md_tower n) (T_Md_tower_1 v0R σ)) 42 [(0, .ref v0R)] [] σ := by
  unfold T_Md_tower_1
  refine x_aload_n C d_Md_tower_42 0 rfl ?_
  refine x_gd (fun h1 => ?_)
  refine x_getI (k := 8) C (okO_iff.mp h1) rfl j11_ok (by decide) rfl w1860 d_Md_tower_43 ?_
  refine x_if_ne (tgt := 74) C d_Md_tower_46 (by decide) (fun _ => ?_) (fun _ => ?_)
  · refine x_aload_n C d_Md_tower_49 0 rfl ?_
    refine x_gd (fun h2 => ?_)
    refine x_getR (k := 4) (kv := 101) C (okO_iff.mp h1) rfl j11_ok (by decide) rfl (okO_iff.mp h2) (by decide) w1856 d_Md_tower_50 ?_
    refine x_aload_n C d_Md_tower_53 0 rfl ?_
    refine x_getI (k := 7) C (okO_iff.mp h1) rfl j11_ok (by decide) rfl w1859 d_Md_tower_54 ?_
    refine x_gd (fun h3 => ?_)
    refine x_aldI C (okO_iff.mp h2) (inB_iff.mp h3) d_Md_tower_57 ?_
    refine x_if_eq (tgt := 74) C d_Md_tower_58 (by decide) (fun _ => ?_) (fun _ => ?_)
    · exact IH.2.2.1 v0R (σ)
    · refine x_aload_n C d_Md_tower_61 0 rfl ?_
      refine x_callVV (As := []) C (c_Md_readLine G l v0R  σ) (okO_iff.mp h1) rfl w2106 w65 w2104 w2107 w134 k_Md_readLine rfl (by decide) (by decide) rfl (Nat.le_of_ble_eq_true rfl) d_Md_tower_62 (fun r4 σ5 => ?_)
      refine x_aload_n C d_Md_tower_65 0 rfl ?_
      refine x_bipush (v := (59 : Int32)) C d_Md_tower_66 (by decide) ?_
      refine x_gd (fun h8 => ?_)
      refine x_callVV (As := [.int (59 : Int32)]) C (c_Md_takeSign G l v0R (59 : Int32) σ5) (okO_iff.mp h8) rfl w2170 w81 w2168 w2171 w134 k_Md_takeSign rfl (by decide) (by decide) rfl (Nat.le_of_ble_eq_true rfl) d_Md_tower_68 (fun r6 σ7 => ?_)
      refine x_goto (tgt := 42) C d_Md_tower_71 (by decide) ?_
      exact IH.2.1 v0R (σ7)
  · exact IH.2.2.1 v0R (σ)
set_option maxRecDepth 20000 in
theorem s_Md_tower_2 {G : GX} {p : Program} {l : Launch} {e : Env} {s : State} {m : MethodId} {args : Array Value} {below : List Frame} {meth : Method} {c : Code} {z0 u0 n : Nat} (C : Cx G p s m args meth c prog_14_method_21_code 3 "BellPlateModel" ((some FieldType.int))) (IH : I_Md_tower G p l e s m args below meth c z0 u0 n) (v0R : Nat) (σ : AM) : VX (QM eI G args s below z0 u0) G p l e s m args below meth c 85 z0 u0 3 (lpK (lpn F_Md_tower n) (T_Md_tower_2 v0R σ)) 74 [(0, .ref v0R)] [] σ := by
  unfold T_Md_tower_2
  refine x_iconst (v := (1 : Int32)) C d_Md_tower_74 (by decide) ?_
  refine x_istore_n (lv' := [(1, .int (1 : Int32)), (0, .ref v0R)]) C d_Md_tower_75 (by decide) rfl rfl ?_
  refine x_iconst (v := (0 : Int32)) C d_Md_tower_76 (by decide) ?_
  refine x_istore_n (lv' := [(2, .int (0 : Int32)), (1, .int (1 : Int32)), (0, .ref v0R)]) C d_Md_tower_77 (by decide) rfl rfl ?_
  refine x_lv [2, 1, 0] rfl ?_
  exact IH.2.2.2.1 v0R ((1 : Int32)) ((0 : Int32)) (σ)
set_option maxRecDepth 20000 in
theorem s_Md_tower_3 {G : GX} {p : Program} {l : Launch} {e : Env} {s : State} {m : MethodId} {args : Array Value} {below : List Frame} {meth : Method} {c : Code} {z0 u0 n : Nat} (C : Cx G p s m args meth c prog_14_method_21_code 3 "BellPlateModel" ((some FieldType.int))) (IH : I_Md_tower G p l e s m args below meth c z0 u0 n) (v0R : Nat) (v1I : Int32) (v2I : Int32) (σ : AM) : VX (QM eI G args s below z0 u0) G p l e s m args below meth c 85 z0 u0 3 (lpK (lpn F_Md_tower n) (T_Md_tower_3 v0R v1I v2I σ)) 78 [(0, .ref v0R), (1, .int v1I), (2, .int v2I)] [] σ := by
  unfold T_Md_tower_3
  refine x_iload_n C d_Md_tower_78 2 rfl ?_
  refine x_aload_n C d_Md_tower_79 0 rfl ?_
  refine x_gd (fun h1 => ?_)
  refine x_getI (k := 15) C (okO_iff.mp h1) rfl j11_ok (by decide) rfl w1867 d_Md_tower_80 ?_
  refine x_icmp_ge (tgt := 112) C d_Md_tower_83 (by decide) (fun _ => ?_) (fun _ => ?_)
  · refine x_iload_n C d_Md_tower_86 1 rfl ?_
    refine x_aload_n C d_Md_tower_87 0 rfl ?_
    refine x_getI (k := 16) C (okO_iff.mp h1) rfl j11_ok (by decide) rfl w1868 d_Md_tower_88 ?_
    refine x_if_ge (tgt := 98) C d_Md_tower_91 (by decide) (fun _ => ?_) (fun _ => ?_)
    · refine x_iconst (v := (3 : Int32)) C d_Md_tower_94 (by decide) ?_
      refine x_goto (tgt := 102) C d_Md_tower_95 (by decide) ?_
      refine x_lv [0, 2] rfl ?_
      exact IH.2.2.2.2.1 v0R v2I v1I ((3 : Int32)) (σ)
    · refine x_aload_n C d_Md_tower_98 0 rfl ?_
      refine x_getI (k := 16) C (okO_iff.mp h1) rfl j11_ok (by decide) rfl w1868 d_Md_tower_99 ?_
      refine x_lv [0, 2] rfl ?_
      exact IH.2.2.2.2.1 v0R v2I v1I (aI σ v0R 16) (σ)
  · refine x_aload_n C d_Md_tower_112 0 rfl ?_
    refine x_getI (k := 8) C (okO_iff.mp h1) rfl j11_ok (by decide) rfl w1860 d_Md_tower_113 ?_
    refine x_if_ne (tgt := 132) C d_Md_tower_116 (by decide) (fun _ => ?_) (fun _ => ?_)
    · refine x_iload_n C d_Md_tower_119 1 rfl ?_
      refine x_sipush (v := (16384 : Int32)) C d_Md_tower_120 (by decide) ?_
      refine x_icmp_le (tgt := 132) C d_Md_tower_123 (by decide) (fun _ => ?_) (fun _ => ?_)
      · refine x_aload_n C d_Md_tower_126 0 rfl ?_
        refine x_bipush (v := (6 : Int32)) C d_Md_tower_127 (by decide) ?_
        refine x_callVV (As := [.int (6 : Int32)]) C (c_Md_faulty G l v0R (6 : Int32) σ) (okO_iff.mp h1) rfl w2114 w67 w2112 w2115 w134 k_Md_faulty rfl (by decide) (by decide) rfl (Nat.le_of_ble_eq_true rfl) d_Md_tower_129 (fun r2 σ3 => ?_)
        refine x_lv [0] rfl ?_
        exact IH.2.2.2.2.2 v0R (σ3)
      · refine x_lv [0] rfl ?_
        exact IH.2.2.2.2.2 v0R (σ)
    · refine x_lv [0] rfl ?_
      exact IH.2.2.2.2.2 v0R (σ)
set_option maxRecDepth 20000 in
theorem s_Md_tower_4 {G : GX} {p : Program} {l : Launch} {e : Env} {s : State} {m : MethodId} {args : Array Value} {below : List Frame} {meth : Method} {c : Code} {z0 u0 n : Nat} (C : Cx G p s m args meth c prog_14_method_21_code 3 "BellPlateModel" ((some FieldType.int))) (IH : I_Md_tower G p l e s m args below meth c z0 u0 n) (v0R : Nat) (v2I : Int32) (s0I : Int32) (s1I : Int32) (σ : AM) : VX (QM eI G args s below z0 u0) G p l e s m args below meth c 85 z0 u0 3 (lpK (lpn F_Md_tower n) (T_Md_tower_4 v0R v2I s0I s1I σ)) 102 [(0, .ref v0R), (2, .int v2I)] [.int s1I, .int s0I] σ := by
  unfold T_Md_tower_4
  refine x_iconst (v := (1 : Int32)) C d_Md_tower_102 (by decide) ?_
  refine x_iadd C d_Md_tower_103 ?_
  refine x_imul C d_Md_tower_104 ?_
  refine x_letI (fun x1 _ => ?_)
  refine x_istore_n (lv' := [(1, .int x1), (0, .ref v0R), (2, .int v2I)]) C d_Md_tower_105 (by decide) rfl rfl ?_
  refine x_iinc (v := v2I + (1 : Int32)) (lv' := [(2, .int (v2I + (1 : Int32))), (1, .int x1), (0, .ref v0R)]) C d_Md_tower_106 2 rfl rfl (by decide) rfl ?_
  refine x_goto (tgt := 78) C d_Md_tower_109 (by decide) ?_
  refine x_lv [2, 1, 0] rfl ?_
  exact IH.2.2.2.1 v0R x1 (v2I + (1 : Int32)) (σ)
set_option maxRecDepth 20000 in
theorem s_Md_tower_5 {G : GX} {p : Program} {l : Launch} {e : Env} {s : State} {m : MethodId} {args : Array Value} {below : List Frame} {meth : Method} {c : Code} {z0 u0 n : Nat} (C : Cx G p s m args meth c prog_14_method_21_code 3 "BellPlateModel" ((some FieldType.int))) (IH : I_Md_tower G p l e s m args below meth c z0 u0 n) (v0R : Nat) (σ : AM) : VX (QM eI G args s below z0 u0) G p l e s m args below meth c 85 z0 u0 3 (lpK (lpn F_Md_tower n) (T_Md_tower_5 v0R σ)) 132 [(0, .ref v0R)] [] σ := by
  unfold T_Md_tower_5
  refine x_aload_n C d_Md_tower_132 0 rfl ?_
  refine x_gd (fun h1 => ?_)
  refine x_getI (k := 8) C (okO_iff.mp h1) rfl j11_ok (by decide) rfl w1860 d_Md_tower_133 ?_
  refine x_if_le (tgt := 144) C d_Md_tower_136 (by decide) (fun _ => ?_) (fun _ => ?_)
  · refine x_aload_n C d_Md_tower_139 0 rfl ?_
    refine x_getI (k := 8) C (okO_iff.mp h1) rfl j11_ok (by decide) rfl w1860 d_Md_tower_140 ?_
    exact x_iret C d_Md_tower_143
  · refine x_aload_n C d_Md_tower_144 0 rfl ?_
    refine x_callVV (As := []) C (c_Md_takesTower G l v0R  σ) (okO_iff.mp h1) rfl w2174 w82 w2172 w2175 w134 k_Md_takesTower rfl (by decide) (by decide) rfl (Nat.le_of_ble_eq_true rfl) d_Md_tower_145 (fun r2 σ3 => ?_)
    refine x_iconst (v := (0 : Int32)) C d_Md_tower_148 (by decide) ?_
    exact x_iret C d_Md_tower_149
theorem i_Md_tower {G : GX} {p : Program} {l : Launch} {e : Env} {s : State} {m : MethodId} {args : Array Value} {below : List Frame} {meth : Method} {c : Code} {z0 u0 : Nat} (C : Cx G p s m args meth c prog_14_method_21_code 3 "BellPlateModel" ((some FieldType.int))) (n : Nat) : I_Md_tower G p l e s m args below meth c z0 u0 n := by
  induction n with
  | zero => exact ⟨fun _ _ => x_none, fun _ _ => x_none, fun _ _ => x_none, fun _ _ _ _ => x_none, fun _ _ _ _ _ => x_none, fun _ _ => x_none⟩
  | succ n IH => exact ⟨fun v0R σ => s_Md_tower_0 C IH v0R σ, fun v0R σ => s_Md_tower_1 C IH v0R σ, fun v0R σ => s_Md_tower_2 C IH v0R σ, fun v0R v1I v2I σ => s_Md_tower_3 C IH v0R v1I v2I σ, fun v0R v2I s0I s1I σ => s_Md_tower_4 C IH v0R v2I s0I s1I σ, fun v0R σ => s_Md_tower_5 C IH v0R σ⟩
theorem c_Md_tower (G : GX) (l : Launch) (v0R : Nat) (σ : AM) : CT eI G l 85 y_Md_tower prog_14_method_21_code 3 ((some FieldType.int)) [.ref v0R] σ (M_Md_tower v0R σ) := by
  refine ct_of (by decide +kernel) (Nat.le_of_ble_eq_true rfl) (fun p e s m args below meth c C hin => ?_)
  refine x_lve (lv' := [(0, .ref v0R)]) rfl ?_
  intro r σ' h
  obtain ⟨n, hn⟩ := (lp_iff _ _ _).mp h
  exact (i_Md_tower C n).1 v0R σ r σ' hn
/-! BellPlateModel.isWeights(I)Z -/
abbrev y_Md_isWeights : MethodName := ⟨"BellPlateModel", "isWeights", "(I)Z"⟩
theorem k_Md_isWeights : y_Md_isWeights.cls ≠ "java/lang/invoke/MethodHandle" ∧ y_Md_isWeights.cls ≠ "java/lang/invoke/VarHandle" ∧ (parseMethodDescriptor y_Md_isWeights.desc).map (fun d => d.parameters.length) = some 1 := by decide +kernel
theorem d_Md_isWeights_0 : decode prog_14_method_41_code 0 = .ok (.iload_n 1, 1) := by decide +kernel
theorem d_Md_isWeights_1 : decode prog_14_method_41_code 1 = .ok (.ifCond .lt 15, 3) := by decide +kernel
theorem d_Md_isWeights_4 : decode prog_14_method_41_code 4 = .ok (.iload_n 1, 1) := by decide +kernel
theorem d_Md_isWeights_5 : decode prog_14_method_41_code 5 = .ok (.aload_n 0, 1) := by decide +kernel
theorem d_Md_isWeights_6 : decode prog_14_method_41_code 6 = .ok (.getfield 313, 3) := by decide +kernel
theorem d_Md_isWeights_9 : decode prog_14_method_41_code 9 = .ok (.if_icmp .ge 7, 3) := by decide +kernel
theorem d_Md_isWeights_12 : decode prog_14_method_41_code 12 = .ok (.iconst 1, 1) := by decide +kernel
theorem d_Md_isWeights_13 : decode prog_14_method_41_code 13 = .ok (.goto 4, 3) := by decide +kernel
theorem d_Md_isWeights_16 : decode prog_14_method_41_code 16 = .ok (.iconst 0, 1) := by decide +kernel
theorem d_Md_isWeights_17 : decode prog_14_method_41_code 17 = .ok (.ireturn, 1) := by decide +kernel
abbrev S_Md_isWeights : Type := Nat × Nat × Int32 × Int32 × AM
noncomputable def T_Md_isWeights_0 (v0R : Nat) (v1I : Int32) (σ : AM) : S_Md_isWeights ⊕ Option (Int32 × AM) :=
  if v1I < 0 then (.inl (1, 0, 0, 0, σ)) else (gdT (okO σ v0R 12) <| if v1I < (aI σ v0R 26) then (.inl (2, 0, 0, (1 : Int32), σ)) else (.inl (1, 0, 0, 0, σ)))
noncomputable def T_Md_isWeights_1  (σ : AM) : S_Md_isWeights ⊕ Option (Int32 × AM) :=
  .inl (2, 0, 0, (0 : Int32), σ)
noncomputable def T_Md_isWeights_2 (s0I : Int32) (σ : AM) : S_Md_isWeights ⊕ Option (Int32 × AM) :=
  gdT (isB s0I) <| .inr (some (s0I, σ))
noncomputable def F_Md_isWeights : S_Md_isWeights → S_Md_isWeights ⊕ Option (Int32 × AM) := fun s => match s.1 with
  | 0 => T_Md_isWeights_0 (s.2.1) (s.2.2.1) (s.2.2.2.2)
  | 1 => T_Md_isWeights_1  (s.2.2.2.2)
  | _ => T_Md_isWeights_2 (s.2.2.2.1) (s.2.2.2.2)
noncomputable def L_Md_isWeights_0 (v0R : Nat) (v1I : Int32) (σ : AM) : Option (Int32 × AM) := lp F_Md_isWeights (0, v0R, v1I, 0, σ)
noncomputable def L_Md_isWeights_1  (σ : AM) : Option (Int32 × AM) := lp F_Md_isWeights (1, 0, 0, 0, σ)
noncomputable def L_Md_isWeights_2 (s0I : Int32) (σ : AM) : Option (Int32 × AM) := lp F_Md_isWeights (2, 0, 0, s0I, σ)
set_option maxRecDepth 20000 in
theorem E_Md_isWeights_0 (v0R : Nat) (v1I : Int32) (σ : AM) : L_Md_isWeights_0 v0R v1I σ = (if v1I < 0 then (L_Md_isWeights_1 σ) else (gd (okO σ v0R 12) <| if v1I < (aI σ v0R 26) then (L_Md_isWeights_2 ((1 : Int32)) σ) else (L_Md_isWeights_1 σ))) := by
  unfold L_Md_isWeights_0
  rw [lp_eq]
  show lpK (lp F_Md_isWeights) (T_Md_isWeights_0 v0R v1I σ) = _
  unfold T_Md_isWeights_0
  simp only [lpK_ite, lq_inl, lq_inr, lpK_bnd, lpK_gd, lq_let]
  try rfl
set_option maxRecDepth 20000 in
theorem E_Md_isWeights_1  (σ : AM) : L_Md_isWeights_1  σ = (L_Md_isWeights_2 ((0 : Int32)) σ) := by
  unfold L_Md_isWeights_1
  rw [lp_eq]
  show lpK (lp F_Md_isWeights) (T_Md_isWeights_1  σ) = _
  unfold T_Md_isWeights_1
  simp only [lpK_ite, lq_inl, lq_inr, lpK_bnd, lpK_gd, lq_let]
  try rfl
set_option maxRecDepth 20000 in
theorem E_Md_isWeights_2 (s0I : Int32) (σ : AM) : L_Md_isWeights_2 s0I σ = (gd (isB s0I) <| (some (s0I, σ))) := by
  unfold L_Md_isWeights_2
  rw [lp_eq]
  show lpK (lp F_Md_isWeights) (T_Md_isWeights_2 s0I σ) = _
  unfold T_Md_isWeights_2
  simp only [lpK_ite, lq_inl, lq_inr, lpK_bnd, lpK_gd, lq_let]
  try rfl
noncomputable def M_Md_isWeights (v0R : Nat) (v1I : Int32) (σ : AM) : Option (Int32 × AM) := mw σ (L_Md_isWeights_0 v0R v1I σ)
def I_Md_isWeights (G : GX) (p : Program) (l : Launch) (e : Env) (s : State) (m : MethodId) (args : Array Value) (below : List Frame) (meth : Method) (c : Code) (z0 u0 n : Nat) : Prop :=
  (∀ (v0R : Nat) (v1I : Int32) (σ : AM), VX (QM eI G args s below z0 u0) G p l e s m args below meth c 0 z0 u0 2 (lpn F_Md_isWeights n (0, v0R, v1I, 0, σ)) 0 [(0, .ref v0R), (1, .int v1I)] [] σ) ∧
  (∀ (σ : AM), VX (QM eI G args s below z0 u0) G p l e s m args below meth c 0 z0 u0 2 (lpn F_Md_isWeights n (1, 0, 0, 0, σ)) 16 [] [] σ) ∧
  (∀ (s0I : Int32) (σ : AM), VX (QM eI G args s below z0 u0) G p l e s m args below meth c 0 z0 u0 2 (lpn F_Md_isWeights n (2, 0, 0, s0I, σ)) 17 [] [.int s0I] σ)
set_option maxRecDepth 20000 in
theorem s_Md_isWeights_0 {G : GX} {p : Program} {l : Launch} {e : Env} {s : State} {m : MethodId} {args : Array Value} {below : List Frame} {meth : Method} {c : Code} {z0 u0 n : Nat} (C : Cx G p s m args meth c prog_14_method_41_code 2 "BellPlateModel" ((some FieldType.boolean))) (IH : I_Md_isWeights G p l e s m args below meth c z0 u0 n) (v0R : Nat) (v1I : Int32) (σ : AM) : VX (QM eI G args s below z0 u0) G p l e s m args below meth c 0 z0 u0 2 (lpK (lpn F_Md_isWeights n) (T_Md_isWeights_0 v0R v1I σ)) 0 [(0, .ref v0R), (1, .int v1I)] [] σ := by
  unfold T_Md_isWeights_0
  refine x_iload_n C d_Md_isWeights_0 1 rfl ?_
  refine x_if_lt (tgt := 16) C d_Md_isWeights_1 (by decide) (fun _ => ?_) (fun _ => ?_)
  · refine x_lv [] rfl ?_
    exact IH.2.1  (σ)
  · refine x_iload_n C d_Md_isWeights_4 1 rfl ?_
    refine x_aload_n C d_Md_isWeights_5 0 rfl ?_
    refine x_gd (fun h1 => ?_)
    refine x_getI (k := 26) C (okO_iff.mp h1) rfl j11_ok (by decide) rfl w1878 d_Md_isWeights_6 ?_
    refine x_icmp_ge (tgt := 16) C d_Md_isWeights_9 (by decide) (fun _ => ?_) (fun _ => ?_)
    · refine x_iconst (v := (1 : Int32)) C d_Md_isWeights_12 (by decide) ?_
      refine x_goto (tgt := 17) C d_Md_isWeights_13 (by decide) ?_
      refine x_lv [] rfl ?_
      exact IH.2.2 ((1 : Int32)) (σ)
    · refine x_lv [] rfl ?_
      exact IH.2.1  (σ)
set_option maxRecDepth 20000 in
theorem s_Md_isWeights_1 {G : GX} {p : Program} {l : Launch} {e : Env} {s : State} {m : MethodId} {args : Array Value} {below : List Frame} {meth : Method} {c : Code} {z0 u0 n : Nat} (C : Cx G p s m args meth c prog_14_method_41_code 2 "BellPlateModel" ((some FieldType.boolean))) (IH : I_Md_isWeights G p l e s m args below meth c z0 u0 n)  (σ : AM) : VX (QM eI G args s below z0 u0) G p l e s m args below meth c 0 z0 u0 2 (lpK (lpn F_Md_isWeights n) (T_Md_isWeights_1  σ)) 16 [] [] σ := by
  unfold T_Md_isWeights_1
  refine x_iconst (v := (0 : Int32)) C d_Md_isWeights_16 (by decide) ?_
  exact IH.2.2 ((0 : Int32)) (σ)
set_option maxRecDepth 20000 in
theorem s_Md_isWeights_2 {G : GX} {p : Program} {l : Launch} {e : Env} {s : State} {m : MethodId} {args : Array Value} {below : List Frame} {meth : Method} {c : Code} {z0 u0 n : Nat} (C : Cx G p s m args meth c prog_14_method_41_code 2 "BellPlateModel" ((some FieldType.boolean))) (IH : I_Md_isWeights G p l e s m args below meth c z0 u0 n) (s0I : Int32) (σ : AM) : VX (QM eI G args s below z0 u0) G p l e s m args below meth c 0 z0 u0 2 (lpK (lpn F_Md_isWeights n) (T_Md_isWeights_2 s0I σ)) 17 [] [.int s0I] σ := by
  unfold T_Md_isWeights_2
  refine x_gd (fun h1 => ?_)
  exact x_zret C (isB_narrow h1) d_Md_isWeights_17
theorem i_Md_isWeights {G : GX} {p : Program} {l : Launch} {e : Env} {s : State} {m : MethodId} {args : Array Value} {below : List Frame} {meth : Method} {c : Code} {z0 u0 : Nat} (C : Cx G p s m args meth c prog_14_method_41_code 2 "BellPlateModel" ((some FieldType.boolean))) (n : Nat) : I_Md_isWeights G p l e s m args below meth c z0 u0 n := by
  induction n with
  | zero => exact ⟨fun _ _ _ => x_none, fun _ => x_none, fun _ _ => x_none⟩
  | succ n IH => exact ⟨fun v0R v1I σ => s_Md_isWeights_0 C IH v0R v1I σ, fun σ => s_Md_isWeights_1 C IH σ, fun s0I σ => s_Md_isWeights_2 C IH s0I σ⟩
theorem c_Md_isWeights (G : GX) (l : Launch) (v0R : Nat) (v1I : Int32) (σ : AM) : CT eI G l 0 y_Md_isWeights prog_14_method_41_code 2 ((some FieldType.boolean)) [.ref v0R, .int v1I] σ (M_Md_isWeights v0R v1I σ) := by
  refine ct_of (by decide +kernel) (Nat.le_of_ble_eq_true rfl) (fun p e s m args below meth c C hin => ?_)
  refine x_lve (lv' := [(0, .ref v0R), (1, .int v1I)]) rfl ?_
  intro r σ' h
  obtain ⟨n, hn⟩ := (lp_iff _ _ _).mp h
  exact (i_Md_isWeights C n).1 v0R v1I σ r σ' hn
/-! BellPlateModel.isSet(I)Z -/
abbrev y_Md_isSet : MethodName := ⟨"BellPlateModel", "isSet", "(I)Z"⟩
theorem k_Md_isSet : y_Md_isSet.cls ≠ "java/lang/invoke/MethodHandle" ∧ y_Md_isSet.cls ≠ "java/lang/invoke/VarHandle" ∧ (parseMethodDescriptor y_Md_isSet.desc).map (fun d => d.parameters.length) = some 1 := by decide +kernel
theorem d_Md_isSet_0 : decode prog_14_method_42_code 0 = .ok (.iload_n 1, 1) := by decide +kernel
theorem d_Md_isSet_1 : decode prog_14_method_42_code 1 = .ok (.ifCond .lt 15, 3) := by decide +kernel
theorem d_Md_isSet_4 : decode prog_14_method_42_code 4 = .ok (.iload_n 1, 1) := by decide +kernel
theorem d_Md_isSet_5 : decode prog_14_method_42_code 5 = .ok (.aload_n 0, 1) := by decide +kernel
theorem d_Md_isSet_6 : decode prog_14_method_42_code 6 = .ok (.invokevirtual 306, 3) := by decide +kernel
theorem d_Md_isSet_9 : decode prog_14_method_42_code 9 = .ok (.if_icmp .ge 7, 3) := by decide +kernel
theorem d_Md_isSet_12 : decode prog_14_method_42_code 12 = .ok (.iconst 1, 1) := by decide +kernel
theorem d_Md_isSet_13 : decode prog_14_method_42_code 13 = .ok (.goto 4, 3) := by decide +kernel
theorem d_Md_isSet_16 : decode prog_14_method_42_code 16 = .ok (.iconst 0, 1) := by decide +kernel
theorem d_Md_isSet_17 : decode prog_14_method_42_code 17 = .ok (.ireturn, 1) := by decide +kernel
abbrev S_Md_isSet : Type := Nat × Nat × Int32 × Int32 × AM
noncomputable def T_Md_isSet_0 (v0R : Nat) (v1I : Int32) (σ : AM) : S_Md_isSet ⊕ Option (Int32 × AM) :=
  if v1I < 0 then (.inl (1, 0, 0, 0, σ)) else (gdT (okO σ v0R 12) <| bndT (M_Md_sets v0R σ) fun r1 σ2 => if v1I < r1 then (.inl (2, 0, 0, (1 : Int32), σ2)) else (.inl (1, 0, 0, 0, σ2)))
noncomputable def T_Md_isSet_1  (σ : AM) : S_Md_isSet ⊕ Option (Int32 × AM) :=
  .inl (2, 0, 0, (0 : Int32), σ)
noncomputable def T_Md_isSet_2 (s0I : Int32) (σ : AM) : S_Md_isSet ⊕ Option (Int32 × AM) :=
  gdT (isB s0I) <| .inr (some (s0I, σ))
noncomputable def F_Md_isSet : S_Md_isSet → S_Md_isSet ⊕ Option (Int32 × AM) := fun s => match s.1 with
  | 0 => T_Md_isSet_0 (s.2.1) (s.2.2.1) (s.2.2.2.2)
  | 1 => T_Md_isSet_1  (s.2.2.2.2)
  | _ => T_Md_isSet_2 (s.2.2.2.1) (s.2.2.2.2)
noncomputable def L_Md_isSet_0 (v0R : Nat) (v1I : Int32) (σ : AM) : Option (Int32 × AM) := lp F_Md_isSet (0, v0R, v1I, 0, σ)
noncomputable def L_Md_isSet_1  (σ : AM) : Option (Int32 × AM) := lp F_Md_isSet (1, 0, 0, 0, σ)
noncomputable def L_Md_isSet_2 (s0I : Int32) (σ : AM) : Option (Int32 × AM) := lp F_Md_isSet (2, 0, 0, s0I, σ)
set_option maxRecDepth 20000 in
theorem E_Md_isSet_0 (v0R : Nat) (v1I : Int32) (σ : AM) : L_Md_isSet_0 v0R v1I σ = (if v1I < 0 then (L_Md_isSet_1 σ) else (gd (okO σ v0R 12) <| bnd (M_Md_sets v0R σ) fun r1 σ2 => if v1I < r1 then (L_Md_isSet_2 ((1 : Int32)) σ2) else (L_Md_isSet_1 σ2))) := by
  unfold L_Md_isSet_0
  rw [lp_eq]
  show lpK (lp F_Md_isSet) (T_Md_isSet_0 v0R v1I σ) = _
  unfold T_Md_isSet_0
  simp only [lpK_ite, lq_inl, lq_inr, lpK_bnd, lpK_gd, lq_let]
  try rfl
set_option maxRecDepth 20000 in
theorem E_Md_isSet_1  (σ : AM) : L_Md_isSet_1  σ = (L_Md_isSet_2 ((0 : Int32)) σ) := by
  unfold L_Md_isSet_1
  rw [lp_eq]
  show lpK (lp F_Md_isSet) (T_Md_isSet_1  σ) = _
  unfold T_Md_isSet_1
  simp only [lpK_ite, lq_inl, lq_inr, lpK_bnd, lpK_gd, lq_let]
  try rfl
set_option maxRecDepth 20000 in
theorem E_Md_isSet_2 (s0I : Int32) (σ : AM) : L_Md_isSet_2 s0I σ = (gd (isB s0I) <| (some (s0I, σ))) := by
  unfold L_Md_isSet_2
  rw [lp_eq]
  show lpK (lp F_Md_isSet) (T_Md_isSet_2 s0I σ) = _
  unfold T_Md_isSet_2
  simp only [lpK_ite, lq_inl, lq_inr, lpK_bnd, lpK_gd, lq_let]
  try rfl
noncomputable def M_Md_isSet (v0R : Nat) (v1I : Int32) (σ : AM) : Option (Int32 × AM) := mw σ (L_Md_isSet_0 v0R v1I σ)
def I_Md_isSet (G : GX) (p : Program) (l : Launch) (e : Env) (s : State) (m : MethodId) (args : Array Value) (below : List Frame) (meth : Method) (c : Code) (z0 u0 n : Nat) : Prop :=
  (∀ (v0R : Nat) (v1I : Int32) (σ : AM), VX (QM eI G args s below z0 u0) G p l e s m args below meth c 1 z0 u0 2 (lpn F_Md_isSet n (0, v0R, v1I, 0, σ)) 0 [(0, .ref v0R), (1, .int v1I)] [] σ) ∧
  (∀ (σ : AM), VX (QM eI G args s below z0 u0) G p l e s m args below meth c 1 z0 u0 2 (lpn F_Md_isSet n (1, 0, 0, 0, σ)) 16 [] [] σ) ∧
  (∀ (s0I : Int32) (σ : AM), VX (QM eI G args s below z0 u0) G p l e s m args below meth c 1 z0 u0 2 (lpn F_Md_isSet n (2, 0, 0, s0I, σ)) 17 [] [.int s0I] σ)
set_option maxRecDepth 20000 in
theorem s_Md_isSet_0 {G : GX} {p : Program} {l : Launch} {e : Env} {s : State} {m : MethodId} {args : Array Value} {below : List Frame} {meth : Method} {c : Code} {z0 u0 n : Nat} (C : Cx G p s m args meth c prog_14_method_42_code 2 "BellPlateModel" ((some FieldType.boolean))) (IH : I_Md_isSet G p l e s m args below meth c z0 u0 n) (v0R : Nat) (v1I : Int32) (σ : AM) : VX (QM eI G args s below z0 u0) G p l e s m args below meth c 1 z0 u0 2 (lpK (lpn F_Md_isSet n) (T_Md_isSet_0 v0R v1I σ)) 0 [(0, .ref v0R), (1, .int v1I)] [] σ := by
  unfold T_Md_isSet_0
  refine x_iload_n C d_Md_isSet_0 1 rfl ?_
  refine x_if_lt (tgt := 16) C d_Md_isSet_1 (by decide) (fun _ => ?_) (fun _ => ?_)
  · refine x_lv [] rfl ?_
    exact IH.2.1  (σ)
  · refine x_iload_n C d_Md_isSet_4 1 rfl ?_
    refine x_aload_n C d_Md_isSet_5 0 rfl ?_
    refine x_gd (fun h3 => ?_)
    refine x_callVI (As := []) C (c_Md_sets G l v0R  σ) (okO_iff.mp h3) rfl w1826 w58 w1824 w1827 w134 k_Md_sets rfl (by decide) (by decide) rfl (Nat.le_of_ble_eq_true rfl) d_Md_isSet_6 (fun r1 σ2 => ?_)
    refine x_icmp_ge (tgt := 16) C d_Md_isSet_9 (by decide) (fun _ => ?_) (fun _ => ?_)
    · refine x_iconst (v := (1 : Int32)) C d_Md_isSet_12 (by decide) ?_
      refine x_goto (tgt := 17) C d_Md_isSet_13 (by decide) ?_
      refine x_lv [] rfl ?_
      exact IH.2.2 ((1 : Int32)) (σ2)
    · refine x_lv [] rfl ?_
      exact IH.2.1  (σ2)
set_option maxRecDepth 20000 in
theorem s_Md_isSet_1 {G : GX} {p : Program} {l : Launch} {e : Env} {s : State} {m : MethodId} {args : Array Value} {below : List Frame} {meth : Method} {c : Code} {z0 u0 n : Nat} (C : Cx G p s m args meth c prog_14_method_42_code 2 "BellPlateModel" ((some FieldType.boolean))) (IH : I_Md_isSet G p l e s m args below meth c z0 u0 n)  (σ : AM) : VX (QM eI G args s below z0 u0) G p l e s m args below meth c 1 z0 u0 2 (lpK (lpn F_Md_isSet n) (T_Md_isSet_1  σ)) 16 [] [] σ := by
  unfold T_Md_isSet_1
  refine x_iconst (v := (0 : Int32)) C d_Md_isSet_16 (by decide) ?_
  exact IH.2.2 ((0 : Int32)) (σ)
set_option maxRecDepth 20000 in
theorem s_Md_isSet_2 {G : GX} {p : Program} {l : Launch} {e : Env} {s : State} {m : MethodId} {args : Array Value} {below : List Frame} {meth : Method} {c : Code} {z0 u0 n : Nat} (C : Cx G p s m args meth c prog_14_method_42_code 2 "BellPlateModel" ((some FieldType.boolean))) (IH : I_Md_isSet G p l e s m args below meth c z0 u0 n) (s0I : Int32) (σ : AM) : VX (QM eI G args s below z0 u0) G p l e s m args below meth c 1 z0 u0 2 (lpK (lpn F_Md_isSet n) (T_Md_isSet_2 s0I σ)) 17 [] [.int s0I] σ := by
  unfold T_Md_isSet_2
  refine x_gd (fun h1 => ?_)
  exact x_zret C (isB_narrow h1) d_Md_isSet_17
theorem i_Md_isSet {G : GX} {p : Program} {l : Launch} {e : Env} {s : State} {m : MethodId} {args : Array Value} {below : List Frame} {meth : Method} {c : Code} {z0 u0 : Nat} (C : Cx G p s m args meth c prog_14_method_42_code 2 "BellPlateModel" ((some FieldType.boolean))) (n : Nat) : I_Md_isSet G p l e s m args below meth c z0 u0 n := by
  induction n with
  | zero => exact ⟨fun _ _ _ => x_none, fun _ => x_none, fun _ _ => x_none⟩
  | succ n IH => exact ⟨fun v0R v1I σ => s_Md_isSet_0 C IH v0R v1I σ, fun σ => s_Md_isSet_1 C IH σ, fun s0I σ => s_Md_isSet_2 C IH s0I σ⟩
theorem c_Md_isSet (G : GX) (l : Launch) (v0R : Nat) (v1I : Int32) (σ : AM) : CT eI G l 1 y_Md_isSet prog_14_method_42_code 2 ((some FieldType.boolean)) [.ref v0R, .int v1I] σ (M_Md_isSet v0R v1I σ) := by
  refine ct_of (by decide +kernel) (Nat.le_of_ble_eq_true rfl) (fun p e s m args below meth c C hin => ?_)
  refine x_lve (lv' := [(0, .ref v0R), (1, .int v1I)]) rfl ?_
  intro r σ' h
  obtain ⟨n, hn⟩ := (lp_iff _ _ _).mp h
  exact (i_Md_isSet C n).1 v0R v1I σ r σ' hn
/-! BellPlateModel.isThing(I)Z -/
abbrev y_Md_isThing : MethodName := ⟨"BellPlateModel", "isThing", "(I)Z"⟩
theorem k_Md_isThing : y_Md_isThing.cls ≠ "java/lang/invoke/MethodHandle" ∧ y_Md_isThing.cls ≠ "java/lang/invoke/VarHandle" ∧ (parseMethodDescriptor y_Md_isThing.desc).map (fun d => d.parameters.length) = some 1 := by decide +kernel
theorem d_Md_isThing_0 : decode prog_14_method_43_code 0 = .ok (.iload_n 1, 1) := by decide +kernel
theorem d_Md_isThing_1 : decode prog_14_method_43_code 1 = .ok (.ifCond .lt 15, 3) := by decide +kernel
theorem d_Md_isThing_4 : decode prog_14_method_43_code 4 = .ok (.iload_n 1, 1) := by decide +kernel
theorem d_Md_isThing_5 : decode prog_14_method_43_code 5 = .ok (.aload_n 0, 1) := by decide +kernel
theorem d_Md_isThing_6 : decode prog_14_method_43_code 6 = .ok (.getfield 239, 3) := by decide +kernel
theorem d_Md_isThing_9 : decode prog_14_method_43_code 9 = .ok (.if_icmp .ge 7, 3) := by decide +kernel
theorem d_Md_isThing_12 : decode prog_14_method_43_code 12 = .ok (.iconst 1, 1) := by decide +kernel
theorem d_Md_isThing_13 : decode prog_14_method_43_code 13 = .ok (.goto 4, 3) := by decide +kernel
theorem d_Md_isThing_16 : decode prog_14_method_43_code 16 = .ok (.iconst 0, 1) := by decide +kernel
theorem d_Md_isThing_17 : decode prog_14_method_43_code 17 = .ok (.ireturn, 1) := by decide +kernel
abbrev S_Md_isThing : Type := Nat × Nat × Int32 × Int32 × AM
noncomputable def T_Md_isThing_0 (v0R : Nat) (v1I : Int32) (σ : AM) : S_Md_isThing ⊕ Option (Int32 × AM) :=
  if v1I < 0 then (.inl (1, 0, 0, 0, σ)) else (gdT (okO σ v0R 12) <| if v1I < (aI σ v0R 10) then (.inl (2, 0, 0, (1 : Int32), σ)) else (.inl (1, 0, 0, 0, σ)))
noncomputable def T_Md_isThing_1  (σ : AM) : S_Md_isThing ⊕ Option (Int32 × AM) :=
  .inl (2, 0, 0, (0 : Int32), σ)
noncomputable def T_Md_isThing_2 (s0I : Int32) (σ : AM) : S_Md_isThing ⊕ Option (Int32 × AM) :=
  gdT (isB s0I) <| .inr (some (s0I, σ))
noncomputable def F_Md_isThing : S_Md_isThing → S_Md_isThing ⊕ Option (Int32 × AM) := fun s => match s.1 with
  | 0 => T_Md_isThing_0 (s.2.1) (s.2.2.1) (s.2.2.2.2)
  | 1 => T_Md_isThing_1  (s.2.2.2.2)
  | _ => T_Md_isThing_2 (s.2.2.2.1) (s.2.2.2.2)
noncomputable def L_Md_isThing_0 (v0R : Nat) (v1I : Int32) (σ : AM) : Option (Int32 × AM) := lp F_Md_isThing (0, v0R, v1I, 0, σ)
noncomputable def L_Md_isThing_1  (σ : AM) : Option (Int32 × AM) := lp F_Md_isThing (1, 0, 0, 0, σ)
noncomputable def L_Md_isThing_2 (s0I : Int32) (σ : AM) : Option (Int32 × AM) := lp F_Md_isThing (2, 0, 0, s0I, σ)
set_option maxRecDepth 20000 in
theorem E_Md_isThing_0 (v0R : Nat) (v1I : Int32) (σ : AM) : L_Md_isThing_0 v0R v1I σ = (if v1I < 0 then (L_Md_isThing_1 σ) else (gd (okO σ v0R 12) <| if v1I < (aI σ v0R 10) then (L_Md_isThing_2 ((1 : Int32)) σ) else (L_Md_isThing_1 σ))) := by
  unfold L_Md_isThing_0
  rw [lp_eq]
  show lpK (lp F_Md_isThing) (T_Md_isThing_0 v0R v1I σ) = _
  unfold T_Md_isThing_0
  simp only [lpK_ite, lq_inl, lq_inr, lpK_bnd, lpK_gd, lq_let]
  try rfl
set_option maxRecDepth 20000 in
theorem E_Md_isThing_1  (σ : AM) : L_Md_isThing_1  σ = (L_Md_isThing_2 ((0 : Int32)) σ) := by
  unfold L_Md_isThing_1
  rw [lp_eq]
  show lpK (lp F_Md_isThing) (T_Md_isThing_1  σ) = _
  unfold T_Md_isThing_1
  simp only [lpK_ite, lq_inl, lq_inr, lpK_bnd, lpK_gd, lq_let]
  try rfl
set_option maxRecDepth 20000 in
theorem E_Md_isThing_2 (s0I : Int32) (σ : AM) : L_Md_isThing_2 s0I σ = (gd (isB s0I) <| (some (s0I, σ))) := by
  unfold L_Md_isThing_2
  rw [lp_eq]
  show lpK (lp F_Md_isThing) (T_Md_isThing_2 s0I σ) = _
  unfold T_Md_isThing_2
  simp only [lpK_ite, lq_inl, lq_inr, lpK_bnd, lpK_gd, lq_let]
  try rfl
noncomputable def M_Md_isThing (v0R : Nat) (v1I : Int32) (σ : AM) : Option (Int32 × AM) := mw σ (L_Md_isThing_0 v0R v1I σ)
def I_Md_isThing (G : GX) (p : Program) (l : Launch) (e : Env) (s : State) (m : MethodId) (args : Array Value) (below : List Frame) (meth : Method) (c : Code) (z0 u0 n : Nat) : Prop :=
  (∀ (v0R : Nat) (v1I : Int32) (σ : AM), VX (QM eI G args s below z0 u0) G p l e s m args below meth c 0 z0 u0 2 (lpn F_Md_isThing n (0, v0R, v1I, 0, σ)) 0 [(0, .ref v0R), (1, .int v1I)] [] σ) ∧
  (∀ (σ : AM), VX (QM eI G args s below z0 u0) G p l e s m args below meth c 0 z0 u0 2 (lpn F_Md_isThing n (1, 0, 0, 0, σ)) 16 [] [] σ) ∧
  (∀ (s0I : Int32) (σ : AM), VX (QM eI G args s below z0 u0) G p l e s m args below meth c 0 z0 u0 2 (lpn F_Md_isThing n (2, 0, 0, s0I, σ)) 17 [] [.int s0I] σ)
set_option maxRecDepth 20000 in
theorem s_Md_isThing_0 {G : GX} {p : Program} {l : Launch} {e : Env} {s : State} {m : MethodId} {args : Array Value} {below : List Frame} {meth : Method} {c : Code} {z0 u0 n : Nat} (C : Cx G p s m args meth c prog_14_method_43_code 2 "BellPlateModel" ((some FieldType.boolean))) (IH : I_Md_isThing G p l e s m args below meth c z0 u0 n) (v0R : Nat) (v1I : Int32) (σ : AM) : VX (QM eI G args s below z0 u0) G p l e s m args below meth c 0 z0 u0 2 (lpK (lpn F_Md_isThing n) (T_Md_isThing_0 v0R v1I σ)) 0 [(0, .ref v0R), (1, .int v1I)] [] σ := by
  unfold T_Md_isThing_0
  refine x_iload_n C d_Md_isThing_0 1 rfl ?_
  refine x_if_lt (tgt := 16) C d_Md_isThing_1 (by decide) (fun _ => ?_) (fun _ => ?_)
  · refine x_lv [] rfl ?_
    exact IH.2.1  (σ)
  · refine x_iload_n C d_Md_isThing_4 1 rfl ?_
    refine x_aload_n C d_Md_isThing_5 0 rfl ?_
    refine x_gd (fun h1 => ?_)
    refine x_getI (k := 10) C (okO_iff.mp h1) rfl j11_ok (by decide) rfl w1862 d_Md_isThing_6 ?_
    refine x_icmp_ge (tgt := 16) C d_Md_isThing_9 (by decide) (fun _ => ?_) (fun _ => ?_)
    · refine x_iconst (v := (1 : Int32)) C d_Md_isThing_12 (by decide) ?_
      refine x_goto (tgt := 17) C d_Md_isThing_13 (by decide) ?_
      refine x_lv [] rfl ?_
      exact IH.2.2 ((1 : Int32)) (σ)
    · refine x_lv [] rfl ?_
      exact IH.2.1  (σ)
set_option maxRecDepth 20000 in
theorem s_Md_isThing_1 {G : GX} {p : Program} {l : Launch} {e : Env} {s : State} {m : MethodId} {args : Array Value} {below : List Frame} {meth : Method} {c : Code} {z0 u0 n : Nat} (C : Cx G p s m args meth c prog_14_method_43_code 2 "BellPlateModel" ((some FieldType.boolean))) (IH : I_Md_isThing G p l e s m args below meth c z0 u0 n)  (σ : AM) : VX (QM eI G args s below z0 u0) G p l e s m args below meth c 0 z0 u0 2 (lpK (lpn F_Md_isThing n) (T_Md_isThing_1  σ)) 16 [] [] σ := by
  unfold T_Md_isThing_1
  refine x_iconst (v := (0 : Int32)) C d_Md_isThing_16 (by decide) ?_
  exact IH.2.2 ((0 : Int32)) (σ)
set_option maxRecDepth 20000 in
theorem s_Md_isThing_2 {G : GX} {p : Program} {l : Launch} {e : Env} {s : State} {m : MethodId} {args : Array Value} {below : List Frame} {meth : Method} {c : Code} {z0 u0 n : Nat} (C : Cx G p s m args meth c prog_14_method_43_code 2 "BellPlateModel" ((some FieldType.boolean))) (IH : I_Md_isThing G p l e s m args below meth c z0 u0 n) (s0I : Int32) (σ : AM) : VX (QM eI G args s below z0 u0) G p l e s m args below meth c 0 z0 u0 2 (lpK (lpn F_Md_isThing n) (T_Md_isThing_2 s0I σ)) 17 [] [.int s0I] σ := by
  unfold T_Md_isThing_2
  refine x_gd (fun h1 => ?_)
  exact x_zret C (isB_narrow h1) d_Md_isThing_17
theorem i_Md_isThing {G : GX} {p : Program} {l : Launch} {e : Env} {s : State} {m : MethodId} {args : Array Value} {below : List Frame} {meth : Method} {c : Code} {z0 u0 : Nat} (C : Cx G p s m args meth c prog_14_method_43_code 2 "BellPlateModel" ((some FieldType.boolean))) (n : Nat) : I_Md_isThing G p l e s m args below meth c z0 u0 n := by
  induction n with
  | zero => exact ⟨fun _ _ _ => x_none, fun _ => x_none, fun _ _ => x_none⟩
  | succ n IH => exact ⟨fun v0R v1I σ => s_Md_isThing_0 C IH v0R v1I σ, fun σ => s_Md_isThing_1 C IH σ, fun s0I σ => s_Md_isThing_2 C IH s0I σ⟩
theorem c_Md_isThing (G : GX) (l : Launch) (v0R : Nat) (v1I : Int32) (σ : AM) : CT eI G l 0 y_Md_isThing prog_14_method_43_code 2 ((some FieldType.boolean)) [.ref v0R, .int v1I] σ (M_Md_isThing v0R v1I σ) := by
  refine ct_of (by decide +kernel) (Nat.le_of_ble_eq_true rfl) (fun p e s m args below meth c C hin => ?_)
  refine x_lve (lv' := [(0, .ref v0R), (1, .int v1I)]) rfl ?_
  intro r σ' h
  obtain ⟨n, hn⟩ := (lp_iff _ _ _).mp h
  exact (i_Md_isThing C n).1 v0R v1I σ r σ' hn
