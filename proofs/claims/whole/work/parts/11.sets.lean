/-! BellPlate$Sets.ofSize(I)J -/
abbrev y_St_ofSize : MethodName := ⟨"BellPlate$Sets", "ofSize", "(I)J"⟩
theorem k_St_ofSize : y_St_ofSize.cls ≠ "java/lang/invoke/MethodHandle" ∧ y_St_ofSize.cls ≠ "java/lang/invoke/VarHandle" ∧ (parseMethodDescriptor y_St_ofSize.desc).map (fun d => d.parameters.length) = some 1 := by decide +kernel
theorem d_St_ofSize_0 : decode prog_11_method_3_code 0 = .ok (.iload_n 0, 1) := by decide +kernel
theorem d_St_ofSize_1 : decode prog_11_method_3_code 1 = .ok (.ifCond .lt 19, 3) := by decide +kernel
theorem d_St_ofSize_4 : decode prog_11_method_3_code 4 = .ok (.iload_n 0, 1) := by decide +kernel
theorem d_St_ofSize_5 : decode prog_11_method_3_code 5 = .ok (.getstatic 9, 3) := by decide +kernel
theorem d_St_ofSize_8 : decode prog_11_method_3_code 8 = .ok (.arraylength, 1) := by decide +kernel
theorem d_St_ofSize_9 : decode prog_11_method_3_code 9 = .ok (.if_icmp .ge 11, 3) := by decide +kernel
theorem d_St_ofSize_12 : decode prog_11_method_3_code 12 = .ok (.getstatic 9, 3) := by decide +kernel
theorem d_St_ofSize_15 : decode prog_11_method_3_code 15 = .ok (.iload_n 0, 1) := by decide +kernel
theorem d_St_ofSize_16 : decode prog_11_method_3_code 16 = .ok (.laload, 1) := by decide +kernel
theorem d_St_ofSize_17 : decode prog_11_method_3_code 17 = .ok (.goto 4, 3) := by decide +kernel
theorem d_St_ofSize_20 : decode prog_11_method_3_code 20 = .ok (.lconst 0, 1) := by decide +kernel
theorem d_St_ofSize_21 : decode prog_11_method_3_code 21 = .ok (.lreturn, 1) := by decide +kernel
abbrev S_St_ofSize : Type := Nat × Int32 × Int64 × AM
noncomputable def T_St_ofSize_0 (v0I : Int32) (σ : AM) : S_St_ofSize ⊕ Option (Int64 × AM) :=
  if v0I < 0 then (.inl (1, 0, 0, σ)) else (if v0I < (7 : Int32) then (gdT (inB v0I 7) <| .inl (2, 0, tbOF_SIZE v0I.toNatClampNeg, σ)) else (.inl (1, 0, 0, σ)))
noncomputable def T_St_ofSize_1  (σ : AM) : S_St_ofSize ⊕ Option (Int64 × AM) :=
  .inl (2, 0, (0 : Int64), σ)
noncomputable def T_St_ofSize_2 (s0J : Int64) (σ : AM) : S_St_ofSize ⊕ Option (Int64 × AM) :=
  .inr (some (s0J, σ))
noncomputable def F_St_ofSize : S_St_ofSize → S_St_ofSize ⊕ Option (Int64 × AM) := fun s => match s.1 with
  | 0 => T_St_ofSize_0 (s.2.1) (s.2.2.2)
  | 1 => T_St_ofSize_1  (s.2.2.2)
  | _ => T_St_ofSize_2 (s.2.2.1) (s.2.2.2)
noncomputable def L_St_ofSize_0 (v0I : Int32) (σ : AM) : Option (Int64 × AM) := lp F_St_ofSize (0, v0I, 0, σ)
noncomputable def L_St_ofSize_1  (σ : AM) : Option (Int64 × AM) := lp F_St_ofSize (1, 0, 0, σ)
noncomputable def L_St_ofSize_2 (s0J : Int64) (σ : AM) : Option (Int64 × AM) := lp F_St_ofSize (2, 0, s0J, σ)
set_option maxRecDepth 20000 in
theorem E_St_ofSize_0 (v0I : Int32) (σ : AM) : L_St_ofSize_0 v0I σ = (if v0I < 0 then (L_St_ofSize_1 σ) else (if v0I < (7 : Int32) then (gd (inB v0I 7) <| L_St_ofSize_2 (tbOF_SIZE v0I.toNatClampNeg) σ) else (L_St_ofSize_1 σ))) := by
  unfold L_St_ofSize_0
  rw [lp_eq]
  show lpK (lp F_St_ofSize) (T_St_ofSize_0 v0I σ) = _
  unfold T_St_ofSize_0
  simp only [lpK_ite, lq_inl, lq_inr, lpK_bnd, lpK_gd, lq_let]
  try rfl
set_option maxRecDepth 20000 in
theorem E_St_ofSize_1  (σ : AM) : L_St_ofSize_1  σ = (L_St_ofSize_2 ((0 : Int64)) σ) := by
  unfold L_St_ofSize_1
  rw [lp_eq]
  show lpK (lp F_St_ofSize) (T_St_ofSize_1  σ) = _
  unfold T_St_ofSize_1
  simp only [lpK_ite, lq_inl, lq_inr, lpK_bnd, lpK_gd, lq_let]
  try rfl
set_option maxRecDepth 20000 in
theorem E_St_ofSize_2 (s0J : Int64) (σ : AM) : L_St_ofSize_2 s0J σ = ((some (s0J, σ))) := by
  unfold L_St_ofSize_2
  rw [lp_eq]
  show lpK (lp F_St_ofSize) (T_St_ofSize_2 s0J σ) = _
  unfold T_St_ofSize_2
  simp only [lpK_ite, lq_inl, lq_inr, lpK_bnd, lpK_gd, lq_let]
  try rfl
noncomputable def M_St_ofSize (v0I : Int32) (σ : AM) : Option (Int64 × AM) := mw σ (L_St_ofSize_0 v0I σ)
def I_St_ofSize (G : GX) (p : Program) (l : Launch) (e : Env) (s : State) (m : MethodId) (args : Array Value) (below : List Frame) (meth : Method) (c : Code) (z0 u0 n : Nat) : Prop :=
  (∀ (v0I : Int32) (σ : AM), VX (QM eJ G args s below z0 u0) G p l e s m args below meth c 0 z0 u0 1 (lpn F_St_ofSize n (0, v0I, 0, σ)) 0 [(0, .int v0I)] [] σ) ∧
  (∀ (σ : AM), VX (QM eJ G args s below z0 u0) G p l e s m args below meth c 0 z0 u0 1 (lpn F_St_ofSize n (1, 0, 0, σ)) 20 [] [] σ) ∧
  (∀ (s0J : Int64) (σ : AM), VX (QM eJ G args s below z0 u0) G p l e s m args below meth c 0 z0 u0 1 (lpn F_St_ofSize n (2, 0, s0J, σ)) 21 [] [.long s0J] σ)
set_option maxRecDepth 20000 in
theorem s_St_ofSize_0 {G : GX} {p : Program} {l : Launch} {e : Env} {s : State} {m : MethodId} {args : Array Value} {below : List Frame} {meth : Method} {c : Code} {z0 u0 n : Nat} (C : Cx G p s m args meth c prog_11_method_3_code 1 "BellPlate$Sets" ((some FieldType.long))) (IH : I_St_ofSize G p l e s m args below meth c z0 u0 n) (v0I : Int32) (σ : AM) : VX (QM eJ G args s below z0 u0) G p l e s m args below meth c 0 z0 u0 1 (lpK (lpn F_St_ofSize n) (T_St_ofSize_0 v0I σ)) 0 [(0, .int v0I)] [] σ := by
  unfold T_St_ofSize_0
  refine x_iload_n C d_St_ofSize_0 0 rfl ?_
  refine x_if_lt (tgt := 20) C d_St_ofSize_1 (by decide) (fun _ => ?_) (fun _ => ?_)
  · refine x_lv [] rfl ?_
    exact IH.2.1  (σ)
  · refine x_iload_n C d_St_ofSize_4 0 rfl ?_
    refine x_gs2 C w1063 d_St_ofSize_5 ?_
    refine x_sn2 C d_St_ofSize_8 ?_
    refine x_icmp_ge (tgt := 20) C d_St_ofSize_9 (by decide) (fun _ => ?_) (fun _ => ?_)
    · refine x_gs2 C w1063 d_St_ofSize_12 ?_
      refine x_iload_n C d_St_ofSize_15 0 rfl ?_
      refine x_gd (fun h1 => ?_)
      refine x_sl2 C (inB_iff.mp h1) d_St_ofSize_16 ?_
      refine x_goto (tgt := 21) C d_St_ofSize_17 (by decide) ?_
      refine x_lv [] rfl ?_
      exact IH.2.2 (tbOF_SIZE v0I.toNatClampNeg) (σ)
    · refine x_lv [] rfl ?_
      exact IH.2.1  (σ)
set_option maxRecDepth 20000 in
theorem s_St_ofSize_1 {G : GX} {p : Program} {l : Launch} {e : Env} {s : State} {m : MethodId} {args : Array Value} {below : List Frame} {meth : Method} {c : Code} {z0 u0 n : Nat} (C : Cx G p s m args meth c prog_11_method_3_code 1 "BellPlate$Sets" ((some FieldType.long))) (IH : I_St_ofSize G p l e s m args below meth c z0 u0 n)  (σ : AM) : VX (QM eJ G args s below z0 u0) G p l e s m args below meth c 0 z0 u0 1 (lpK (lpn F_St_ofSize n) (T_St_ofSize_1  σ)) 20 [] [] σ := by
  unfold T_St_ofSize_1
  refine x_lconst (v := (0 : Int64)) C d_St_ofSize_20 (by decide) ?_
  exact IH.2.2 ((0 : Int64)) (σ)
set_option maxRecDepth 20000 in
theorem s_St_ofSize_2 {G : GX} {p : Program} {l : Launch} {e : Env} {s : State} {m : MethodId} {args : Array Value} {below : List Frame} {meth : Method} {c : Code} {z0 u0 n : Nat} (C : Cx G p s m args meth c prog_11_method_3_code 1 "BellPlate$Sets" ((some FieldType.long))) (IH : I_St_ofSize G p l e s m args below meth c z0 u0 n) (s0J : Int64) (σ : AM) : VX (QM eJ G args s below z0 u0) G p l e s m args below meth c 0 z0 u0 1 (lpK (lpn F_St_ofSize n) (T_St_ofSize_2 s0J σ)) 21 [] [.long s0J] σ := by
  unfold T_St_ofSize_2
  exact x_lret C d_St_ofSize_21
theorem i_St_ofSize {G : GX} {p : Program} {l : Launch} {e : Env} {s : State} {m : MethodId} {args : Array Value} {below : List Frame} {meth : Method} {c : Code} {z0 u0 : Nat} (C : Cx G p s m args meth c prog_11_method_3_code 1 "BellPlate$Sets" ((some FieldType.long))) (n : Nat) : I_St_ofSize G p l e s m args below meth c z0 u0 n := by
  induction n with
  | zero => exact ⟨fun _ _ => x_none, fun _ => x_none, fun _ _ => x_none⟩
  | succ n IH => exact ⟨fun v0I σ => s_St_ofSize_0 C IH v0I σ, fun σ => s_St_ofSize_1 C IH σ, fun s0J σ => s_St_ofSize_2 C IH s0J σ⟩
theorem c_St_ofSize (G : GX) (l : Launch) (v0I : Int32) (σ : AM) : CT eJ G l 0 y_St_ofSize prog_11_method_3_code 1 ((some FieldType.long)) [.int v0I] σ (M_St_ofSize v0I σ) := by
  refine ct_of (by decide +kernel) (Nat.le_of_ble_eq_true rfl) (fun p e s m args below meth c C hin => ?_)
  refine x_lve (lv' := [(0, .int v0I)]) rfl ?_
  intro r σ' h
  obtain ⟨n, hn⟩ := (lp_iff _ _ _).mp h
  exact (i_St_ofSize C n).1 v0I σ r σ' hn
/-! BellPlate$Sets.addTo([JJI)V -/
abbrev y_St_addTo : MethodName := ⟨"BellPlate$Sets", "addTo", "([JJI)V"⟩
theorem k_St_addTo : y_St_addTo.cls ≠ "java/lang/invoke/MethodHandle" ∧ y_St_addTo.cls ≠ "java/lang/invoke/VarHandle" ∧ (parseMethodDescriptor y_St_addTo.desc).map (fun d => d.parameters.length) = some 3 := by decide +kernel
theorem d_St_addTo_0 : decode prog_11_method_10_code 0 = .ok (.lload_n 1, 1) := by decide +kernel
theorem d_St_addTo_1 : decode prog_11_method_10_code 1 = .ok (.lstore 4, 2) := by decide +kernel
theorem d_St_addTo_3 : decode prog_11_method_10_code 3 = .ok (.iload_n 3, 1) := by decide +kernel
theorem d_St_addTo_4 : decode prog_11_method_10_code 4 = .ok (.istore 6, 2) := by decide +kernel
theorem d_St_addTo_6 : decode prog_11_method_10_code 6 = .ok (.iload 6, 2) := by decide +kernel
theorem d_St_addTo_8 : decode prog_11_method_10_code 8 = .ok (.aload_n 0, 1) := by decide +kernel
theorem d_St_addTo_9 : decode prog_11_method_10_code 9 = .ok (.arraylength, 1) := by decide +kernel
theorem d_St_addTo_10 : decode prog_11_method_10_code 10 = .ok (.if_icmp .ge 38, 3) := by decide +kernel
theorem d_St_addTo_13 : decode prog_11_method_10_code 13 = .ok (.lload 4, 2) := by decide +kernel
theorem d_St_addTo_15 : decode prog_11_method_10_code 15 = .ok (.lconst 0, 1) := by decide +kernel
theorem d_St_addTo_16 : decode prog_11_method_10_code 16 = .ok (.lcmp, 1) := by decide +kernel
theorem d_St_addTo_17 : decode prog_11_method_10_code 17 = .ok (.ifCond .eq 31, 3) := by decide +kernel
theorem d_St_addTo_20 : decode prog_11_method_10_code 20 = .ok (.aload_n 0, 1) := by decide +kernel
theorem d_St_addTo_21 : decode prog_11_method_10_code 21 = .ok (.iload 6, 2) := by decide +kernel
theorem d_St_addTo_23 : decode prog_11_method_10_code 23 = .ok (.laload, 1) := by decide +kernel
theorem d_St_addTo_24 : decode prog_11_method_10_code 24 = .ok (.lload 4, 2) := by decide +kernel
theorem d_St_addTo_26 : decode prog_11_method_10_code 26 = .ok (.land, 1) := by decide +kernel
theorem d_St_addTo_27 : decode prog_11_method_10_code 27 = .ok (.lstore 7, 2) := by decide +kernel
theorem d_St_addTo_29 : decode prog_11_method_10_code 29 = .ok (.aload_n 0, 1) := by decide +kernel
theorem d_St_addTo_30 : decode prog_11_method_10_code 30 = .ok (.iload 6, 2) := by decide +kernel
theorem d_St_addTo_32 : decode prog_11_method_10_code 32 = .ok (.dup2, 1) := by decide +kernel
theorem d_St_addTo_33 : decode prog_11_method_10_code 33 = .ok (.laload, 1) := by decide +kernel
theorem d_St_addTo_34 : decode prog_11_method_10_code 34 = .ok (.lload 4, 2) := by decide +kernel
theorem d_St_addTo_36 : decode prog_11_method_10_code 36 = .ok (.lxor, 1) := by decide +kernel
theorem d_St_addTo_37 : decode prog_11_method_10_code 37 = .ok (.lastore, 1) := by decide +kernel
theorem d_St_addTo_38 : decode prog_11_method_10_code 38 = .ok (.lload 7, 2) := by decide +kernel
theorem d_St_addTo_40 : decode prog_11_method_10_code 40 = .ok (.lstore 4, 2) := by decide +kernel
theorem d_St_addTo_42 : decode prog_11_method_10_code 42 = .ok (.iinc 6 1, 3) := by decide +kernel
theorem d_St_addTo_45 : decode prog_11_method_10_code 45 = .ok (.goto (-39), 3) := by decide +kernel
theorem d_St_addTo_48 : decode prog_11_method_10_code 48 = .ok (.return_, 1) := by decide +kernel
abbrev S_St_addTo : Type := Nat × Nat × Int64 × Int32 × Int64 × Int32 × AM
noncomputable def T_St_addTo_0 (v0R : Nat) (v1J : Int64) (v3I : Int32) (σ : AM) : S_St_addTo ⊕ Option (Unit × AM) :=
  .inl (1, v0R, 0, 0, v1J, v3I, σ)
noncomputable def T_St_addTo_1 (v0R : Nat) (v4J : Int64) (v6I : Int32) (σ : AM) : S_St_addTo ⊕ Option (Unit × AM) :=
  gdT (okO σ v0R 102) <| if v6I < (nI (aN σ v0R)) then (if (lg_cmp v4J (0 : Int64)) = 0 then (.inl (2, 0, 0, 0, 0, 0, σ)) else (gdT (inB v6I (aN σ v0R)) <| letT ((aL σ v0R v6I.toNatClampNeg) &&& v4J) fun x3 => letT (sL σ v0R v6I.toNatClampNeg ((aL σ v0R v6I.toNatClampNeg) ^^^ v4J)) fun σ4 => .inl (1, v0R, 0, 0, x3, v6I + (1 : Int32), σ4))) else (.inl (2, 0, 0, 0, 0, 0, σ))
noncomputable def T_St_addTo_2  (σ : AM) : S_St_addTo ⊕ Option (Unit × AM) :=
  .inr (some ((), σ))
noncomputable def F_St_addTo : S_St_addTo → S_St_addTo ⊕ Option (Unit × AM) := fun s => match s.1 with
  | 0 => T_St_addTo_0 (s.2.1) (s.2.2.1) (s.2.2.2.1) (s.2.2.2.2.2.2)
  | 1 => T_St_addTo_1 (s.2.1) (s.2.2.2.2.1) (s.2.2.2.2.2.1) (s.2.2.2.2.2.2)
  | _ => T_St_addTo_2  (s.2.2.2.2.2.2)
noncomputable def L_St_addTo_0 (v0R : Nat) (v1J : Int64) (v3I : Int32) (σ : AM) : Option (Unit × AM) := lp F_St_addTo (0, v0R, v1J, v3I, 0, 0, σ)
noncomputable def L_St_addTo_1 (v0R : Nat) (v4J : Int64) (v6I : Int32) (σ : AM) : Option (Unit × AM) := lp F_St_addTo (1, v0R, 0, 0, v4J, v6I, σ)
noncomputable def L_St_addTo_2  (σ : AM) : Option (Unit × AM) := lp F_St_addTo (2, 0, 0, 0, 0, 0, σ)
set_option maxRecDepth 20000 in
theorem E_St_addTo_0 (v0R : Nat) (v1J : Int64) (v3I : Int32) (σ : AM) : L_St_addTo_0 v0R v1J v3I σ = (L_St_addTo_1 v0R v1J v3I σ) := by
  unfold L_St_addTo_0
  rw [lp_eq]
  show lpK (lp F_St_addTo) (T_St_addTo_0 v0R v1J v3I σ) = _
  unfold T_St_addTo_0
  simp only [lpK_ite, lq_inl, lq_inr, lpK_bnd, lpK_gd, lq_let]
  try rfl
set_option maxRecDepth 20000 in
theorem E_St_addTo_1 (v0R : Nat) (v4J : Int64) (v6I : Int32) (σ : AM) : L_St_addTo_1 v0R v4J v6I σ = (gd (okO σ v0R 102) <| if v6I < (nI (aN σ v0R)) then (if (lg_cmp v4J (0 : Int64)) = 0 then (L_St_addTo_2 σ) else (gd (inB v6I (aN σ v0R)) <| letT ((aL σ v0R v6I.toNatClampNeg) &&& v4J) fun x3 => letT (sL σ v0R v6I.toNatClampNeg ((aL σ v0R v6I.toNatClampNeg) ^^^ v4J)) fun σ4 => L_St_addTo_1 v0R x3 (v6I + (1 : Int32)) σ4)) else (L_St_addTo_2 σ)) := by
  unfold L_St_addTo_1
  rw [lp_eq]
  show lpK (lp F_St_addTo) (T_St_addTo_1 v0R v4J v6I σ) = _
  unfold T_St_addTo_1
  simp only [lpK_ite, lq_inl, lq_inr, lpK_bnd, lpK_gd, lq_let]
  try rfl
set_option maxRecDepth 20000 in
theorem E_St_addTo_2  (σ : AM) : L_St_addTo_2  σ = ((some ((), σ))) := by
  unfold L_St_addTo_2
  rw [lp_eq]
  show lpK (lp F_St_addTo) (T_St_addTo_2  σ) = _
  unfold T_St_addTo_2
  simp only [lpK_ite, lq_inl, lq_inr, lpK_bnd, lpK_gd, lq_let]
  try rfl
noncomputable def M_St_addTo (v0R : Nat) (v1J : Int64) (v3I : Int32) (σ : AM) : Option (Unit × AM) := mw σ (L_St_addTo_0 v0R v1J v3I σ)
def I_St_addTo (G : GX) (p : Program) (l : Launch) (e : Env) (s : State) (m : MethodId) (args : Array Value) (below : List Frame) (meth : Method) (c : Code) (z0 u0 n : Nat) : Prop :=
  (∀ (v0R : Nat) (v1J : Int64) (v3I : Int32) (σ : AM), VX (QM eV G args s below z0 u0) G p l e s m args below meth c 0 z0 u0 9 (lpn F_St_addTo n (0, v0R, v1J, v3I, 0, 0, σ)) 0 [(0, .ref v0R), (1, .long v1J), (3, .int v3I)] [] σ) ∧
  (∀ (v0R : Nat) (v4J : Int64) (v6I : Int32) (σ : AM), VX (QM eV G args s below z0 u0) G p l e s m args below meth c 0 z0 u0 9 (lpn F_St_addTo n (1, v0R, 0, 0, v4J, v6I, σ)) 6 [(0, .ref v0R), (4, .long v4J), (6, .int v6I)] [] σ) ∧
  (∀ (σ : AM), VX (QM eV G args s below z0 u0) G p l e s m args below meth c 0 z0 u0 9 (lpn F_St_addTo n (2, 0, 0, 0, 0, 0, σ)) 48 [] [] σ)
set_option maxRecDepth 20000 in
theorem s_St_addTo_0 {G : GX} {p : Program} {l : Launch} {e : Env} {s : State} {m : MethodId} {args : Array Value} {below : List Frame} {meth : Method} {c : Code} {z0 u0 n : Nat} (C : Cx G p s m args meth c prog_11_method_10_code 9 "BellPlate$Sets" ((none))) (IH : I_St_addTo G p l e s m args below meth c z0 u0 n) (v0R : Nat) (v1J : Int64) (v3I : Int32) (σ : AM) : VX (QM eV G args s below z0 u0) G p l e s m args below meth c 0 z0 u0 9 (lpK (lpn F_St_addTo n) (T_St_addTo_0 v0R v1J v3I σ)) 0 [(0, .ref v0R), (1, .long v1J), (3, .int v3I)] [] σ := by
  unfold T_St_addTo_0
  refine x_lload_n C d_St_addTo_0 1 rfl ?_
  refine x_lstore (lv' := [(4, .long v1J), (0, .ref v0R), (1, .long v1J), (3, .int v3I)]) C d_St_addTo_1 (by decide) rfl ?_
  refine x_iload_n C d_St_addTo_3 3 rfl ?_
  refine x_istore (lv' := [(6, .int v3I), (4, .long v1J), (0, .ref v0R), (1, .long v1J), (3, .int v3I)]) C d_St_addTo_4 (by decide) rfl ?_
  refine x_lv [2, 1, 0] rfl ?_
  exact IH.2.1 v0R v1J v3I (σ)
set_option maxRecDepth 20000 in
theorem s_St_addTo_1 {G : GX} {p : Program} {l : Launch} {e : Env} {s : State} {m : MethodId} {args : Array Value} {below : List Frame} {meth : Method} {c : Code} {z0 u0 n : Nat} (C : Cx G p s m args meth c prog_11_method_10_code 9 "BellPlate$Sets" ((none))) (IH : I_St_addTo G p l e s m args below meth c z0 u0 n) (v0R : Nat) (v4J : Int64) (v6I : Int32) (σ : AM) : VX (QM eV G args s below z0 u0) G p l e s m args below meth c 0 z0 u0 9 (lpK (lpn F_St_addTo n) (T_St_addTo_1 v0R v4J v6I σ)) 6 [(0, .ref v0R), (4, .long v4J), (6, .int v6I)] [] σ := by
  unfold T_St_addTo_1
  refine x_iload C d_St_addTo_6 2 rfl ?_
  refine x_aload_n C d_St_addTo_8 0 rfl ?_
  refine x_gd (fun h1 => ?_)
  refine x_alen (t := 1) C (okO_iff.mp h1) (by decide) d_St_addTo_9 ?_
  refine x_icmp_ge (tgt := 48) C d_St_addTo_10 (by decide) (fun _ => ?_) (fun _ => ?_)
  · refine x_lload C d_St_addTo_13 1 rfl ?_
    refine x_lconst (v := (0 : Int64)) C d_St_addTo_15 (by decide) ?_
    refine x_lcmp C d_St_addTo_16 ?_
    refine x_if_eq (tgt := 48) C d_St_addTo_17 (by decide) (fun _ => ?_) (fun _ => ?_)
    · refine x_lv [] rfl ?_
      exact IH.2.2  (σ)
    · refine x_aload_n C d_St_addTo_20 0 rfl ?_
      refine x_iload C d_St_addTo_21 2 rfl ?_
      refine x_gd (fun h2 => ?_)
      refine x_aldJ C (okO_iff.mp h1) (inB_iff.mp h2) d_St_addTo_23 ?_
      refine x_lload C d_St_addTo_24 1 rfl ?_
      refine x_land C d_St_addTo_26 ?_
      refine x_letJ (fun x3 _ => ?_)
      refine x_lstore (lv' := [(7, .long x3), (0, .ref v0R), (4, .long v4J), (6, .int v6I)]) C d_St_addTo_27 (by decide) rfl ?_
      refine x_aload_n C d_St_addTo_29 1 rfl ?_
      refine x_iload C d_St_addTo_30 3 rfl ?_
      refine x_dup2 C d_St_addTo_32 rfl rfl ?_
      refine x_aldJ C (okO_iff.mp h1) (inB_iff.mp h2) d_St_addTo_33 ?_
      refine x_lload C d_St_addTo_34 2 rfl ?_
      refine x_lxor C d_St_addTo_36 ?_
      refine x_astJ C (okO_iff.mp h1) (inB_iff.mp h2) d_St_addTo_37 ?_
      refine x_letS (fun σ4 e5 => ?_)
      refine x_lload C d_St_addTo_38 0 rfl ?_
      refine x_lstore (lv' := [(4, .long x3), (7, .long x3), (0, .ref v0R), (6, .int v6I)]) C d_St_addTo_40 (by decide) rfl ?_
      refine x_iinc (v := v6I + (1 : Int32)) (lv' := [(6, .int (v6I + (1 : Int32))), (4, .long x3), (7, .long x3), (0, .ref v0R)]) C d_St_addTo_42 3 rfl rfl (by decide) rfl ?_
      refine x_goto (tgt := 6) C d_St_addTo_45 (by decide) ?_
      refine x_lv [3, 1, 0] rfl ?_
      exact IH.2.1 v0R x3 (v6I + (1 : Int32)) (σ4)
  · refine x_lv [] rfl ?_
    exact IH.2.2  (σ)
set_option maxRecDepth 20000 in
theorem s_St_addTo_2 {G : GX} {p : Program} {l : Launch} {e : Env} {s : State} {m : MethodId} {args : Array Value} {below : List Frame} {meth : Method} {c : Code} {z0 u0 n : Nat} (C : Cx G p s m args meth c prog_11_method_10_code 9 "BellPlate$Sets" ((none))) (IH : I_St_addTo G p l e s m args below meth c z0 u0 n)  (σ : AM) : VX (QM eV G args s below z0 u0) G p l e s m args below meth c 0 z0 u0 9 (lpK (lpn F_St_addTo n) (T_St_addTo_2  σ)) 48 [] [] σ := by
  unfold T_St_addTo_2
  exact x_vret C d_St_addTo_48
theorem i_St_addTo {G : GX} {p : Program} {l : Launch} {e : Env} {s : State} {m : MethodId} {args : Array Value} {below : List Frame} {meth : Method} {c : Code} {z0 u0 : Nat} (C : Cx G p s m args meth c prog_11_method_10_code 9 "BellPlate$Sets" ((none))) (n : Nat) : I_St_addTo G p l e s m args below meth c z0 u0 n := by
  induction n with
  | zero => exact ⟨fun _ _ _ _ => x_none, fun _ _ _ _ => x_none, fun _ => x_none⟩
  | succ n IH => exact ⟨fun v0R v1J v3I σ => s_St_addTo_0 C IH v0R v1J v3I σ, fun v0R v4J v6I σ => s_St_addTo_1 C IH v0R v4J v6I σ, fun σ => s_St_addTo_2 C IH σ⟩
theorem c_St_addTo (G : GX) (l : Launch) (v0R : Nat) (v1J : Int64) (v3I : Int32) (σ : AM) : CT eV G l 0 y_St_addTo prog_11_method_10_code 9 (none) [.ref v0R, .long v1J, .int v3I] σ (M_St_addTo v0R v1J v3I σ) := by
  refine ct_of (by decide +kernel) (Nat.le_of_ble_eq_true rfl) (fun p e s m args below meth c C hin => ?_)
  refine x_lve (lv' := [(0, .ref v0R), (1, .long v1J), (3, .int v3I)]) rfl ?_
  intro r σ' h
  obtain ⟨n, hn⟩ := (lp_iff _ _ _).mp h
  exact (i_St_addTo C n).1 v0R v1J v3I σ r σ' hn
/-! BellPlate$Sets.has(JI)Z -/
abbrev y_St_has : MethodName := ⟨"BellPlate$Sets", "has", "(JI)Z"⟩
theorem k_St_has : y_St_has.cls ≠ "java/lang/invoke/MethodHandle" ∧ y_St_has.cls ≠ "java/lang/invoke/VarHandle" ∧ (parseMethodDescriptor y_St_has.desc).map (fun d => d.parameters.length) = some 2 := by decide +kernel
theorem d_St_has_0 : decode prog_11_method_2_code 0 = .ok (.lload_n 0, 1) := by decide +kernel
theorem d_St_has_1 : decode prog_11_method_2_code 1 = .ok (.iload_n 2, 1) := by decide +kernel
theorem d_St_has_2 : decode prog_11_method_2_code 2 = .ok (.lushr, 1) := by decide +kernel
theorem d_St_has_3 : decode prog_11_method_2_code 3 = .ok (.lconst 1, 1) := by decide +kernel
theorem d_St_has_4 : decode prog_11_method_2_code 4 = .ok (.land, 1) := by decide +kernel
theorem d_St_has_5 : decode prog_11_method_2_code 5 = .ok (.lconst 0, 1) := by decide +kernel
theorem d_St_has_6 : decode prog_11_method_2_code 6 = .ok (.lcmp, 1) := by decide +kernel
theorem d_St_has_7 : decode prog_11_method_2_code 7 = .ok (.ifCond .eq 7, 3) := by decide +kernel
theorem d_St_has_10 : decode prog_11_method_2_code 10 = .ok (.iconst 1, 1) := by decide +kernel
theorem d_St_has_11 : decode prog_11_method_2_code 11 = .ok (.goto 4, 3) := by decide +kernel
theorem d_St_has_14 : decode prog_11_method_2_code 14 = .ok (.iconst 0, 1) := by decide +kernel
theorem d_St_has_15 : decode prog_11_method_2_code 15 = .ok (.ireturn, 1) := by decide +kernel
abbrev S_St_has : Type := Nat × Int64 × Int32 × Int32 × AM
noncomputable def T_St_has_0 (v0J : Int64) (v2I : Int32) (σ : AM) : S_St_has ⊕ Option (Int32 × AM) :=
  if (lg_cmp (((v0J.toUInt64 >>> (v2I.toInt64.toUInt64 &&& Int64.toUInt64 63)).toInt64) &&& (1 : Int64)) (0 : Int64)) = 0 then (.inl (1, 0, 0, (0 : Int32), σ)) else (.inl (1, 0, 0, (1 : Int32), σ))
noncomputable def T_St_has_1 (s0I : Int32) (σ : AM) : S_St_has ⊕ Option (Int32 × AM) :=
  gdT (isB s0I) <| .inr (some (s0I, σ))
noncomputable def F_St_has : S_St_has → S_St_has ⊕ Option (Int32 × AM) := fun s => match s.1 with
  | 0 => T_St_has_0 (s.2.1) (s.2.2.1) (s.2.2.2.2)
  | _ => T_St_has_1 (s.2.2.2.1) (s.2.2.2.2)
noncomputable def L_St_has_0 (v0J : Int64) (v2I : Int32) (σ : AM) : Option (Int32 × AM) := lp F_St_has (0, v0J, v2I, 0, σ)
noncomputable def L_St_has_1 (s0I : Int32) (σ : AM) : Option (Int32 × AM) := lp F_St_has (1, 0, 0, s0I, σ)
set_option maxRecDepth 20000 in
theorem E_St_has_0 (v0J : Int64) (v2I : Int32) (σ : AM) : L_St_has_0 v0J v2I σ = (if (lg_cmp (((v0J.toUInt64 >>> (v2I.toInt64.toUInt64 &&& Int64.toUInt64 63)).toInt64) &&& (1 : Int64)) (0 : Int64)) = 0 then (L_St_has_1 ((0 : Int32)) σ) else (L_St_has_1 ((1 : Int32)) σ)) := by
  unfold L_St_has_0
  rw [lp_eq]
  show lpK (lp F_St_has) (T_St_has_0 v0J v2I σ) = _
  unfold T_St_has_0
  simp only [lpK_ite, lq_inl, lq_inr, lpK_bnd, lpK_gd, lq_let]
  try rfl
set_option maxRecDepth 20000 in
theorem E_St_has_1 (s0I : Int32) (σ : AM) : L_St_has_1 s0I σ = (gd (isB s0I) <| (some (s0I, σ))) := by
  unfold L_St_has_1
  rw [lp_eq]
  show lpK (lp F_St_has) (T_St_has_1 s0I σ) = _
  unfold T_St_has_1
  simp only [lpK_ite, lq_inl, lq_inr, lpK_bnd, lpK_gd, lq_let]
  try rfl
noncomputable def M_St_has (v0J : Int64) (v2I : Int32) (σ : AM) : Option (Int32 × AM) := mw σ (L_St_has_0 v0J v2I σ)
def I_St_has (G : GX) (p : Program) (l : Launch) (e : Env) (s : State) (m : MethodId) (args : Array Value) (below : List Frame) (meth : Method) (c : Code) (z0 u0 n : Nat) : Prop :=
  (∀ (v0J : Int64) (v2I : Int32) (σ : AM), VX (QM eI G args s below z0 u0) G p l e s m args below meth c 0 z0 u0 3 (lpn F_St_has n (0, v0J, v2I, 0, σ)) 0 [(0, .long v0J), (2, .int v2I)] [] σ) ∧
  (∀ (s0I : Int32) (σ : AM), VX (QM eI G args s below z0 u0) G p l e s m args below meth c 0 z0 u0 3 (lpn F_St_has n (1, 0, 0, s0I, σ)) 15 [] [.int s0I] σ)
set_option maxRecDepth 20000 in
theorem s_St_has_0 {G : GX} {p : Program} {l : Launch} {e : Env} {s : State} {m : MethodId} {args : Array Value} {below : List Frame} {meth : Method} {c : Code} {z0 u0 n : Nat} (C : Cx G p s m args meth c prog_11_method_2_code 3 "BellPlate$Sets" ((some FieldType.boolean))) (IH : I_St_has G p l e s m args below meth c z0 u0 n) (v0J : Int64) (v2I : Int32) (σ : AM) : VX (QM eI G args s below z0 u0) G p l e s m args below meth c 0 z0 u0 3 (lpK (lpn F_St_has n) (T_St_has_0 v0J v2I σ)) 0 [(0, .long v0J), (2, .int v2I)] [] σ := by
  unfold T_St_has_0
  refine x_lload_n C d_St_has_0 0 rfl ?_
  refine x_iload_n C d_St_has_1 1 rfl ?_
  refine x_lushr C d_St_has_2 ?_
  refine x_lconst (v := (1 : Int64)) C d_St_has_3 (by decide) ?_
  refine x_land C d_St_has_4 ?_
  refine x_lconst (v := (0 : Int64)) C d_St_has_5 (by decide) ?_
  refine x_lcmp C d_St_has_6 ?_
  refine x_if_eq (tgt := 14) C d_St_has_7 (by decide) (fun _ => ?_) (fun _ => ?_)
  · refine x_iconst (v := (0 : Int32)) C d_St_has_14 (by decide) ?_
    refine x_lv [] rfl ?_
    exact IH.2 ((0 : Int32)) (σ)
  · refine x_iconst (v := (1 : Int32)) C d_St_has_10 (by decide) ?_
    refine x_goto (tgt := 15) C d_St_has_11 (by decide) ?_
    refine x_lv [] rfl ?_
    exact IH.2 ((1 : Int32)) (σ)
set_option maxRecDepth 20000 in
theorem s_St_has_1 {G : GX} {p : Program} {l : Launch} {e : Env} {s : State} {m : MethodId} {args : Array Value} {below : List Frame} {meth : Method} {c : Code} {z0 u0 n : Nat} (C : Cx G p s m args meth c prog_11_method_2_code 3 "BellPlate$Sets" ((some FieldType.boolean))) (IH : I_St_has G p l e s m args below meth c z0 u0 n) (s0I : Int32) (σ : AM) : VX (QM eI G args s below z0 u0) G p l e s m args below meth c 0 z0 u0 3 (lpK (lpn F_St_has n) (T_St_has_1 s0I σ)) 15 [] [.int s0I] σ := by
  unfold T_St_has_1
  refine x_gd (fun h1 => ?_)
  exact x_zret C (isB_narrow h1) d_St_has_15
theorem i_St_has {G : GX} {p : Program} {l : Launch} {e : Env} {s : State} {m : MethodId} {args : Array Value} {below : List Frame} {meth : Method} {c : Code} {z0 u0 : Nat} (C : Cx G p s m args meth c prog_11_method_2_code 3 "BellPlate$Sets" ((some FieldType.boolean))) (n : Nat) : I_St_has G p l e s m args below meth c z0 u0 n := by
  induction n with
  | zero => exact ⟨fun _ _ _ => x_none, fun _ _ => x_none⟩
  | succ n IH => exact ⟨fun v0J v2I σ => s_St_has_0 C IH v0J v2I σ, fun s0I σ => s_St_has_1 C IH s0I σ⟩
theorem c_St_has (G : GX) (l : Launch) (v0J : Int64) (v2I : Int32) (σ : AM) : CT eI G l 0 y_St_has prog_11_method_2_code 3 ((some FieldType.boolean)) [.long v0J, .int v2I] σ (M_St_has v0J v2I σ) := by
  refine ct_of (by decide +kernel) (Nat.le_of_ble_eq_true rfl) (fun p e s m args below meth c C hin => ?_)
  refine x_lve (lv' := [(0, .long v0J), (2, .int v2I)]) rfl ?_
  intro r σ' h
  obtain ⟨n, hn⟩ := (lp_iff _ _ _).mp h
  exact (i_St_has C n).1 v0J v2I σ r σ' hn
/-! BellPlate$Sets.counted([JII)I -/
abbrev y_St_counted : MethodName := ⟨"BellPlate$Sets", "counted", "([JII)I"⟩
theorem k_St_counted : y_St_counted.cls ≠ "java/lang/invoke/MethodHandle" ∧ y_St_counted.cls ≠ "java/lang/invoke/VarHandle" ∧ (parseMethodDescriptor y_St_counted.desc).map (fun d => d.parameters.length) = some 3 := by decide +kernel
theorem d_St_counted_0 : decode prog_11_method_11_code 0 = .ok (.iconst 0, 1) := by decide +kernel
theorem d_St_counted_1 : decode prog_11_method_11_code 1 = .ok (.istore_n 3, 1) := by decide +kernel
theorem d_St_counted_2 : decode prog_11_method_11_code 2 = .ok (.iconst 0, 1) := by decide +kernel
theorem d_St_counted_3 : decode prog_11_method_11_code 3 = .ok (.istore 4, 2) := by decide +kernel
theorem d_St_counted_5 : decode prog_11_method_11_code 5 = .ok (.iload 4, 2) := by decide +kernel
theorem d_St_counted_7 : decode prog_11_method_11_code 7 = .ok (.iload_n 1, 1) := by decide +kernel
theorem d_St_counted_8 : decode prog_11_method_11_code 8 = .ok (.if_icmp .ge 31, 3) := by decide +kernel
theorem d_St_counted_11 : decode prog_11_method_11_code 11 = .ok (.iload 4, 2) := by decide +kernel
theorem d_St_counted_13 : decode prog_11_method_11_code 13 = .ok (.aload_n 0, 1) := by decide +kernel
theorem d_St_counted_14 : decode prog_11_method_11_code 14 = .ok (.arraylength, 1) := by decide +kernel
theorem d_St_counted_15 : decode prog_11_method_11_code 15 = .ok (.if_icmp .ge 24, 3) := by decide +kernel
theorem d_St_counted_18 : decode prog_11_method_11_code 18 = .ok (.iload_n 3, 1) := by decide +kernel
theorem d_St_counted_19 : decode prog_11_method_11_code 19 = .ok (.aload_n 0, 1) := by decide +kernel
theorem d_St_counted_20 : decode prog_11_method_11_code 20 = .ok (.iload 4, 2) := by decide +kernel
theorem d_St_counted_22 : decode prog_11_method_11_code 22 = .ok (.laload, 1) := by decide +kernel
theorem d_St_counted_23 : decode prog_11_method_11_code 23 = .ok (.iload_n 2, 1) := by decide +kernel
theorem d_St_counted_24 : decode prog_11_method_11_code 24 = .ok (.lushr, 1) := by decide +kernel
theorem d_St_counted_25 : decode prog_11_method_11_code 25 = .ok (.lconst 1, 1) := by decide +kernel
theorem d_St_counted_26 : decode prog_11_method_11_code 26 = .ok (.land, 1) := by decide +kernel
theorem d_St_counted_27 : decode prog_11_method_11_code 27 = .ok (.l2i, 1) := by decide +kernel
theorem d_St_counted_28 : decode prog_11_method_11_code 28 = .ok (.iload 4, 2) := by decide +kernel
theorem d_St_counted_30 : decode prog_11_method_11_code 30 = .ok (.ishl, 1) := by decide +kernel
theorem d_St_counted_31 : decode prog_11_method_11_code 31 = .ok (.ior, 1) := by decide +kernel
theorem d_St_counted_32 : decode prog_11_method_11_code 32 = .ok (.istore_n 3, 1) := by decide +kernel
theorem d_St_counted_33 : decode prog_11_method_11_code 33 = .ok (.iinc 4 1, 3) := by decide +kernel
theorem d_St_counted_36 : decode prog_11_method_11_code 36 = .ok (.goto (-31), 3) := by decide +kernel
theorem d_St_counted_39 : decode prog_11_method_11_code 39 = .ok (.iload_n 3, 1) := by decide +kernel
theorem d_St_counted_40 : decode prog_11_method_11_code 40 = .ok (.ireturn, 1) := by decide +kernel
abbrev S_St_counted : Type := Nat × Nat × Int32 × Int32 × Int32 × Int32 × AM
noncomputable def T_St_counted_0 (v0R : Nat) (v1I : Int32) (v2I : Int32) (σ : AM) : S_St_counted ⊕ Option (Int32 × AM) :=
  .inl (1, v0R, v1I, v2I, (0 : Int32), (0 : Int32), σ)
noncomputable def T_St_counted_1 (v0R : Nat) (v1I : Int32) (v2I : Int32) (v3I : Int32) (v4I : Int32) (σ : AM) : S_St_counted ⊕ Option (Int32 × AM) :=
  if v4I < v1I then (gdT (okO σ v0R 102) <| if v4I < (nI (aN σ v0R)) then (gdT (inB v4I (aN σ v0R)) <| letT (v3I ||| ((((((aL σ v0R v4I.toNatClampNeg).toUInt64 >>> (v2I.toInt64.toUInt64 &&& Int64.toUInt64 63)).toInt64) &&& (1 : Int64)).toInt32) <<< (v4I &&& 31))) fun x3 => .inl (1, v0R, v1I, v2I, x3, v4I + (1 : Int32), σ)) else (.inl (2, 0, 0, 0, v3I, 0, σ))) else (.inl (2, 0, 0, 0, v3I, 0, σ))
noncomputable def T_St_counted_2 (v3I : Int32) (σ : AM) : S_St_counted ⊕ Option (Int32 × AM) :=
  .inr (some (v3I, σ))
noncomputable def F_St_counted : S_St_counted → S_St_counted ⊕ Option (Int32 × AM) := fun s => match s.1 with
  | 0 => T_St_counted_0 (s.2.1) (s.2.2.1) (s.2.2.2.1) (s.2.2.2.2.2.2)
  | 1 => T_St_counted_1 (s.2.1) (s.2.2.1) (s.2.2.2.1) (s.2.2.2.2.1) (s.2.2.2.2.2.1) (s.2.2.2.2.2.2)
  | _ => T_St_counted_2 (s.2.2.2.2.1) (s.2.2.2.2.2.2)
noncomputable def L_St_counted_0 (v0R : Nat) (v1I : Int32) (v2I : Int32) (σ : AM) : Option (Int32 × AM) := lp F_St_counted (0, v0R, v1I, v2I, 0, 0, σ)
noncomputable def L_St_counted_1 (v0R : Nat) (v1I : Int32) (v2I : Int32) (v3I : Int32) (v4I : Int32) (σ : AM) : Option (Int32 × AM) := lp F_St_counted (1, v0R, v1I, v2I, v3I, v4I, σ)
noncomputable def L_St_counted_2 (v3I : Int32) (σ : AM) : Option (Int32 × AM) := lp F_St_counted (2, 0, 0, 0, v3I, 0, σ)
set_option maxRecDepth 20000 in
theorem E_St_counted_0 (v0R : Nat) (v1I : Int32) (v2I : Int32) (σ : AM) : L_St_counted_0 v0R v1I v2I σ = (L_St_counted_1 v0R v1I v2I ((0 : Int32)) ((0 : Int32)) σ) := by
  unfold L_St_counted_0
  rw [lp_eq]
  show lpK (lp F_St_counted) (T_St_counted_0 v0R v1I v2I σ) = _
  unfold T_St_counted_0
  simp only [lpK_ite, lq_inl, lq_inr, lpK_bnd, lpK_gd, lq_let]
  try rfl
set_option maxRecDepth 20000 in
theorem E_St_counted_1 (v0R : Nat) (v1I : Int32) (v2I : Int32) (v3I : Int32) (v4I : Int32) (σ : AM) : L_St_counted_1 v0R v1I v2I v3I v4I σ = (if v4I < v1I then (gd (okO σ v0R 102) <| if v4I < (nI (aN σ v0R)) then (gd (inB v4I (aN σ v0R)) <| letT (v3I ||| ((((((aL σ v0R v4I.toNatClampNeg).toUInt64 >>> (v2I.toInt64.toUInt64 &&& Int64.toUInt64 63)).toInt64) &&& (1 : Int64)).toInt32) <<< (v4I &&& 31))) fun x3 => L_St_counted_1 v0R v1I v2I x3 (v4I + (1 : Int32)) σ) else (L_St_counted_2 v3I σ)) else (L_St_counted_2 v3I σ)) := by
  unfold L_St_counted_1
  rw [lp_eq]
  show lpK (lp F_St_counted) (T_St_counted_1 v0R v1I v2I v3I v4I σ) = _
  unfold T_St_counted_1
  simp only [lpK_ite, lq_inl, lq_inr, lpK_bnd, lpK_gd, lq_let]
  try rfl
set_option maxRecDepth 20000 in
theorem E_St_counted_2 (v3I : Int32) (σ : AM) : L_St_counted_2 v3I σ = ((some (v3I, σ))) := by
  unfold L_St_counted_2
  rw [lp_eq]
  show lpK (lp F_St_counted) (T_St_counted_2 v3I σ) = _
  unfold T_St_counted_2
  simp only [lpK_ite, lq_inl, lq_inr, lpK_bnd, lpK_gd, lq_let]
  try rfl
noncomputable def M_St_counted (v0R : Nat) (v1I : Int32) (v2I : Int32) (σ : AM) : Option (Int32 × AM) := mw σ (L_St_counted_0 v0R v1I v2I σ)
def I_St_counted (G : GX) (p : Program) (l : Launch) (e : Env) (s : State) (m : MethodId) (args : Array Value) (below : List Frame) (meth : Method) (c : Code) (z0 u0 n : Nat) : Prop :=
  (∀ (v0R : Nat) (v1I : Int32) (v2I : Int32) (σ : AM), VX (QM eI G args s below z0 u0) G p l e s m args below meth c 0 z0 u0 5 (lpn F_St_counted n (0, v0R, v1I, v2I, 0, 0, σ)) 0 [(0, .ref v0R), (1, .int v1I), (2, .int v2I)] [] σ) ∧
  (∀ (v0R : Nat) (v1I : Int32) (v2I : Int32) (v3I : Int32) (v4I : Int32) (σ : AM), VX (QM eI G args s below z0 u0) G p l e s m args below meth c 0 z0 u0 5 (lpn F_St_counted n (1, v0R, v1I, v2I, v3I, v4I, σ)) 5 [(0, .ref v0R), (1, .int v1I), (2, .int v2I), (3, .int v3I), (4, .int v4I)] [] σ) ∧
  (∀ (v3I : Int32) (σ : AM), VX (QM eI G args s below z0 u0) G p l e s m args below meth c 0 z0 u0 5 (lpn F_St_counted n (2, 0, 0, 0, v3I, 0, σ)) 39 [(3, .int v3I)] [] σ)
set_option maxRecDepth 20000 in
theorem s_St_counted_0 {G : GX} {p : Program} {l : Launch} {e : Env} {s : State} {m : MethodId} {args : Array Value} {below : List Frame} {meth : Method} {c : Code} {z0 u0 n : Nat} (C : Cx G p s m args meth c prog_11_method_11_code 5 "BellPlate$Sets" ((some FieldType.int))) (IH : I_St_counted G p l e s m args below meth c z0 u0 n) (v0R : Nat) (v1I : Int32) (v2I : Int32) (σ : AM) : VX (QM eI G args s below z0 u0) G p l e s m args below meth c 0 z0 u0 5 (lpK (lpn F_St_counted n) (T_St_counted_0 v0R v1I v2I σ)) 0 [(0, .ref v0R), (1, .int v1I), (2, .int v2I)] [] σ := by
  unfold T_St_counted_0
  refine x_iconst (v := (0 : Int32)) C d_St_counted_0 (by decide) ?_
  refine x_istore_n (lv' := [(3, .int (0 : Int32)), (0, .ref v0R), (1, .int v1I), (2, .int v2I)]) C d_St_counted_1 (by decide) rfl rfl ?_
  refine x_iconst (v := (0 : Int32)) C d_St_counted_2 (by decide) ?_
  refine x_istore (lv' := [(4, .int (0 : Int32)), (3, .int (0 : Int32)), (0, .ref v0R), (1, .int v1I), (2, .int v2I)]) C d_St_counted_3 (by decide) rfl ?_
  refine x_lv [2, 3, 4, 1, 0] rfl ?_
  exact IH.2.1 v0R v1I v2I ((0 : Int32)) ((0 : Int32)) (σ)
set_option maxRecDepth 20000 in
theorem s_St_counted_1 {G : GX} {p : Program} {l : Launch} {e : Env} {s : State} {m : MethodId} {args : Array Value} {below : List Frame} {meth : Method} {c : Code} {z0 u0 n : Nat} (C : Cx G p s m args meth c prog_11_method_11_code 5 "BellPlate$Sets" ((some FieldType.int))) (IH : I_St_counted G p l e s m args below meth c z0 u0 n) (v0R : Nat) (v1I : Int32) (v2I : Int32) (v3I : Int32) (v4I : Int32) (σ : AM) : VX (QM eI G args s below z0 u0) G p l e s m args below meth c 0 z0 u0 5 (lpK (lpn F_St_counted n) (T_St_counted_1 v0R v1I v2I v3I v4I σ)) 5 [(0, .ref v0R), (1, .int v1I), (2, .int v2I), (3, .int v3I), (4, .int v4I)] [] σ := by
  unfold T_St_counted_1
  refine x_iload C d_St_counted_5 4 rfl ?_
  refine x_iload_n C d_St_counted_7 1 rfl ?_
  refine x_icmp_ge (tgt := 39) C d_St_counted_8 (by decide) (fun _ => ?_) (fun _ => ?_)
  · refine x_iload C d_St_counted_11 4 rfl ?_
    refine x_aload_n C d_St_counted_13 0 rfl ?_
    refine x_gd (fun h1 => ?_)
    refine x_alen (t := 1) C (okO_iff.mp h1) (by decide) d_St_counted_14 ?_
    refine x_icmp_ge (tgt := 39) C d_St_counted_15 (by decide) (fun _ => ?_) (fun _ => ?_)
    · refine x_iload_n C d_St_counted_18 3 rfl ?_
      refine x_aload_n C d_St_counted_19 0 rfl ?_
      refine x_iload C d_St_counted_20 4 rfl ?_
      refine x_gd (fun h2 => ?_)
      refine x_aldJ C (okO_iff.mp h1) (inB_iff.mp h2) d_St_counted_22 ?_
      refine x_iload_n C d_St_counted_23 2 rfl ?_
      refine x_lushr C d_St_counted_24 ?_
      refine x_lconst (v := (1 : Int64)) C d_St_counted_25 (by decide) ?_
      refine x_land C d_St_counted_26 ?_
      refine x_l2i C d_St_counted_27 ?_
      refine x_iload C d_St_counted_28 4 rfl ?_
      refine x_ishl C d_St_counted_30 ?_
      refine x_ior C d_St_counted_31 ?_
      refine x_letI (fun x3 _ => ?_)
      refine x_istore_n (lv' := [(3, .int x3), (0, .ref v0R), (1, .int v1I), (2, .int v2I), (4, .int v4I)]) C d_St_counted_32 (by decide) rfl rfl ?_
      refine x_iinc (v := v4I + (1 : Int32)) (lv' := [(4, .int (v4I + (1 : Int32))), (3, .int x3), (0, .ref v0R), (1, .int v1I), (2, .int v2I)]) C d_St_counted_33 4 rfl rfl (by decide) rfl ?_
      refine x_goto (tgt := 5) C d_St_counted_36 (by decide) ?_
      refine x_lv [2, 3, 4, 1, 0] rfl ?_
      exact IH.2.1 v0R v1I v2I x3 (v4I + (1 : Int32)) (σ)
    · refine x_lv [3] rfl ?_
      exact IH.2.2 v3I (σ)
  · refine x_lv [3] rfl ?_
    exact IH.2.2 v3I (σ)
set_option maxRecDepth 20000 in
theorem s_St_counted_2 {G : GX} {p : Program} {l : Launch} {e : Env} {s : State} {m : MethodId} {args : Array Value} {below : List Frame} {meth : Method} {c : Code} {z0 u0 n : Nat} (C : Cx G p s m args meth c prog_11_method_11_code 5 "BellPlate$Sets" ((some FieldType.int))) (IH : I_St_counted G p l e s m args below meth c z0 u0 n) (v3I : Int32) (σ : AM) : VX (QM eI G args s below z0 u0) G p l e s m args below meth c 0 z0 u0 5 (lpK (lpn F_St_counted n) (T_St_counted_2 v3I σ)) 39 [(3, .int v3I)] [] σ := by
  unfold T_St_counted_2
  refine x_iload_n C d_St_counted_39 0 rfl ?_
  exact x_iret C d_St_counted_40
theorem i_St_counted {G : GX} {p : Program} {l : Launch} {e : Env} {s : State} {m : MethodId} {args : Array Value} {below : List Frame} {meth : Method} {c : Code} {z0 u0 : Nat} (C : Cx G p s m args meth c prog_11_method_11_code 5 "BellPlate$Sets" ((some FieldType.int))) (n : Nat) : I_St_counted G p l e s m args below meth c z0 u0 n := by
  induction n with
  | zero => exact ⟨fun _ _ _ _ => x_none, fun _ _ _ _ _ _ => x_none, fun _ _ => x_none⟩
  | succ n IH => exact ⟨fun v0R v1I v2I σ => s_St_counted_0 C IH v0R v1I v2I σ, fun v0R v1I v2I v3I v4I σ => s_St_counted_1 C IH v0R v1I v2I v3I v4I σ, fun v3I σ => s_St_counted_2 C IH v3I σ⟩
theorem c_St_counted (G : GX) (l : Launch) (v0R : Nat) (v1I : Int32) (v2I : Int32) (σ : AM) : CT eI G l 0 y_St_counted prog_11_method_11_code 5 ((some FieldType.int)) [.ref v0R, .int v1I, .int v2I] σ (M_St_counted v0R v1I v2I σ) := by
  refine ct_of (by decide +kernel) (Nat.le_of_ble_eq_true rfl) (fun p e s m args below meth c C hin => ?_)
  refine x_lve (lv' := [(0, .ref v0R), (1, .int v1I), (2, .int v2I)]) rfl ?_
  intro r σ' h
  obtain ⟨n, hn⟩ := (lp_iff _ _ _).mp h
  exact (i_St_counted C n).1 v0R v1I v2I σ r σ' hn
/-! BellPlate$Sets.leastOf(J)J -/
abbrev y_St_leastOf : MethodName := ⟨"BellPlate$Sets", "leastOf", "(J)J"⟩
theorem k_St_leastOf : y_St_leastOf.cls ≠ "java/lang/invoke/MethodHandle" ∧ y_St_leastOf.cls ≠ "java/lang/invoke/VarHandle" ∧ (parseMethodDescriptor y_St_leastOf.desc).map (fun d => d.parameters.length) = some 1 := by decide +kernel
theorem d_St_leastOf_0 : decode prog_11_method_6_code 0 = .ok (.lload_n 0, 1) := by decide +kernel
theorem d_St_leastOf_1 : decode prog_11_method_6_code 1 = .ok (.lstore_n 2, 1) := by decide +kernel
theorem d_St_leastOf_2 : decode prog_11_method_6_code 2 = .ok (.iconst 0, 1) := by decide +kernel
theorem d_St_leastOf_3 : decode prog_11_method_6_code 3 = .ok (.istore 4, 2) := by decide +kernel
theorem d_St_leastOf_5 : decode prog_11_method_6_code 5 = .ok (.iload 4, 2) := by decide +kernel
theorem d_St_leastOf_7 : decode prog_11_method_6_code 7 = .ok (.bipush 6, 2) := by decide +kernel
theorem d_St_leastOf_9 : decode prog_11_method_6_code 9 = .ok (.if_icmp .ge 25, 3) := by decide +kernel
theorem d_St_leastOf_12 : decode prog_11_method_6_code 12 = .ok (.lload_n 2, 1) := by decide +kernel
theorem d_St_leastOf_13 : decode prog_11_method_6_code 13 = .ok (.lload_n 2, 1) := by decide +kernel
theorem d_St_leastOf_14 : decode prog_11_method_6_code 14 = .ok (.getstatic 17, 3) := by decide +kernel
theorem d_St_leastOf_17 : decode prog_11_method_6_code 17 = .ok (.iload 4, 2) := by decide +kernel
theorem d_St_leastOf_19 : decode prog_11_method_6_code 19 = .ok (.laload, 1) := by decide +kernel
theorem d_St_leastOf_20 : decode prog_11_method_6_code 20 = .ok (.land, 1) := by decide +kernel
theorem d_St_leastOf_21 : decode prog_11_method_6_code 21 = .ok (.iconst 1, 1) := by decide +kernel
theorem d_St_leastOf_22 : decode prog_11_method_6_code 22 = .ok (.iload 4, 2) := by decide +kernel
theorem d_St_leastOf_24 : decode prog_11_method_6_code 24 = .ok (.ishl, 1) := by decide +kernel
theorem d_St_leastOf_25 : decode prog_11_method_6_code 25 = .ok (.lshl, 1) := by decide +kernel
theorem d_St_leastOf_26 : decode prog_11_method_6_code 26 = .ok (.lor, 1) := by decide +kernel
theorem d_St_leastOf_27 : decode prog_11_method_6_code 27 = .ok (.lstore_n 2, 1) := by decide +kernel
theorem d_St_leastOf_28 : decode prog_11_method_6_code 28 = .ok (.iinc 4 1, 3) := by decide +kernel
theorem d_St_leastOf_31 : decode prog_11_method_6_code 31 = .ok (.goto (-26), 3) := by decide +kernel
theorem d_St_leastOf_34 : decode prog_11_method_6_code 34 = .ok (.lconst 0, 1) := by decide +kernel
theorem d_St_leastOf_35 : decode prog_11_method_6_code 35 = .ok (.lstore 4, 2) := by decide +kernel
theorem d_St_leastOf_37 : decode prog_11_method_6_code 37 = .ok (.iconst 0, 1) := by decide +kernel
theorem d_St_leastOf_38 : decode prog_11_method_6_code 38 = .ok (.istore 6, 2) := by decide +kernel
theorem d_St_leastOf_40 : decode prog_11_method_6_code 40 = .ok (.iload 6, 2) := by decide +kernel
theorem d_St_leastOf_42 : decode prog_11_method_6_code 42 = .ok (.bipush 6, 2) := by decide +kernel
theorem d_St_leastOf_44 : decode prog_11_method_6_code 44 = .ok (.if_icmp .ge 27, 3) := by decide +kernel
theorem d_St_leastOf_47 : decode prog_11_method_6_code 47 = .ok (.lload 4, 2) := by decide +kernel
theorem d_St_leastOf_49 : decode prog_11_method_6_code 49 = .ok (.lload_n 2, 1) := by decide +kernel
theorem d_St_leastOf_50 : decode prog_11_method_6_code 50 = .ok (.getstatic 17, 3) := by decide +kernel
theorem d_St_leastOf_53 : decode prog_11_method_6_code 53 = .ok (.iload 6, 2) := by decide +kernel
theorem d_St_leastOf_55 : decode prog_11_method_6_code 55 = .ok (.laload, 1) := by decide +kernel
theorem d_St_leastOf_56 : decode prog_11_method_6_code 56 = .ok (.land, 1) := by decide +kernel
theorem d_St_leastOf_57 : decode prog_11_method_6_code 57 = .ok (.iconst 1, 1) := by decide +kernel
theorem d_St_leastOf_58 : decode prog_11_method_6_code 58 = .ok (.iload 6, 2) := by decide +kernel
theorem d_St_leastOf_60 : decode prog_11_method_6_code 60 = .ok (.ishl, 1) := by decide +kernel
theorem d_St_leastOf_61 : decode prog_11_method_6_code 61 = .ok (.lshl, 1) := by decide +kernel
theorem d_St_leastOf_62 : decode prog_11_method_6_code 62 = .ok (.lor, 1) := by decide +kernel
theorem d_St_leastOf_63 : decode prog_11_method_6_code 63 = .ok (.lstore 4, 2) := by decide +kernel
theorem d_St_leastOf_65 : decode prog_11_method_6_code 65 = .ok (.iinc 6 1, 3) := by decide +kernel
theorem d_St_leastOf_68 : decode prog_11_method_6_code 68 = .ok (.goto (-28), 3) := by decide +kernel
theorem d_St_leastOf_71 : decode prog_11_method_6_code 71 = .ok (.lload_n 0, 1) := by decide +kernel
theorem d_St_leastOf_72 : decode prog_11_method_6_code 72 = .ok (.lload 4, 2) := by decide +kernel
theorem d_St_leastOf_74 : decode prog_11_method_6_code 74 = .ok (.ldc2_w 15, 3) := by decide +kernel
theorem d_St_leastOf_77 : decode prog_11_method_6_code 77 = .ok (.lxor, 1) := by decide +kernel
theorem d_St_leastOf_78 : decode prog_11_method_6_code 78 = .ok (.land, 1) := by decide +kernel
theorem d_St_leastOf_79 : decode prog_11_method_6_code 79 = .ok (.lreturn, 1) := by decide +kernel
abbrev S_St_leastOf : Type := Nat × Int64 × Int64 × Int32 × Int64 × Int32 × AM
noncomputable def T_St_leastOf_0 (v0J : Int64) (σ : AM) : S_St_leastOf ⊕ Option (Int64 × AM) :=
  .inl (1, v0J, v0J, (0 : Int32), 0, 0, σ)
noncomputable def T_St_leastOf_1 (v0J : Int64) (v2J : Int64) (v4I : Int32) (σ : AM) : S_St_leastOf ⊕ Option (Int64 × AM) :=
  if v4I < (6 : Int32) then (gdT (inB v4I 6) <| letT (v2J ||| ((v2J &&& (tbWITHOUT v4I.toNatClampNeg)) <<< (((1 : Int32) <<< (v4I &&& 31)).toInt64 &&& 63))) fun x2 => .inl (1, v0J, x2, v4I + (1 : Int32), 0, 0, σ)) else (.inl (2, v0J, v2J, 0, (0 : Int64), (0 : Int32), σ))
noncomputable def T_St_leastOf_2 (v0J : Int64) (v2J : Int64) (v4J : Int64) (v6I : Int32) (σ : AM) : S_St_leastOf ⊕ Option (Int64 × AM) :=
  if v6I < (6 : Int32) then (gdT (inB v6I 6) <| letT (v4J ||| ((v2J &&& (tbWITHOUT v6I.toNatClampNeg)) <<< (((1 : Int32) <<< (v6I &&& 31)).toInt64 &&& 63))) fun x2 => .inl (2, v0J, v2J, 0, x2, v6I + (1 : Int32), σ)) else (.inr (some ((v0J &&& (v4J ^^^ ((-1) : Int64))), σ)))
noncomputable def F_St_leastOf : S_St_leastOf → S_St_leastOf ⊕ Option (Int64 × AM) := fun s => match s.1 with
  | 0 => T_St_leastOf_0 (s.2.1) (s.2.2.2.2.2.2)
  | 1 => T_St_leastOf_1 (s.2.1) (s.2.2.1) (s.2.2.2.1) (s.2.2.2.2.2.2)
  | _ => T_St_leastOf_2 (s.2.1) (s.2.2.1) (s.2.2.2.2.1) (s.2.2.2.2.2.1) (s.2.2.2.2.2.2)
noncomputable def L_St_leastOf_0 (v0J : Int64) (σ : AM) : Option (Int64 × AM) := lp F_St_leastOf (0, v0J, 0, 0, 0, 0, σ)
noncomputable def L_St_leastOf_1 (v0J : Int64) (v2J : Int64) (v4I : Int32) (σ : AM) : Option (Int64 × AM) := lp F_St_leastOf (1, v0J, v2J, v4I, 0, 0, σ)
noncomputable def L_St_leastOf_2 (v0J : Int64) (v2J : Int64) (v4J : Int64) (v6I : Int32) (σ : AM) : Option (Int64 × AM) := lp F_St_leastOf (2, v0J, v2J, 0, v4J, v6I, σ)
set_option maxRecDepth 20000 in
theorem E_St_leastOf_0 (v0J : Int64) (σ : AM) : L_St_leastOf_0 v0J σ = (L_St_leastOf_1 v0J v0J ((0 : Int32)) σ) := by
  unfold L_St_leastOf_0
  rw [lp_eq]
  show lpK (lp F_St_leastOf) (T_St_leastOf_0 v0J σ) = _
  unfold T_St_leastOf_0
  simp only [lpK_ite, lq_inl, lq_inr, lpK_bnd, lpK_gd, lq_let]
  try rfl
set_option maxRecDepth 20000 in
theorem E_St_leastOf_1 (v0J : Int64) (v2J : Int64) (v4I : Int32) (σ : AM) : L_St_leastOf_1 v0J v2J v4I σ = (if v4I < (6 : Int32) then (gd (inB v4I 6) <| letT (v2J ||| ((v2J &&& (tbWITHOUT v4I.toNatClampNeg)) <<< (((1 : Int32) <<< (v4I &&& 31)).toInt64 &&& 63))) fun x2 => L_St_leastOf_1 v0J x2 (v4I + (1 : Int32)) σ) else (L_St_leastOf_2 v0J v2J ((0 : Int64)) ((0 : Int32)) σ)) := by
  unfold L_St_leastOf_1
  rw [lp_eq]
  show lpK (lp F_St_leastOf) (T_St_leastOf_1 v0J v2J v4I σ) = _
  unfold T_St_leastOf_1
  simp only [lpK_ite, lq_inl, lq_inr, lpK_bnd, lpK_gd, lq_let]
  try rfl
set_option maxRecDepth 20000 in
theorem E_St_leastOf_2 (v0J : Int64) (v2J : Int64) (v4J : Int64) (v6I : Int32) (σ : AM) : L_St_leastOf_2 v0J v2J v4J v6I σ = (if v6I < (6 : Int32) then (gd (inB v6I 6) <| letT (v4J ||| ((v2J &&& (tbWITHOUT v6I.toNatClampNeg)) <<< (((1 : Int32) <<< (v6I &&& 31)).toInt64 &&& 63))) fun x2 => L_St_leastOf_2 v0J v2J x2 (v6I + (1 : Int32)) σ) else ((some ((v0J &&& (v4J ^^^ ((-1) : Int64))), σ)))) := by
  unfold L_St_leastOf_2
  rw [lp_eq]
  show lpK (lp F_St_leastOf) (T_St_leastOf_2 v0J v2J v4J v6I σ) = _
  unfold T_St_leastOf_2
  simp only [lpK_ite, lq_inl, lq_inr, lpK_bnd, lpK_gd, lq_let]
  try rfl
noncomputable def M_St_leastOf (v0J : Int64) (σ : AM) : Option (Int64 × AM) := mw σ (L_St_leastOf_0 v0J σ)
def I_St_leastOf (G : GX) (p : Program) (l : Launch) (e : Env) (s : State) (m : MethodId) (args : Array Value) (below : List Frame) (meth : Method) (c : Code) (z0 u0 n : Nat) : Prop :=
  (∀ (v0J : Int64) (σ : AM), VX (QM eJ G args s below z0 u0) G p l e s m args below meth c 0 z0 u0 7 (lpn F_St_leastOf n (0, v0J, 0, 0, 0, 0, σ)) 0 [(0, .long v0J)] [] σ) ∧
  (∀ (v0J : Int64) (v2J : Int64) (v4I : Int32) (σ : AM), VX (QM eJ G args s below z0 u0) G p l e s m args below meth c 0 z0 u0 7 (lpn F_St_leastOf n (1, v0J, v2J, v4I, 0, 0, σ)) 5 [(0, .long v0J), (2, .long v2J), (4, .int v4I)] [] σ) ∧
  (∀ (v0J : Int64) (v2J : Int64) (v4J : Int64) (v6I : Int32) (σ : AM), VX (QM eJ G args s below z0 u0) G p l e s m args below meth c 0 z0 u0 7 (lpn F_St_leastOf n (2, v0J, v2J, 0, v4J, v6I, σ)) 40 [(0, .long v0J), (2, .long v2J), (4, .long v4J), (6, .int v6I)] [] σ)
set_option maxRecDepth 20000 in
theorem s_St_leastOf_0 {G : GX} {p : Program} {l : Launch} {e : Env} {s : State} {m : MethodId} {args : Array Value} {below : List Frame} {meth : Method} {c : Code} {z0 u0 n : Nat} (C : Cx G p s m args meth c prog_11_method_6_code 7 "BellPlate$Sets" ((some FieldType.long))) (IH : I_St_leastOf G p l e s m args below meth c z0 u0 n) (v0J : Int64) (σ : AM) : VX (QM eJ G args s below z0 u0) G p l e s m args below meth c 0 z0 u0 7 (lpK (lpn F_St_leastOf n) (T_St_leastOf_0 v0J σ)) 0 [(0, .long v0J)] [] σ := by
  unfold T_St_leastOf_0
  refine x_lload_n C d_St_leastOf_0 0 rfl ?_
  refine x_lstore_n (lv' := [(2, .long v0J), (0, .long v0J)]) C d_St_leastOf_1 (by decide) rfl rfl ?_
  refine x_iconst (v := (0 : Int32)) C d_St_leastOf_2 (by decide) ?_
  refine x_istore (lv' := [(4, .int (0 : Int32)), (2, .long v0J), (0, .long v0J)]) C d_St_leastOf_3 (by decide) rfl ?_
  refine x_lv [2, 1, 0] rfl ?_
  exact IH.2.1 v0J v0J ((0 : Int32)) (σ)
set_option maxRecDepth 20000 in
theorem s_St_leastOf_1 {G : GX} {p : Program} {l : Launch} {e : Env} {s : State} {m : MethodId} {args : Array Value} {below : List Frame} {meth : Method} {c : Code} {z0 u0 n : Nat} (C : Cx G p s m args meth c prog_11_method_6_code 7 "BellPlate$Sets" ((some FieldType.long))) (IH : I_St_leastOf G p l e s m args below meth c z0 u0 n) (v0J : Int64) (v2J : Int64) (v4I : Int32) (σ : AM) : VX (QM eJ G args s below z0 u0) G p l e s m args below meth c 0 z0 u0 7 (lpK (lpn F_St_leastOf n) (T_St_leastOf_1 v0J v2J v4I σ)) 5 [(0, .long v0J), (2, .long v2J), (4, .int v4I)] [] σ := by
  unfold T_St_leastOf_1
  refine x_iload C d_St_leastOf_5 2 rfl ?_
  refine x_bipush (v := (6 : Int32)) C d_St_leastOf_7 (by decide) ?_
  refine x_icmp_ge (tgt := 34) C d_St_leastOf_9 (by decide) (fun _ => ?_) (fun _ => ?_)
  · refine x_lload_n C d_St_leastOf_12 1 rfl ?_
    refine x_lload_n C d_St_leastOf_13 1 rfl ?_
    refine x_gs1 C w1131 d_St_leastOf_14 ?_
    refine x_iload C d_St_leastOf_17 2 rfl ?_
    refine x_gd (fun h1 => ?_)
    refine x_sl1 C (inB_iff.mp h1) d_St_leastOf_19 ?_
    refine x_land C d_St_leastOf_20 ?_
    refine x_iconst (v := (1 : Int32)) C d_St_leastOf_21 (by decide) ?_
    refine x_iload C d_St_leastOf_22 2 rfl ?_
    refine x_ishl C d_St_leastOf_24 ?_
    refine x_lshl C d_St_leastOf_25 ?_
    refine x_lor C d_St_leastOf_26 ?_
    refine x_letJ (fun x2 _ => ?_)
    refine x_lstore_n (lv' := [(2, .long x2), (0, .long v0J), (4, .int v4I)]) C d_St_leastOf_27 (by decide) rfl rfl ?_
    refine x_iinc (v := v4I + (1 : Int32)) (lv' := [(4, .int (v4I + (1 : Int32))), (2, .long x2), (0, .long v0J)]) C d_St_leastOf_28 2 rfl rfl (by decide) rfl ?_
    refine x_goto (tgt := 5) C d_St_leastOf_31 (by decide) ?_
    refine x_lv [2, 1, 0] rfl ?_
    exact IH.2.1 v0J x2 (v4I + (1 : Int32)) (σ)
  · refine x_lconst (v := (0 : Int64)) C d_St_leastOf_34 (by decide) ?_
    refine x_lstore (lv' := [(4, .long (0 : Int64)), (0, .long v0J), (2, .long v2J)]) C d_St_leastOf_35 (by decide) rfl ?_
    refine x_iconst (v := (0 : Int32)) C d_St_leastOf_37 (by decide) ?_
    refine x_istore (lv' := [(6, .int (0 : Int32)), (4, .long (0 : Int64)), (0, .long v0J), (2, .long v2J)]) C d_St_leastOf_38 (by decide) rfl ?_
    refine x_lv [2, 3, 1, 0] rfl ?_
    exact IH.2.2 v0J v2J ((0 : Int64)) ((0 : Int32)) (σ)
set_option maxRecDepth 20000 in
theorem s_St_leastOf_2 {G : GX} {p : Program} {l : Launch} {e : Env} {s : State} {m : MethodId} {args : Array Value} {below : List Frame} {meth : Method} {c : Code} {z0 u0 n : Nat} (C : Cx G p s m args meth c prog_11_method_6_code 7 "BellPlate$Sets" ((some FieldType.long))) (IH : I_St_leastOf G p l e s m args below meth c z0 u0 n) (v0J : Int64) (v2J : Int64) (v4J : Int64) (v6I : Int32) (σ : AM) : VX (QM eJ G args s below z0 u0) G p l e s m args below meth c 0 z0 u0 7 (lpK (lpn F_St_leastOf n) (T_St_leastOf_2 v0J v2J v4J v6I σ)) 40 [(0, .long v0J), (2, .long v2J), (4, .long v4J), (6, .int v6I)] [] σ := by
  unfold T_St_leastOf_2
  refine x_iload C d_St_leastOf_40 3 rfl ?_
  refine x_bipush (v := (6 : Int32)) C d_St_leastOf_42 (by decide) ?_
  refine x_icmp_ge (tgt := 71) C d_St_leastOf_44 (by decide) (fun _ => ?_) (fun _ => ?_)
  · refine x_lload C d_St_leastOf_47 2 rfl ?_
    refine x_lload_n C d_St_leastOf_49 1 rfl ?_
    refine x_gs1 C w1131 d_St_leastOf_50 ?_
    refine x_iload C d_St_leastOf_53 3 rfl ?_
    refine x_gd (fun h1 => ?_)
    refine x_sl1 C (inB_iff.mp h1) d_St_leastOf_55 ?_
    refine x_land C d_St_leastOf_56 ?_
    refine x_iconst (v := (1 : Int32)) C d_St_leastOf_57 (by decide) ?_
    refine x_iload C d_St_leastOf_58 3 rfl ?_
    refine x_ishl C d_St_leastOf_60 ?_
    refine x_lshl C d_St_leastOf_61 ?_
    refine x_lor C d_St_leastOf_62 ?_
    refine x_letJ (fun x2 _ => ?_)
    refine x_lstore (lv' := [(4, .long x2), (0, .long v0J), (2, .long v2J), (6, .int v6I)]) C d_St_leastOf_63 (by decide) rfl ?_
    refine x_iinc (v := v6I + (1 : Int32)) (lv' := [(6, .int (v6I + (1 : Int32))), (4, .long x2), (0, .long v0J), (2, .long v2J)]) C d_St_leastOf_65 3 rfl rfl (by decide) rfl ?_
    refine x_goto (tgt := 40) C d_St_leastOf_68 (by decide) ?_
    refine x_lv [2, 3, 1, 0] rfl ?_
    exact IH.2.2 v0J v2J x2 (v6I + (1 : Int32)) (σ)
  · refine x_lload_n C d_St_leastOf_71 0 rfl ?_
    refine x_lload C d_St_leastOf_72 2 rfl ?_
    refine x_ldc2 C d_St_leastOf_74 w1130 ?_
    refine x_lxor C d_St_leastOf_77 ?_
    refine x_land C d_St_leastOf_78 ?_
    exact x_lret C d_St_leastOf_79
theorem i_St_leastOf {G : GX} {p : Program} {l : Launch} {e : Env} {s : State} {m : MethodId} {args : Array Value} {below : List Frame} {meth : Method} {c : Code} {z0 u0 : Nat} (C : Cx G p s m args meth c prog_11_method_6_code 7 "BellPlate$Sets" ((some FieldType.long))) (n : Nat) : I_St_leastOf G p l e s m args below meth c z0 u0 n := by
  induction n with
  | zero => exact ⟨fun _ _ => x_none, fun _ _ _ _ => x_none, fun _ _ _ _ _ => x_none⟩
  | succ n IH => exact ⟨fun v0J σ => s_St_leastOf_0 C IH v0J σ, fun v0J v2J v4I σ => s_St_leastOf_1 C IH v0J v2J v4I σ, fun v0J v2J v4J v6I σ => s_St_leastOf_2 C IH v0J v2J v4J v6I σ⟩
theorem c_St_leastOf (G : GX) (l : Launch) (v0J : Int64) (σ : AM) : CT eJ G l 0 y_St_leastOf prog_11_method_6_code 7 ((some FieldType.long)) [.long v0J] σ (M_St_leastOf v0J σ) := by
  refine ct_of (by decide +kernel) (Nat.le_of_ble_eq_true rfl) (fun p e s m args below meth c C hin => ?_)
  refine x_lve (lv' := [(0, .long v0J)]) rfl ?_
  intro r σ' h
  obtain ⟨n, hn⟩ := (lp_iff _ _ _).mp h
  exact (i_St_leastOf C n).1 v0J σ r σ' hn
/-! BellPlate$Sets.spread(J[I)I -/
abbrev y_St_spread : MethodName := ⟨"BellPlate$Sets", "spread", "(J[I)I"⟩
theorem k_St_spread : y_St_spread.cls ≠ "java/lang/invoke/MethodHandle" ∧ y_St_spread.cls ≠ "java/lang/invoke/VarHandle" ∧ (parseMethodDescriptor y_St_spread.desc).map (fun d => d.parameters.length) = some 2 := by decide +kernel
theorem d_St_spread_0 : decode prog_11_method_9_code 0 = .ok (.iconst 0, 1) := by decide +kernel
theorem d_St_spread_1 : decode prog_11_method_9_code 1 = .ok (.istore_n 3, 1) := by decide +kernel
theorem d_St_spread_2 : decode prog_11_method_9_code 2 = .ok (.iconst 0, 1) := by decide +kernel
theorem d_St_spread_3 : decode prog_11_method_9_code 3 = .ok (.istore 4, 2) := by decide +kernel
theorem d_St_spread_5 : decode prog_11_method_9_code 5 = .ok (.iload 4, 2) := by decide +kernel
theorem d_St_spread_7 : decode prog_11_method_9_code 7 = .ok (.bipush 64, 2) := by decide +kernel
theorem d_St_spread_9 : decode prog_11_method_9_code 9 = .ok (.if_icmp .ge 32, 3) := by decide +kernel
theorem d_St_spread_12 : decode prog_11_method_9_code 12 = .ok (.iload_n 3, 1) := by decide +kernel
theorem d_St_spread_13 : decode prog_11_method_9_code 13 = .ok (.aload_n 2, 1) := by decide +kernel
theorem d_St_spread_14 : decode prog_11_method_9_code 14 = .ok (.arraylength, 1) := by decide +kernel
theorem d_St_spread_15 : decode prog_11_method_9_code 15 = .ok (.if_icmp .ge 26, 3) := by decide +kernel
theorem d_St_spread_18 : decode prog_11_method_9_code 18 = .ok (.lload_n 0, 1) := by decide +kernel
theorem d_St_spread_19 : decode prog_11_method_9_code 19 = .ok (.iload 4, 2) := by decide +kernel
theorem d_St_spread_21 : decode prog_11_method_9_code 21 = .ok (.invokestatic 29, 3) := by decide +kernel
theorem d_St_spread_24 : decode prog_11_method_9_code 24 = .ok (.ifCond .eq 11, 3) := by decide +kernel
theorem d_St_spread_27 : decode prog_11_method_9_code 27 = .ok (.aload_n 2, 1) := by decide +kernel
theorem d_St_spread_28 : decode prog_11_method_9_code 28 = .ok (.iload_n 3, 1) := by decide +kernel
theorem d_St_spread_29 : decode prog_11_method_9_code 29 = .ok (.iload 4, 2) := by decide +kernel
theorem d_St_spread_31 : decode prog_11_method_9_code 31 = .ok (.iastore, 1) := by decide +kernel
theorem d_St_spread_32 : decode prog_11_method_9_code 32 = .ok (.iinc 3 1, 3) := by decide +kernel
theorem d_St_spread_35 : decode prog_11_method_9_code 35 = .ok (.iinc 4 1, 3) := by decide +kernel
theorem d_St_spread_38 : decode prog_11_method_9_code 38 = .ok (.goto (-33), 3) := by decide +kernel
theorem d_St_spread_41 : decode prog_11_method_9_code 41 = .ok (.iload_n 3, 1) := by decide +kernel
theorem d_St_spread_42 : decode prog_11_method_9_code 42 = .ok (.ireturn, 1) := by decide +kernel
abbrev S_St_spread : Type := Nat × Int64 × Nat × Int32 × Int32 × AM
noncomputable def T_St_spread_0 (v0J : Int64) (v2R : Nat) (σ : AM) : S_St_spread ⊕ Option (Int32 × AM) :=
  .inl (1, v0J, v2R, (0 : Int32), (0 : Int32), σ)
noncomputable def T_St_spread_1 (v0J : Int64) (v2R : Nat) (v3I : Int32) (v4I : Int32) (σ : AM) : S_St_spread ⊕ Option (Int32 × AM) :=
  if v4I < (64 : Int32) then (gdT (okO σ v2R 101) <| if v3I < (nI (aN σ v2R)) then (bndT (M_St_has v0J v4I σ) fun r2 σ3 => if r2 = 0 then (.inl (2, v0J, v2R, v3I, v4I, σ3)) else (gdT (okO σ3 v2R 101) <| gdT (inB v3I (aN σ3 v2R)) <| letT (sI σ3 v2R v3I.toNatClampNeg v4I) fun σ6 => .inl (2, v0J, v2R, v3I + (1 : Int32), v4I, σ6))) else (.inl (3, 0, 0, v3I, 0, σ))) else (.inl (3, 0, 0, v3I, 0, σ))
noncomputable def T_St_spread_2 (v0J : Int64) (v2R : Nat) (v3I : Int32) (v4I : Int32) (σ : AM) : S_St_spread ⊕ Option (Int32 × AM) :=
  .inl (1, v0J, v2R, v3I, v4I + (1 : Int32), σ)
noncomputable def T_St_spread_3 (v3I : Int32) (σ : AM) : S_St_spread ⊕ Option (Int32 × AM) :=
  .inr (some (v3I, σ))
noncomputable def F_St_spread : S_St_spread → S_St_spread ⊕ Option (Int32 × AM) := fun s => match s.1 with
  | 0 => T_St_spread_0 (s.2.1) (s.2.2.1) (s.2.2.2.2.2)
  | 1 => T_St_spread_1 (s.2.1) (s.2.2.1) (s.2.2.2.1) (s.2.2.2.2.1) (s.2.2.2.2.2)
  | 2 => T_St_spread_2 (s.2.1) (s.2.2.1) (s.2.2.2.1) (s.2.2.2.2.1) (s.2.2.2.2.2)
  | _ => T_St_spread_3 (s.2.2.2.1) (s.2.2.2.2.2)
noncomputable def L_St_spread_0 (v0J : Int64) (v2R : Nat) (σ : AM) : Option (Int32 × AM) := lp F_St_spread (0, v0J, v2R, 0, 0, σ)
noncomputable def L_St_spread_1 (v0J : Int64) (v2R : Nat) (v3I : Int32) (v4I : Int32) (σ : AM) : Option (Int32 × AM) := lp F_St_spread (1, v0J, v2R, v3I, v4I, σ)
noncomputable def L_St_spread_2 (v0J : Int64) (v2R : Nat) (v3I : Int32) (v4I : Int32) (σ : AM) : Option (Int32 × AM) := lp F_St_spread (2, v0J, v2R, v3I, v4I, σ)
noncomputable def L_St_spread_3 (v3I : Int32) (σ : AM) : Option (Int32 × AM) := lp F_St_spread (3, 0, 0, v3I, 0, σ)
set_option maxRecDepth 20000 in
theorem E_St_spread_0 (v0J : Int64) (v2R : Nat) (σ : AM) : L_St_spread_0 v0J v2R σ = (L_St_spread_1 v0J v2R ((0 : Int32)) ((0 : Int32)) σ) := by
  unfold L_St_spread_0
  rw [lp_eq]
  show lpK (lp F_St_spread) (T_St_spread_0 v0J v2R σ) = _
  unfold T_St_spread_0
  simp only [lpK_ite, lq_inl, lq_inr, lpK_bnd, lpK_gd, lq_let]
  try rfl
set_option maxRecDepth 20000 in
theorem E_St_spread_1 (v0J : Int64) (v2R : Nat) (v3I : Int32) (v4I : Int32) (σ : AM) : L_St_spread_1 v0J v2R v3I v4I σ = (if v4I < (64 : Int32) then (gd (okO σ v2R 101) <| if v3I < (nI (aN σ v2R)) then (bnd (M_St_has v0J v4I σ) fun r2 σ3 => if r2 = 0 then (L_St_spread_2 v0J v2R v3I v4I σ3) else (gd (okO σ3 v2R 101) <| gd (inB v3I (aN σ3 v2R)) <| letT (sI σ3 v2R v3I.toNatClampNeg v4I) fun σ6 => L_St_spread_2 v0J v2R (v3I + (1 : Int32)) v4I σ6)) else (L_St_spread_3 v3I σ)) else (L_St_spread_3 v3I σ)) := by
  unfold L_St_spread_1
  rw [lp_eq]
  show lpK (lp F_St_spread) (T_St_spread_1 v0J v2R v3I v4I σ) = _
  unfold T_St_spread_1
  simp only [lpK_ite, lq_inl, lq_inr, lpK_bnd, lpK_gd, lq_let]
  try rfl
set_option maxRecDepth 20000 in
theorem E_St_spread_2 (v0J : Int64) (v2R : Nat) (v3I : Int32) (v4I : Int32) (σ : AM) : L_St_spread_2 v0J v2R v3I v4I σ = (L_St_spread_1 v0J v2R v3I (v4I + (1 : Int32)) σ) := by
  unfold L_St_spread_2
  rw [lp_eq]
  show lpK (lp F_St_spread) (T_St_spread_2 v0J v2R v3I v4I σ) = _
  unfold T_St_spread_2
  simp only [lpK_ite, lq_inl, lq_inr, lpK_bnd, lpK_gd, lq_let]
  try rfl
set_option maxRecDepth 20000 in
theorem E_St_spread_3 (v3I : Int32) (σ : AM) : L_St_spread_3 v3I σ = ((some (v3I, σ))) := by
  unfold L_St_spread_3
  rw [lp_eq]
  show lpK (lp F_St_spread) (T_St_spread_3 v3I σ) = _
  unfold T_St_spread_3
  simp only [lpK_ite, lq_inl, lq_inr, lpK_bnd, lpK_gd, lq_let]
  try rfl
noncomputable def M_St_spread (v0J : Int64) (v2R : Nat) (σ : AM) : Option (Int32 × AM) := mw σ (L_St_spread_0 v0J v2R σ)
def I_St_spread (G : GX) (p : Program) (l : Launch) (e : Env) (s : State) (m : MethodId) (args : Array Value) (below : List Frame) (meth : Method) (c : Code) (z0 u0 n : Nat) : Prop :=
  (∀ (v0J : Int64) (v2R : Nat) (σ : AM), VX (QM eI G args s below z0 u0) G p l e s m args below meth c 1 z0 u0 5 (lpn F_St_spread n (0, v0J, v2R, 0, 0, σ)) 0 [(0, .long v0J), (2, .ref v2R)] [] σ) ∧
  (∀ (v0J : Int64) (v2R : Nat) (v3I : Int32) (v4I : Int32) (σ : AM), VX (QM eI G args s below z0 u0) G p l e s m args below meth c 1 z0 u0 5 (lpn F_St_spread n (1, v0J, v2R, v3I, v4I, σ)) 5 [(0, .long v0J), (2, .ref v2R), (3, .int v3I), (4, .int v4I)] [] σ) ∧
  (∀ (v0J : Int64) (v2R : Nat) (v3I : Int32) (v4I : Int32) (σ : AM), VX (QM eI G args s below z0 u0) G p l e s m args below meth c 1 z0 u0 5 (lpn F_St_spread n (2, v0J, v2R, v3I, v4I, σ)) 35 [(0, .long v0J), (2, .ref v2R), (3, .int v3I), (4, .int v4I)] [] σ) ∧
  (∀ (v3I : Int32) (σ : AM), VX (QM eI G args s below z0 u0) G p l e s m args below meth c 1 z0 u0 5 (lpn F_St_spread n (3, 0, 0, v3I, 0, σ)) 41 [(3, .int v3I)] [] σ)
set_option maxRecDepth 20000 in
theorem s_St_spread_0 {G : GX} {p : Program} {l : Launch} {e : Env} {s : State} {m : MethodId} {args : Array Value} {below : List Frame} {meth : Method} {c : Code} {z0 u0 n : Nat} (C : Cx G p s m args meth c prog_11_method_9_code 5 "BellPlate$Sets" ((some FieldType.int))) (IH : I_St_spread G p l e s m args below meth c z0 u0 n) (v0J : Int64) (v2R : Nat) (σ : AM) : VX (QM eI G args s below z0 u0) G p l e s m args below meth c 1 z0 u0 5 (lpK (lpn F_St_spread n) (T_St_spread_0 v0J v2R σ)) 0 [(0, .long v0J), (2, .ref v2R)] [] σ := by
  unfold T_St_spread_0
  refine x_iconst (v := (0 : Int32)) C d_St_spread_0 (by decide) ?_
  refine x_istore_n (lv' := [(3, .int (0 : Int32)), (0, .long v0J), (2, .ref v2R)]) C d_St_spread_1 (by decide) rfl rfl ?_
  refine x_iconst (v := (0 : Int32)) C d_St_spread_2 (by decide) ?_
  refine x_istore (lv' := [(4, .int (0 : Int32)), (3, .int (0 : Int32)), (0, .long v0J), (2, .ref v2R)]) C d_St_spread_3 (by decide) rfl ?_
  refine x_lv [2, 3, 1, 0] rfl ?_
  exact IH.2.1 v0J v2R ((0 : Int32)) ((0 : Int32)) (σ)
set_option maxRecDepth 20000 in
theorem s_St_spread_1 {G : GX} {p : Program} {l : Launch} {e : Env} {s : State} {m : MethodId} {args : Array Value} {below : List Frame} {meth : Method} {c : Code} {z0 u0 n : Nat} (C : Cx G p s m args meth c prog_11_method_9_code 5 "BellPlate$Sets" ((some FieldType.int))) (IH : I_St_spread G p l e s m args below meth c z0 u0 n) (v0J : Int64) (v2R : Nat) (v3I : Int32) (v4I : Int32) (σ : AM) : VX (QM eI G args s below z0 u0) G p l e s m args below meth c 1 z0 u0 5 (lpK (lpn F_St_spread n) (T_St_spread_1 v0J v2R v3I v4I σ)) 5 [(0, .long v0J), (2, .ref v2R), (3, .int v3I), (4, .int v4I)] [] σ := by
  unfold T_St_spread_1
  refine x_iload C d_St_spread_5 3 rfl ?_
  refine x_bipush (v := (64 : Int32)) C d_St_spread_7 (by decide) ?_
  refine x_icmp_ge (tgt := 41) C d_St_spread_9 (by decide) (fun _ => ?_) (fun _ => ?_)
  · refine x_iload_n C d_St_spread_12 2 rfl ?_
    refine x_aload_n C d_St_spread_13 1 rfl ?_
    refine x_gd (fun h1 => ?_)
    refine x_alen (t := 0) C (okO_iff.mp h1) (by decide) d_St_spread_14 ?_
    refine x_icmp_ge (tgt := 41) C d_St_spread_15 (by decide) (fun _ => ?_) (fun _ => ?_)
    · refine x_lload_n C d_St_spread_18 0 rfl ?_
      refine x_iload C d_St_spread_19 3 rfl ?_
      refine x_callSI (As := [.long v0J, .int v4I]) C (c_St_has G l v0J v4I σ) w1101 w1332 w1102 w141 k_St_has rfl (by decide) (by decide) rfl (Nat.le_of_ble_eq_true rfl) d_St_spread_21 (fun r2 σ3 => ?_)
      refine x_if_eq (tgt := 35) C d_St_spread_24 (by decide) (fun _ => ?_) (fun _ => ?_)
      · exact IH.2.2.1 v0J v2R v3I v4I (σ3)
      · refine x_aload_n C d_St_spread_27 1 rfl ?_
        refine x_iload_n C d_St_spread_28 2 rfl ?_
        refine x_iload C d_St_spread_29 3 rfl ?_
        refine x_gd (fun h4 => ?_)
        refine x_gd (fun h5 => ?_)
        refine x_astI C (okO_iff.mp h4) (inB_iff.mp h5) d_St_spread_31 ?_
        refine x_letS (fun σ6 e7 => ?_)
        refine x_iinc (v := v3I + (1 : Int32)) (lv' := [(3, .int (v3I + (1 : Int32))), (0, .long v0J), (2, .ref v2R), (4, .int v4I)]) C d_St_spread_32 2 rfl rfl (by decide) rfl ?_
        refine x_lv [1, 2, 0, 3] rfl ?_
        exact IH.2.2.1 v0J v2R (v3I + (1 : Int32)) v4I (σ6)
    · refine x_lv [2] rfl ?_
      exact IH.2.2.2 v3I (σ)
  · refine x_lv [2] rfl ?_
    exact IH.2.2.2 v3I (σ)
set_option maxRecDepth 20000 in
theorem s_St_spread_2 {G : GX} {p : Program} {l : Launch} {e : Env} {s : State} {m : MethodId} {args : Array Value} {below : List Frame} {meth : Method} {c : Code} {z0 u0 n : Nat} (C : Cx G p s m args meth c prog_11_method_9_code 5 "BellPlate$Sets" ((some FieldType.int))) (IH : I_St_spread G p l e s m args below meth c z0 u0 n) (v0J : Int64) (v2R : Nat) (v3I : Int32) (v4I : Int32) (σ : AM) : VX (QM eI G args s below z0 u0) G p l e s m args below meth c 1 z0 u0 5 (lpK (lpn F_St_spread n) (T_St_spread_2 v0J v2R v3I v4I σ)) 35 [(0, .long v0J), (2, .ref v2R), (3, .int v3I), (4, .int v4I)] [] σ := by
  unfold T_St_spread_2
  refine x_iinc (v := v4I + (1 : Int32)) (lv' := [(4, .int (v4I + (1 : Int32))), (0, .long v0J), (2, .ref v2R), (3, .int v3I)]) C d_St_spread_35 3 rfl rfl (by decide) rfl ?_
  refine x_goto (tgt := 5) C d_St_spread_38 (by decide) ?_
  refine x_lv [1, 2, 3, 0] rfl ?_
  exact IH.2.1 v0J v2R v3I (v4I + (1 : Int32)) (σ)
set_option maxRecDepth 20000 in
theorem s_St_spread_3 {G : GX} {p : Program} {l : Launch} {e : Env} {s : State} {m : MethodId} {args : Array Value} {below : List Frame} {meth : Method} {c : Code} {z0 u0 n : Nat} (C : Cx G p s m args meth c prog_11_method_9_code 5 "BellPlate$Sets" ((some FieldType.int))) (IH : I_St_spread G p l e s m args below meth c z0 u0 n) (v3I : Int32) (σ : AM) : VX (QM eI G args s below z0 u0) G p l e s m args below meth c 1 z0 u0 5 (lpK (lpn F_St_spread n) (T_St_spread_3 v3I σ)) 41 [(3, .int v3I)] [] σ := by
  unfold T_St_spread_3
  refine x_iload_n C d_St_spread_41 0 rfl ?_
  exact x_iret C d_St_spread_42
theorem i_St_spread {G : GX} {p : Program} {l : Launch} {e : Env} {s : State} {m : MethodId} {args : Array Value} {below : List Frame} {meth : Method} {c : Code} {z0 u0 : Nat} (C : Cx G p s m args meth c prog_11_method_9_code 5 "BellPlate$Sets" ((some FieldType.int))) (n : Nat) : I_St_spread G p l e s m args below meth c z0 u0 n := by
  induction n with
  | zero => exact ⟨fun _ _ _ => x_none, fun _ _ _ _ _ => x_none, fun _ _ _ _ _ => x_none, fun _ _ => x_none⟩
  | succ n IH => exact ⟨fun v0J v2R σ => s_St_spread_0 C IH v0J v2R σ, fun v0J v2R v3I v4I σ => s_St_spread_1 C IH v0J v2R v3I v4I σ, fun v0J v2R v3I v4I σ => s_St_spread_2 C IH v0J v2R v3I v4I σ, fun v3I σ => s_St_spread_3 C IH v3I σ⟩
theorem c_St_spread (G : GX) (l : Launch) (v0J : Int64) (v2R : Nat) (σ : AM) : CT eI G l 1 y_St_spread prog_11_method_9_code 5 ((some FieldType.int)) [.long v0J, .ref v2R] σ (M_St_spread v0J v2R σ) := by
  refine ct_of (by decide +kernel) (Nat.le_of_ble_eq_true rfl) (fun p e s m args below meth c C hin => ?_)
  refine x_lve (lv' := [(0, .long v0J), (2, .ref v2R)]) rfl ?_
  intro r σ' h
  obtain ⟨n, hn⟩ := (lp_iff _ _ _).mp h
  exact (i_St_spread C n).1 v0J v2R σ r σ' hn
/-! BellPlate$Sets.greatestOf(J)J -/
abbrev y_St_greatestOf : MethodName := ⟨"BellPlate$Sets", "greatestOf", "(J)J"⟩
theorem k_St_greatestOf : y_St_greatestOf.cls ≠ "java/lang/invoke/MethodHandle" ∧ y_St_greatestOf.cls ≠ "java/lang/invoke/VarHandle" ∧ (parseMethodDescriptor y_St_greatestOf.desc).map (fun d => d.parameters.length) = some 1 := by decide +kernel
theorem d_St_greatestOf_0 : decode prog_11_method_7_code 0 = .ok (.lload_n 0, 1) := by decide +kernel
theorem d_St_greatestOf_1 : decode prog_11_method_7_code 1 = .ok (.lstore_n 2, 1) := by decide +kernel
theorem d_St_greatestOf_2 : decode prog_11_method_7_code 2 = .ok (.iconst 0, 1) := by decide +kernel
theorem d_St_greatestOf_3 : decode prog_11_method_7_code 3 = .ok (.istore 4, 2) := by decide +kernel
theorem d_St_greatestOf_5 : decode prog_11_method_7_code 5 = .ok (.iload 4, 2) := by decide +kernel
theorem d_St_greatestOf_7 : decode prog_11_method_7_code 7 = .ok (.bipush 6, 2) := by decide +kernel
theorem d_St_greatestOf_9 : decode prog_11_method_7_code 9 = .ok (.if_icmp .ge 29, 3) := by decide +kernel
theorem d_St_greatestOf_12 : decode prog_11_method_7_code 12 = .ok (.lload_n 2, 1) := by decide +kernel
theorem d_St_greatestOf_13 : decode prog_11_method_7_code 13 = .ok (.lload_n 2, 1) := by decide +kernel
theorem d_St_greatestOf_14 : decode prog_11_method_7_code 14 = .ok (.getstatic 17, 3) := by decide +kernel
theorem d_St_greatestOf_17 : decode prog_11_method_7_code 17 = .ok (.iload 4, 2) := by decide +kernel
theorem d_St_greatestOf_19 : decode prog_11_method_7_code 19 = .ok (.laload, 1) := by decide +kernel
theorem d_St_greatestOf_20 : decode prog_11_method_7_code 20 = .ok (.ldc2_w 15, 3) := by decide +kernel
theorem d_St_greatestOf_23 : decode prog_11_method_7_code 23 = .ok (.lxor, 1) := by decide +kernel
theorem d_St_greatestOf_24 : decode prog_11_method_7_code 24 = .ok (.land, 1) := by decide +kernel
theorem d_St_greatestOf_25 : decode prog_11_method_7_code 25 = .ok (.iconst 1, 1) := by decide +kernel
theorem d_St_greatestOf_26 : decode prog_11_method_7_code 26 = .ok (.iload 4, 2) := by decide +kernel
theorem d_St_greatestOf_28 : decode prog_11_method_7_code 28 = .ok (.ishl, 1) := by decide +kernel
theorem d_St_greatestOf_29 : decode prog_11_method_7_code 29 = .ok (.lushr, 1) := by decide +kernel
theorem d_St_greatestOf_30 : decode prog_11_method_7_code 30 = .ok (.lor, 1) := by decide +kernel
theorem d_St_greatestOf_31 : decode prog_11_method_7_code 31 = .ok (.lstore_n 2, 1) := by decide +kernel
theorem d_St_greatestOf_32 : decode prog_11_method_7_code 32 = .ok (.iinc 4 1, 3) := by decide +kernel
theorem d_St_greatestOf_35 : decode prog_11_method_7_code 35 = .ok (.goto (-30), 3) := by decide +kernel
theorem d_St_greatestOf_38 : decode prog_11_method_7_code 38 = .ok (.lconst 0, 1) := by decide +kernel
theorem d_St_greatestOf_39 : decode prog_11_method_7_code 39 = .ok (.lstore 4, 2) := by decide +kernel
theorem d_St_greatestOf_41 : decode prog_11_method_7_code 41 = .ok (.iconst 0, 1) := by decide +kernel
theorem d_St_greatestOf_42 : decode prog_11_method_7_code 42 = .ok (.istore 6, 2) := by decide +kernel
theorem d_St_greatestOf_44 : decode prog_11_method_7_code 44 = .ok (.iload 6, 2) := by decide +kernel
theorem d_St_greatestOf_46 : decode prog_11_method_7_code 46 = .ok (.bipush 6, 2) := by decide +kernel
theorem d_St_greatestOf_48 : decode prog_11_method_7_code 48 = .ok (.if_icmp .ge 31, 3) := by decide +kernel
theorem d_St_greatestOf_51 : decode prog_11_method_7_code 51 = .ok (.lload 4, 2) := by decide +kernel
theorem d_St_greatestOf_53 : decode prog_11_method_7_code 53 = .ok (.lload_n 2, 1) := by decide +kernel
theorem d_St_greatestOf_54 : decode prog_11_method_7_code 54 = .ok (.getstatic 17, 3) := by decide +kernel
theorem d_St_greatestOf_57 : decode prog_11_method_7_code 57 = .ok (.iload 6, 2) := by decide +kernel
theorem d_St_greatestOf_59 : decode prog_11_method_7_code 59 = .ok (.laload, 1) := by decide +kernel
theorem d_St_greatestOf_60 : decode prog_11_method_7_code 60 = .ok (.ldc2_w 15, 3) := by decide +kernel
theorem d_St_greatestOf_63 : decode prog_11_method_7_code 63 = .ok (.lxor, 1) := by decide +kernel
theorem d_St_greatestOf_64 : decode prog_11_method_7_code 64 = .ok (.land, 1) := by decide +kernel
theorem d_St_greatestOf_65 : decode prog_11_method_7_code 65 = .ok (.iconst 1, 1) := by decide +kernel
theorem d_St_greatestOf_66 : decode prog_11_method_7_code 66 = .ok (.iload 6, 2) := by decide +kernel
theorem d_St_greatestOf_68 : decode prog_11_method_7_code 68 = .ok (.ishl, 1) := by decide +kernel
theorem d_St_greatestOf_69 : decode prog_11_method_7_code 69 = .ok (.lushr, 1) := by decide +kernel
theorem d_St_greatestOf_70 : decode prog_11_method_7_code 70 = .ok (.lor, 1) := by decide +kernel
theorem d_St_greatestOf_71 : decode prog_11_method_7_code 71 = .ok (.lstore 4, 2) := by decide +kernel
theorem d_St_greatestOf_73 : decode prog_11_method_7_code 73 = .ok (.iinc 6 1, 3) := by decide +kernel
theorem d_St_greatestOf_76 : decode prog_11_method_7_code 76 = .ok (.goto (-32), 3) := by decide +kernel
theorem d_St_greatestOf_79 : decode prog_11_method_7_code 79 = .ok (.lload_n 0, 1) := by decide +kernel
theorem d_St_greatestOf_80 : decode prog_11_method_7_code 80 = .ok (.lload 4, 2) := by decide +kernel
theorem d_St_greatestOf_82 : decode prog_11_method_7_code 82 = .ok (.ldc2_w 15, 3) := by decide +kernel
theorem d_St_greatestOf_85 : decode prog_11_method_7_code 85 = .ok (.lxor, 1) := by decide +kernel
theorem d_St_greatestOf_86 : decode prog_11_method_7_code 86 = .ok (.land, 1) := by decide +kernel
theorem d_St_greatestOf_87 : decode prog_11_method_7_code 87 = .ok (.lreturn, 1) := by decide +kernel
abbrev S_St_greatestOf : Type := Nat × Int64 × Int64 × Int32 × Int64 × Int32 × AM
noncomputable def T_St_greatestOf_0 (v0J : Int64) (σ : AM) : S_St_greatestOf ⊕ Option (Int64 × AM) :=
  .inl (1, v0J, v0J, (0 : Int32), 0, 0, σ)
noncomputable def T_St_greatestOf_1 (v0J : Int64) (v2J : Int64) (v4I : Int32) (σ : AM) : S_St_greatestOf ⊕ Option (Int64 × AM) :=
  if v4I < (6 : Int32) then (gdT (inB v4I 6) <| letT (v2J ||| (((v2J &&& ((tbWITHOUT v4I.toNatClampNeg) ^^^ ((-1) : Int64))).toUInt64 >>> (((1 : Int32) <<< (v4I &&& 31)).toInt64.toUInt64 &&& Int64.toUInt64 63)).toInt64)) fun x2 => .inl (1, v0J, x2, v4I + (1 : Int32), 0, 0, σ)) else (.inl (2, v0J, v2J, 0, (0 : Int64), (0 : Int32), σ))
noncomputable def T_St_greatestOf_2 (v0J : Int64) (v2J : Int64) (v4J : Int64) (v6I : Int32) (σ : AM) : S_St_greatestOf ⊕ Option (Int64 × AM) :=
  if v6I < (6 : Int32) then (gdT (inB v6I 6) <| letT (v4J ||| (((v2J &&& ((tbWITHOUT v6I.toNatClampNeg) ^^^ ((-1) : Int64))).toUInt64 >>> (((1 : Int32) <<< (v6I &&& 31)).toInt64.toUInt64 &&& Int64.toUInt64 63)).toInt64)) fun x2 => .inl (2, v0J, v2J, 0, x2, v6I + (1 : Int32), σ)) else (.inr (some ((v0J &&& (v4J ^^^ ((-1) : Int64))), σ)))
noncomputable def F_St_greatestOf : S_St_greatestOf → S_St_greatestOf ⊕ Option (Int64 × AM) := fun s => match s.1 with
  | 0 => T_St_greatestOf_0 (s.2.1) (s.2.2.2.2.2.2)
  | 1 => T_St_greatestOf_1 (s.2.1) (s.2.2.1) (s.2.2.2.1) (s.2.2.2.2.2.2)
  | _ => T_St_greatestOf_2 (s.2.1) (s.2.2.1) (s.2.2.2.2.1) (s.2.2.2.2.2.1) (s.2.2.2.2.2.2)
noncomputable def L_St_greatestOf_0 (v0J : Int64) (σ : AM) : Option (Int64 × AM) := lp F_St_greatestOf (0, v0J, 0, 0, 0, 0, σ)
noncomputable def L_St_greatestOf_1 (v0J : Int64) (v2J : Int64) (v4I : Int32) (σ : AM) : Option (Int64 × AM) := lp F_St_greatestOf (1, v0J, v2J, v4I, 0, 0, σ)
noncomputable def L_St_greatestOf_2 (v0J : Int64) (v2J : Int64) (v4J : Int64) (v6I : Int32) (σ : AM) : Option (Int64 × AM) := lp F_St_greatestOf (2, v0J, v2J, 0, v4J, v6I, σ)
set_option maxRecDepth 20000 in
theorem E_St_greatestOf_0 (v0J : Int64) (σ : AM) : L_St_greatestOf_0 v0J σ = (L_St_greatestOf_1 v0J v0J ((0 : Int32)) σ) := by
  unfold L_St_greatestOf_0
  rw [lp_eq]
  show lpK (lp F_St_greatestOf) (T_St_greatestOf_0 v0J σ) = _
  unfold T_St_greatestOf_0
  simp only [lpK_ite, lq_inl, lq_inr, lpK_bnd, lpK_gd, lq_let]
  try rfl
set_option maxRecDepth 20000 in
theorem E_St_greatestOf_1 (v0J : Int64) (v2J : Int64) (v4I : Int32) (σ : AM) : L_St_greatestOf_1 v0J v2J v4I σ = (if v4I < (6 : Int32) then (gd (inB v4I 6) <| letT (v2J ||| (((v2J &&& ((tbWITHOUT v4I.toNatClampNeg) ^^^ ((-1) : Int64))).toUInt64 >>> (((1 : Int32) <<< (v4I &&& 31)).toInt64.toUInt64 &&& Int64.toUInt64 63)).toInt64)) fun x2 => L_St_greatestOf_1 v0J x2 (v4I + (1 : Int32)) σ) else (L_St_greatestOf_2 v0J v2J ((0 : Int64)) ((0 : Int32)) σ)) := by
  unfold L_St_greatestOf_1
  rw [lp_eq]
  show lpK (lp F_St_greatestOf) (T_St_greatestOf_1 v0J v2J v4I σ) = _
  unfold T_St_greatestOf_1
  simp only [lpK_ite, lq_inl, lq_inr, lpK_bnd, lpK_gd, lq_let]
  try rfl
set_option maxRecDepth 20000 in
theorem E_St_greatestOf_2 (v0J : Int64) (v2J : Int64) (v4J : Int64) (v6I : Int32) (σ : AM) : L_St_greatestOf_2 v0J v2J v4J v6I σ = (if v6I < (6 : Int32) then (gd (inB v6I 6) <| letT (v4J ||| (((v2J &&& ((tbWITHOUT v6I.toNatClampNeg) ^^^ ((-1) : Int64))).toUInt64 >>> (((1 : Int32) <<< (v6I &&& 31)).toInt64.toUInt64 &&& Int64.toUInt64 63)).toInt64)) fun x2 => L_St_greatestOf_2 v0J v2J x2 (v6I + (1 : Int32)) σ) else ((some ((v0J &&& (v4J ^^^ ((-1) : Int64))), σ)))) := by
  unfold L_St_greatestOf_2
  rw [lp_eq]
  show lpK (lp F_St_greatestOf) (T_St_greatestOf_2 v0J v2J v4J v6I σ) = _
  unfold T_St_greatestOf_2
  simp only [lpK_ite, lq_inl, lq_inr, lpK_bnd, lpK_gd, lq_let]
  try rfl
noncomputable def M_St_greatestOf (v0J : Int64) (σ : AM) : Option (Int64 × AM) := mw σ (L_St_greatestOf_0 v0J σ)
def I_St_greatestOf (G : GX) (p : Program) (l : Launch) (e : Env) (s : State) (m : MethodId) (args : Array Value) (below : List Frame) (meth : Method) (c : Code) (z0 u0 n : Nat) : Prop :=
  (∀ (v0J : Int64) (σ : AM), VX (QM eJ G args s below z0 u0) G p l e s m args below meth c 0 z0 u0 7 (lpn F_St_greatestOf n (0, v0J, 0, 0, 0, 0, σ)) 0 [(0, .long v0J)] [] σ) ∧
  (∀ (v0J : Int64) (v2J : Int64) (v4I : Int32) (σ : AM), VX (QM eJ G args s below z0 u0) G p l e s m args below meth c 0 z0 u0 7 (lpn F_St_greatestOf n (1, v0J, v2J, v4I, 0, 0, σ)) 5 [(0, .long v0J), (2, .long v2J), (4, .int v4I)] [] σ) ∧
  (∀ (v0J : Int64) (v2J : Int64) (v4J : Int64) (v6I : Int32) (σ : AM), VX (QM eJ G args s below z0 u0) G p l e s m args below meth c 0 z0 u0 7 (lpn F_St_greatestOf n (2, v0J, v2J, 0, v4J, v6I, σ)) 44 [(0, .long v0J), (2, .long v2J), (4, .long v4J), (6, .int v6I)] [] σ)
set_option maxRecDepth 20000 in
theorem s_St_greatestOf_0 {G : GX} {p : Program} {l : Launch} {e : Env} {s : State} {m : MethodId} {args : Array Value} {below : List Frame} {meth : Method} {c : Code} {z0 u0 n : Nat} (C : Cx G p s m args meth c prog_11_method_7_code 7 "BellPlate$Sets" ((some FieldType.long))) (IH : I_St_greatestOf G p l e s m args below meth c z0 u0 n) (v0J : Int64) (σ : AM) : VX (QM eJ G args s below z0 u0) G p l e s m args below meth c 0 z0 u0 7 (lpK (lpn F_St_greatestOf n) (T_St_greatestOf_0 v0J σ)) 0 [(0, .long v0J)] [] σ := by
  unfold T_St_greatestOf_0
  refine x_lload_n C d_St_greatestOf_0 0 rfl ?_
  refine x_lstore_n (lv' := [(2, .long v0J), (0, .long v0J)]) C d_St_greatestOf_1 (by decide) rfl rfl ?_
  refine x_iconst (v := (0 : Int32)) C d_St_greatestOf_2 (by decide) ?_
  refine x_istore (lv' := [(4, .int (0 : Int32)), (2, .long v0J), (0, .long v0J)]) C d_St_greatestOf_3 (by decide) rfl ?_
  refine x_lv [2, 1, 0] rfl ?_
  exact IH.2.1 v0J v0J ((0 : Int32)) (σ)
set_option maxRecDepth 20000 in
theorem s_St_greatestOf_1 {G : GX} {p : Program} {l : Launch} {e : Env} {s : State} {m : MethodId} {args : Array Value} {below : List Frame} {meth : Method} {c : Code} {z0 u0 n : Nat} (C : Cx G p s m args meth c prog_11_method_7_code 7 "BellPlate$Sets" ((some FieldType.long))) (IH : I_St_greatestOf G p l e s m args below meth c z0 u0 n) (v0J : Int64) (v2J : Int64) (v4I : Int32) (σ : AM) : VX (QM eJ G args s below z0 u0) G p l e s m args below meth c 0 z0 u0 7 (lpK (lpn F_St_greatestOf n) (T_St_greatestOf_1 v0J v2J v4I σ)) 5 [(0, .long v0J), (2, .long v2J), (4, .int v4I)] [] σ := by
  unfold T_St_greatestOf_1
  refine x_iload C d_St_greatestOf_5 2 rfl ?_
  refine x_bipush (v := (6 : Int32)) C d_St_greatestOf_7 (by decide) ?_
  refine x_icmp_ge (tgt := 38) C d_St_greatestOf_9 (by decide) (fun _ => ?_) (fun _ => ?_)
  · refine x_lload_n C d_St_greatestOf_12 1 rfl ?_
    refine x_lload_n C d_St_greatestOf_13 1 rfl ?_
    refine x_gs1 C w1131 d_St_greatestOf_14 ?_
    refine x_iload C d_St_greatestOf_17 2 rfl ?_
    refine x_gd (fun h1 => ?_)
    refine x_sl1 C (inB_iff.mp h1) d_St_greatestOf_19 ?_
    refine x_ldc2 C d_St_greatestOf_20 w1130 ?_
    refine x_lxor C d_St_greatestOf_23 ?_
    refine x_land C d_St_greatestOf_24 ?_
    refine x_iconst (v := (1 : Int32)) C d_St_greatestOf_25 (by decide) ?_
    refine x_iload C d_St_greatestOf_26 2 rfl ?_
    refine x_ishl C d_St_greatestOf_28 ?_
    refine x_lushr C d_St_greatestOf_29 ?_
    refine x_lor C d_St_greatestOf_30 ?_
    refine x_letJ (fun x2 _ => ?_)
    refine x_lstore_n (lv' := [(2, .long x2), (0, .long v0J), (4, .int v4I)]) C d_St_greatestOf_31 (by decide) rfl rfl ?_
    refine x_iinc (v := v4I + (1 : Int32)) (lv' := [(4, .int (v4I + (1 : Int32))), (2, .long x2), (0, .long v0J)]) C d_St_greatestOf_32 2 rfl rfl (by decide) rfl ?_
    refine x_goto (tgt := 5) C d_St_greatestOf_35 (by decide) ?_
    refine x_lv [2, 1, 0] rfl ?_
    exact IH.2.1 v0J x2 (v4I + (1 : Int32)) (σ)
  · refine x_lconst (v := (0 : Int64)) C d_St_greatestOf_38 (by decide) ?_
    refine x_lstore (lv' := [(4, .long (0 : Int64)), (0, .long v0J), (2, .long v2J)]) C d_St_greatestOf_39 (by decide) rfl ?_
    refine x_iconst (v := (0 : Int32)) C d_St_greatestOf_41 (by decide) ?_
    refine x_istore (lv' := [(6, .int (0 : Int32)), (4, .long (0 : Int64)), (0, .long v0J), (2, .long v2J)]) C d_St_greatestOf_42 (by decide) rfl ?_
    refine x_lv [2, 3, 1, 0] rfl ?_
    exact IH.2.2 v0J v2J ((0 : Int64)) ((0 : Int32)) (σ)
set_option maxRecDepth 20000 in
theorem s_St_greatestOf_2 {G : GX} {p : Program} {l : Launch} {e : Env} {s : State} {m : MethodId} {args : Array Value} {below : List Frame} {meth : Method} {c : Code} {z0 u0 n : Nat} (C : Cx G p s m args meth c prog_11_method_7_code 7 "BellPlate$Sets" ((some FieldType.long))) (IH : I_St_greatestOf G p l e s m args below meth c z0 u0 n) (v0J : Int64) (v2J : Int64) (v4J : Int64) (v6I : Int32) (σ : AM) : VX (QM eJ G args s below z0 u0) G p l e s m args below meth c 0 z0 u0 7 (lpK (lpn F_St_greatestOf n) (T_St_greatestOf_2 v0J v2J v4J v6I σ)) 44 [(0, .long v0J), (2, .long v2J), (4, .long v4J), (6, .int v6I)] [] σ := by
  unfold T_St_greatestOf_2
  refine x_iload C d_St_greatestOf_44 3 rfl ?_
  refine x_bipush (v := (6 : Int32)) C d_St_greatestOf_46 (by decide) ?_
  refine x_icmp_ge (tgt := 79) C d_St_greatestOf_48 (by decide) (fun _ => ?_) (fun _ => ?_)
  · refine x_lload C d_St_greatestOf_51 2 rfl ?_
    refine x_lload_n C d_St_greatestOf_53 1 rfl ?_
    refine x_gs1 C w1131 d_St_greatestOf_54 ?_
    refine x_iload C d_St_greatestOf_57 3 rfl ?_
    refine x_gd (fun h1 => ?_)
    refine x_sl1 C (inB_iff.mp h1) d_St_greatestOf_59 ?_
    refine x_ldc2 C d_St_greatestOf_60 w1130 ?_
    refine x_lxor C d_St_greatestOf_63 ?_
    refine x_land C d_St_greatestOf_64 ?_
    refine x_iconst (v := (1 : Int32)) C d_St_greatestOf_65 (by decide) ?_
    refine x_iload C d_St_greatestOf_66 3 rfl ?_
    refine x_ishl C d_St_greatestOf_68 ?_
    refine x_lushr C d_St_greatestOf_69 ?_
    refine x_lor C d_St_greatestOf_70 ?_
    refine x_letJ (fun x2 _ => ?_)
    refine x_lstore (lv' := [(4, .long x2), (0, .long v0J), (2, .long v2J), (6, .int v6I)]) C d_St_greatestOf_71 (by decide) rfl ?_
    refine x_iinc (v := v6I + (1 : Int32)) (lv' := [(6, .int (v6I + (1 : Int32))), (4, .long x2), (0, .long v0J), (2, .long v2J)]) C d_St_greatestOf_73 3 rfl rfl (by decide) rfl ?_
    refine x_goto (tgt := 44) C d_St_greatestOf_76 (by decide) ?_
    refine x_lv [2, 3, 1, 0] rfl ?_
    exact IH.2.2 v0J v2J x2 (v6I + (1 : Int32)) (σ)
  · refine x_lload_n C d_St_greatestOf_79 0 rfl ?_
    refine x_lload C d_St_greatestOf_80 2 rfl ?_
    refine x_ldc2 C d_St_greatestOf_82 w1130 ?_
    refine x_lxor C d_St_greatestOf_85 ?_
    refine x_land C d_St_greatestOf_86 ?_
    exact x_lret C d_St_greatestOf_87
theorem i_St_greatestOf {G : GX} {p : Program} {l : Launch} {e : Env} {s : State} {m : MethodId} {args : Array Value} {below : List Frame} {meth : Method} {c : Code} {z0 u0 : Nat} (C : Cx G p s m args meth c prog_11_method_7_code 7 "BellPlate$Sets" ((some FieldType.long))) (n : Nat) : I_St_greatestOf G p l e s m args below meth c z0 u0 n := by
  induction n with
  | zero => exact ⟨fun _ _ => x_none, fun _ _ _ _ => x_none, fun _ _ _ _ _ => x_none⟩
  | succ n IH => exact ⟨fun v0J σ => s_St_greatestOf_0 C IH v0J σ, fun v0J v2J v4I σ => s_St_greatestOf_1 C IH v0J v2J v4I σ, fun v0J v2J v4J v6I σ => s_St_greatestOf_2 C IH v0J v2J v4J v6I σ⟩
theorem c_St_greatestOf (G : GX) (l : Launch) (v0J : Int64) (σ : AM) : CT eJ G l 0 y_St_greatestOf prog_11_method_7_code 7 ((some FieldType.long)) [.long v0J] σ (M_St_greatestOf v0J σ) := by
  refine ct_of (by decide +kernel) (Nat.le_of_ble_eq_true rfl) (fun p e s m args below meth c C hin => ?_)
  refine x_lve (lv' := [(0, .long v0J)]) rfl ?_
  intro r σ' h
  obtain ⟨n, hn⟩ := (lp_iff _ _ _).mp h
  exact (i_St_greatestOf C n).1 v0J σ r σ' hn
/-! BellPlate$Sets.swung(JI)J -/
abbrev y_St_swung : MethodName := ⟨"BellPlate$Sets", "swung", "(JI)J"⟩
theorem k_St_swung : y_St_swung.cls ≠ "java/lang/invoke/MethodHandle" ∧ y_St_swung.cls ≠ "java/lang/invoke/VarHandle" ∧ (parseMethodDescriptor y_St_swung.desc).map (fun d => d.parameters.length) = some 2 := by decide +kernel
theorem d_St_swung_0 : decode prog_11_method_4_code 0 = .ok (.iload_n 2, 1) := by decide +kernel
theorem d_St_swung_1 : decode prog_11_method_4_code 1 = .ok (.ifCond .lt 9, 3) := by decide +kernel
theorem d_St_swung_4 : decode prog_11_method_4_code 4 = .ok (.iload_n 2, 1) := by decide +kernel
theorem d_St_swung_5 : decode prog_11_method_4_code 5 = .ok (.bipush 6, 2) := by decide +kernel
theorem d_St_swung_7 : decode prog_11_method_4_code 7 = .ok (.if_icmp .lt 5, 3) := by decide +kernel
theorem d_St_swung_10 : decode prog_11_method_4_code 10 = .ok (.lconst 0, 1) := by decide +kernel
theorem d_St_swung_11 : decode prog_11_method_4_code 11 = .ok (.lreturn, 1) := by decide +kernel
theorem d_St_swung_12 : decode prog_11_method_4_code 12 = .ok (.lload_n 0, 1) := by decide +kernel
theorem d_St_swung_13 : decode prog_11_method_4_code 13 = .ok (.iconst 1, 1) := by decide +kernel
theorem d_St_swung_14 : decode prog_11_method_4_code 14 = .ok (.iload_n 2, 1) := by decide +kernel
theorem d_St_swung_15 : decode prog_11_method_4_code 15 = .ok (.ishl, 1) := by decide +kernel
theorem d_St_swung_16 : decode prog_11_method_4_code 16 = .ok (.lushr, 1) := by decide +kernel
theorem d_St_swung_17 : decode prog_11_method_4_code 17 = .ok (.lload_n 0, 1) := by decide +kernel
theorem d_St_swung_18 : decode prog_11_method_4_code 18 = .ok (.ldc2_w 15, 3) := by decide +kernel
theorem d_St_swung_21 : decode prog_11_method_4_code 21 = .ok (.lxor, 1) := by decide +kernel
theorem d_St_swung_22 : decode prog_11_method_4_code 22 = .ok (.land, 1) := by decide +kernel
theorem d_St_swung_23 : decode prog_11_method_4_code 23 = .ok (.getstatic 17, 3) := by decide +kernel
theorem d_St_swung_26 : decode prog_11_method_4_code 26 = .ok (.iload_n 2, 1) := by decide +kernel
theorem d_St_swung_27 : decode prog_11_method_4_code 27 = .ok (.laload, 1) := by decide +kernel
theorem d_St_swung_28 : decode prog_11_method_4_code 28 = .ok (.land, 1) := by decide +kernel
theorem d_St_swung_29 : decode prog_11_method_4_code 29 = .ok (.lreturn, 1) := by decide +kernel
abbrev S_St_swung : Type := Nat × Int64 × Int32 × AM
noncomputable def T_St_swung_0 (v0J : Int64) (v2I : Int32) (σ : AM) : S_St_swung ⊕ Option (Int64 × AM) :=
  if v2I < 0 then (.inl (1, 0, 0, σ)) else (if v2I < (6 : Int32) then (gdT (inB v2I 6) <| .inr (some (((((v0J.toUInt64 >>> (((1 : Int32) <<< (v2I &&& 31)).toInt64.toUInt64 &&& Int64.toUInt64 63)).toInt64) &&& (v0J ^^^ ((-1) : Int64))) &&& (tbWITHOUT v2I.toNatClampNeg)), σ))) else (.inl (1, 0, 0, σ)))
noncomputable def T_St_swung_1  (σ : AM) : S_St_swung ⊕ Option (Int64 × AM) :=
  .inr (some ((0 : Int64), σ))
noncomputable def F_St_swung : S_St_swung → S_St_swung ⊕ Option (Int64 × AM) := fun s => match s.1 with
  | 0 => T_St_swung_0 (s.2.1) (s.2.2.1) (s.2.2.2)
  | _ => T_St_swung_1  (s.2.2.2)
noncomputable def L_St_swung_0 (v0J : Int64) (v2I : Int32) (σ : AM) : Option (Int64 × AM) := lp F_St_swung (0, v0J, v2I, σ)
noncomputable def L_St_swung_1  (σ : AM) : Option (Int64 × AM) := lp F_St_swung (1, 0, 0, σ)
set_option maxRecDepth 20000 in
theorem E_St_swung_0 (v0J : Int64) (v2I : Int32) (σ : AM) : L_St_swung_0 v0J v2I σ = (if v2I < 0 then (L_St_swung_1 σ) else (if v2I < (6 : Int32) then (gd (inB v2I 6) <| (some (((((v0J.toUInt64 >>> (((1 : Int32) <<< (v2I &&& 31)).toInt64.toUInt64 &&& Int64.toUInt64 63)).toInt64) &&& (v0J ^^^ ((-1) : Int64))) &&& (tbWITHOUT v2I.toNatClampNeg)), σ))) else (L_St_swung_1 σ))) := by
  unfold L_St_swung_0
  rw [lp_eq]
  show lpK (lp F_St_swung) (T_St_swung_0 v0J v2I σ) = _
  unfold T_St_swung_0
  simp only [lpK_ite, lq_inl, lq_inr, lpK_bnd, lpK_gd, lq_let]
  try rfl
set_option maxRecDepth 20000 in
theorem E_St_swung_1  (σ : AM) : L_St_swung_1  σ = ((some ((0 : Int64), σ))) := by
  unfold L_St_swung_1
  rw [lp_eq]
  show lpK (lp F_St_swung) (T_St_swung_1  σ) = _
  unfold T_St_swung_1
  simp only [lpK_ite, lq_inl, lq_inr, lpK_bnd, lpK_gd, lq_let]
  try rfl
noncomputable def M_St_swung (v0J : Int64) (v2I : Int32) (σ : AM) : Option (Int64 × AM) := mw σ (L_St_swung_0 v0J v2I σ)
def I_St_swung (G : GX) (p : Program) (l : Launch) (e : Env) (s : State) (m : MethodId) (args : Array Value) (below : List Frame) (meth : Method) (c : Code) (z0 u0 n : Nat) : Prop :=
  (∀ (v0J : Int64) (v2I : Int32) (σ : AM), VX (QM eJ G args s below z0 u0) G p l e s m args below meth c 0 z0 u0 3 (lpn F_St_swung n (0, v0J, v2I, σ)) 0 [(0, .long v0J), (2, .int v2I)] [] σ) ∧
  (∀ (σ : AM), VX (QM eJ G args s below z0 u0) G p l e s m args below meth c 0 z0 u0 3 (lpn F_St_swung n (1, 0, 0, σ)) 10 [] [] σ)
set_option maxRecDepth 20000 in
theorem s_St_swung_0 {G : GX} {p : Program} {l : Launch} {e : Env} {s : State} {m : MethodId} {args : Array Value} {below : List Frame} {meth : Method} {c : Code} {z0 u0 n : Nat} (C : Cx G p s m args meth c prog_11_method_4_code 3 "BellPlate$Sets" ((some FieldType.long))) (IH : I_St_swung G p l e s m args below meth c z0 u0 n) (v0J : Int64) (v2I : Int32) (σ : AM) : VX (QM eJ G args s below z0 u0) G p l e s m args below meth c 0 z0 u0 3 (lpK (lpn F_St_swung n) (T_St_swung_0 v0J v2I σ)) 0 [(0, .long v0J), (2, .int v2I)] [] σ := by
  unfold T_St_swung_0
  refine x_iload_n C d_St_swung_0 1 rfl ?_
  refine x_if_lt (tgt := 10) C d_St_swung_1 (by decide) (fun _ => ?_) (fun _ => ?_)
  · refine x_lv [] rfl ?_
    exact IH.2  (σ)
  · refine x_iload_n C d_St_swung_4 1 rfl ?_
    refine x_bipush (v := (6 : Int32)) C d_St_swung_5 (by decide) ?_
    refine x_icmp_lt (tgt := 12) C d_St_swung_7 (by decide) (fun _ => ?_) (fun _ => ?_)
    · refine x_lload_n C d_St_swung_12 0 rfl ?_
      refine x_iconst (v := (1 : Int32)) C d_St_swung_13 (by decide) ?_
      refine x_iload_n C d_St_swung_14 1 rfl ?_
      refine x_ishl C d_St_swung_15 ?_
      refine x_lushr C d_St_swung_16 ?_
      refine x_lload_n C d_St_swung_17 0 rfl ?_
      refine x_ldc2 C d_St_swung_18 w1130 ?_
      refine x_lxor C d_St_swung_21 ?_
      refine x_land C d_St_swung_22 ?_
      refine x_gs1 C w1131 d_St_swung_23 ?_
      refine x_iload_n C d_St_swung_26 1 rfl ?_
      refine x_gd (fun h1 => ?_)
      refine x_sl1 C (inB_iff.mp h1) d_St_swung_27 ?_
      refine x_land C d_St_swung_28 ?_
      exact x_lret C d_St_swung_29
    · refine x_lv [] rfl ?_
      exact IH.2  (σ)
set_option maxRecDepth 20000 in
theorem s_St_swung_1 {G : GX} {p : Program} {l : Launch} {e : Env} {s : State} {m : MethodId} {args : Array Value} {below : List Frame} {meth : Method} {c : Code} {z0 u0 n : Nat} (C : Cx G p s m args meth c prog_11_method_4_code 3 "BellPlate$Sets" ((some FieldType.long))) (IH : I_St_swung G p l e s m args below meth c z0 u0 n)  (σ : AM) : VX (QM eJ G args s below z0 u0) G p l e s m args below meth c 0 z0 u0 3 (lpK (lpn F_St_swung n) (T_St_swung_1  σ)) 10 [] [] σ := by
  unfold T_St_swung_1
  refine x_lconst (v := (0 : Int64)) C d_St_swung_10 (by decide) ?_
  exact x_lret C d_St_swung_11
theorem i_St_swung {G : GX} {p : Program} {l : Launch} {e : Env} {s : State} {m : MethodId} {args : Array Value} {below : List Frame} {meth : Method} {c : Code} {z0 u0 : Nat} (C : Cx G p s m args meth c prog_11_method_4_code 3 "BellPlate$Sets" ((some FieldType.long))) (n : Nat) : I_St_swung G p l e s m args below meth c z0 u0 n := by
  induction n with
  | zero => exact ⟨fun _ _ _ => x_none, fun _ => x_none⟩
  | succ n IH => exact ⟨fun v0J v2I σ => s_St_swung_0 C IH v0J v2I σ, fun σ => s_St_swung_1 C IH σ⟩
theorem c_St_swung (G : GX) (l : Launch) (v0J : Int64) (v2I : Int32) (σ : AM) : CT eJ G l 0 y_St_swung prog_11_method_4_code 3 ((some FieldType.long)) [.long v0J, .int v2I] σ (M_St_swung v0J v2I σ) := by
  refine ct_of (by decide +kernel) (Nat.le_of_ble_eq_true rfl) (fun p e s m args below meth c C hin => ?_)
  refine x_lve (lv' := [(0, .long v0J), (2, .int v2I)]) rfl ?_
  intro r σ' h
  obtain ⟨n, hn⟩ := (lp_iff _ _ _).mp h
  exact (i_St_swung C n).1 v0J v2I σ r σ' hn
/-! BellPlate$Sets.swappable(JII)Z -/
abbrev y_St_swappable : MethodName := ⟨"BellPlate$Sets", "swappable", "(JII)Z"⟩
theorem k_St_swappable : y_St_swappable.cls ≠ "java/lang/invoke/MethodHandle" ∧ y_St_swappable.cls ≠ "java/lang/invoke/VarHandle" ∧ (parseMethodDescriptor y_St_swappable.desc).map (fun d => d.parameters.length) = some 3 := by decide +kernel
theorem d_St_swappable_0 : decode prog_11_method_5_code 0 = .ok (.iload_n 2, 1) := by decide +kernel
theorem d_St_swappable_1 : decode prog_11_method_5_code 1 = .ok (.iload_n 3, 1) := by decide +kernel
theorem d_St_swappable_2 : decode prog_11_method_5_code 2 = .ok (.invokestatic 20, 3) := by decide +kernel
theorem d_St_swappable_5 : decode prog_11_method_5_code 5 = .ok (.istore 4, 2) := by decide +kernel
theorem d_St_swappable_7 : decode prog_11_method_5_code 7 = .ok (.iload_n 2, 1) := by decide +kernel
theorem d_St_swappable_8 : decode prog_11_method_5_code 8 = .ok (.iload_n 3, 1) := by decide +kernel
theorem d_St_swappable_9 : decode prog_11_method_5_code 9 = .ok (.invokestatic 26, 3) := by decide +kernel
theorem d_St_swappable_12 : decode prog_11_method_5_code 12 = .ok (.istore 5, 2) := by decide +kernel
theorem d_St_swappable_14 : decode prog_11_method_5_code 14 = .ok (.iload 4, 2) := by decide +kernel
theorem d_St_swappable_16 : decode prog_11_method_5_code 16 = .ok (.ifCond .lt 10, 3) := by decide +kernel
theorem d_St_swappable_19 : decode prog_11_method_5_code 19 = .ok (.iload 5, 2) := by decide +kernel
theorem d_St_swappable_21 : decode prog_11_method_5_code 21 = .ok (.bipush 6, 2) := by decide +kernel
theorem d_St_swappable_23 : decode prog_11_method_5_code 23 = .ok (.if_icmp .lt 5, 3) := by decide +kernel
theorem d_St_swappable_26 : decode prog_11_method_5_code 26 = .ok (.iconst 0, 1) := by decide +kernel
theorem d_St_swappable_27 : decode prog_11_method_5_code 27 = .ok (.ireturn, 1) := by decide +kernel
theorem d_St_swappable_28 : decode prog_11_method_5_code 28 = .ok (.getstatic 17, 3) := by decide +kernel
theorem d_St_swappable_31 : decode prog_11_method_5_code 31 = .ok (.iload 4, 2) := by decide +kernel
theorem d_St_swappable_33 : decode prog_11_method_5_code 33 = .ok (.laload, 1) := by decide +kernel
theorem d_St_swappable_34 : decode prog_11_method_5_code 34 = .ok (.ldc2_w 15, 3) := by decide +kernel
theorem d_St_swappable_37 : decode prog_11_method_5_code 37 = .ok (.lxor, 1) := by decide +kernel
theorem d_St_swappable_38 : decode prog_11_method_5_code 38 = .ok (.getstatic 17, 3) := by decide +kernel
theorem d_St_swappable_41 : decode prog_11_method_5_code 41 = .ok (.iload 5, 2) := by decide +kernel
theorem d_St_swappable_43 : decode prog_11_method_5_code 43 = .ok (.laload, 1) := by decide +kernel
theorem d_St_swappable_44 : decode prog_11_method_5_code 44 = .ok (.land, 1) := by decide +kernel
theorem d_St_swappable_45 : decode prog_11_method_5_code 45 = .ok (.lstore 6, 2) := by decide +kernel
theorem d_St_swappable_47 : decode prog_11_method_5_code 47 = .ok (.iconst 1, 1) := by decide +kernel
theorem d_St_swappable_48 : decode prog_11_method_5_code 48 = .ok (.iload 5, 2) := by decide +kernel
theorem d_St_swappable_50 : decode prog_11_method_5_code 50 = .ok (.ishl, 1) := by decide +kernel
theorem d_St_swappable_51 : decode prog_11_method_5_code 51 = .ok (.iconst 1, 1) := by decide +kernel
theorem d_St_swappable_52 : decode prog_11_method_5_code 52 = .ok (.iload 4, 2) := by decide +kernel
theorem d_St_swappable_54 : decode prog_11_method_5_code 54 = .ok (.ishl, 1) := by decide +kernel
theorem d_St_swappable_55 : decode prog_11_method_5_code 55 = .ok (.isub, 1) := by decide +kernel
theorem d_St_swappable_56 : decode prog_11_method_5_code 56 = .ok (.istore 8, 2) := by decide +kernel
theorem d_St_swappable_58 : decode prog_11_method_5_code 58 = .ok (.lload_n 0, 1) := by decide +kernel
theorem d_St_swappable_59 : decode prog_11_method_5_code 59 = .ok (.lload_n 0, 1) := by decide +kernel
theorem d_St_swappable_60 : decode prog_11_method_5_code 60 = .ok (.iload 8, 2) := by decide +kernel
theorem d_St_swappable_62 : decode prog_11_method_5_code 62 = .ok (.lushr, 1) := by decide +kernel
theorem d_St_swappable_63 : decode prog_11_method_5_code 63 = .ok (.lxor, 1) := by decide +kernel
theorem d_St_swappable_64 : decode prog_11_method_5_code 64 = .ok (.lload 6, 2) := by decide +kernel
theorem d_St_swappable_66 : decode prog_11_method_5_code 66 = .ok (.land, 1) := by decide +kernel
theorem d_St_swappable_67 : decode prog_11_method_5_code 67 = .ok (.lconst 0, 1) := by decide +kernel
theorem d_St_swappable_68 : decode prog_11_method_5_code 68 = .ok (.lcmp, 1) := by decide +kernel
theorem d_St_swappable_69 : decode prog_11_method_5_code 69 = .ok (.ifCond .ne 7, 3) := by decide +kernel
theorem d_St_swappable_72 : decode prog_11_method_5_code 72 = .ok (.iconst 1, 1) := by decide +kernel
theorem d_St_swappable_73 : decode prog_11_method_5_code 73 = .ok (.goto 4, 3) := by decide +kernel
theorem d_St_swappable_76 : decode prog_11_method_5_code 76 = .ok (.iconst 0, 1) := by decide +kernel
theorem d_St_swappable_77 : decode prog_11_method_5_code 77 = .ok (.ireturn, 1) := by decide +kernel
abbrev S_St_swappable : Type := Nat × Int64 × Int32 × Int32 × Int32 × AM
noncomputable def T_St_swappable_0 (v0J : Int64) (v2I : Int32) (v3I : Int32) (σ : AM) : S_St_swappable ⊕ Option (Int32 × AM) :=
  letT (mnI v2I v3I) fun x1 => letT (mxI v2I v3I) fun x2 => if x1 < 0 then (.inl (1, 0, 0, 0, 0, σ)) else (if x2 < (6 : Int32) then (gdT (inB x1 6) <| gdT (inB x2 6) <| letT (((tbWITHOUT x1.toNatClampNeg) ^^^ ((-1) : Int64)) &&& (tbWITHOUT x2.toNatClampNeg)) fun x5 => letT (((1 : Int32) <<< (x2 &&& 31)) - ((1 : Int32) <<< (x1 &&& 31))) fun x6 => if (lg_cmp ((v0J ^^^ ((v0J.toUInt64 >>> (x6.toInt64.toUInt64 &&& Int64.toUInt64 63)).toInt64)) &&& x5) (0 : Int64)) = 0 then (.inl (2, 0, 0, 0, (1 : Int32), σ)) else (.inl (2, 0, 0, 0, (0 : Int32), σ))) else (.inl (1, 0, 0, 0, 0, σ)))
noncomputable def T_St_swappable_1  (σ : AM) : S_St_swappable ⊕ Option (Int32 × AM) :=
  .inr (some ((0 : Int32), σ))
noncomputable def T_St_swappable_2 (s0I : Int32) (σ : AM) : S_St_swappable ⊕ Option (Int32 × AM) :=
  gdT (isB s0I) <| .inr (some (s0I, σ))
noncomputable def F_St_swappable : S_St_swappable → S_St_swappable ⊕ Option (Int32 × AM) := fun s => match s.1 with
  | 0 => T_St_swappable_0 (s.2.1) (s.2.2.1) (s.2.2.2.1) (s.2.2.2.2.2)
  | 1 => T_St_swappable_1  (s.2.2.2.2.2)
  | _ => T_St_swappable_2 (s.2.2.2.2.1) (s.2.2.2.2.2)
noncomputable def L_St_swappable_0 (v0J : Int64) (v2I : Int32) (v3I : Int32) (σ : AM) : Option (Int32 × AM) := lp F_St_swappable (0, v0J, v2I, v3I, 0, σ)
noncomputable def L_St_swappable_1  (σ : AM) : Option (Int32 × AM) := lp F_St_swappable (1, 0, 0, 0, 0, σ)
noncomputable def L_St_swappable_2 (s0I : Int32) (σ : AM) : Option (Int32 × AM) := lp F_St_swappable (2, 0, 0, 0, s0I, σ)
set_option maxRecDepth 20000 in
theorem E_St_swappable_0 (v0J : Int64) (v2I : Int32) (v3I : Int32) (σ : AM) : L_St_swappable_0 v0J v2I v3I σ = (letT (mnI v2I v3I) fun x1 => letT (mxI v2I v3I) fun x2 => if x1 < 0 then (L_St_swappable_1 σ) else (if x2 < (6 : Int32) then (gd (inB x1 6) <| gd (inB x2 6) <| letT (((tbWITHOUT x1.toNatClampNeg) ^^^ ((-1) : Int64)) &&& (tbWITHOUT x2.toNatClampNeg)) fun x5 => letT (((1 : Int32) <<< (x2 &&& 31)) - ((1 : Int32) <<< (x1 &&& 31))) fun x6 => if (lg_cmp ((v0J ^^^ ((v0J.toUInt64 >>> (x6.toInt64.toUInt64 &&& Int64.toUInt64 63)).toInt64)) &&& x5) (0 : Int64)) = 0 then (L_St_swappable_2 ((1 : Int32)) σ) else (L_St_swappable_2 ((0 : Int32)) σ)) else (L_St_swappable_1 σ))) := by
  unfold L_St_swappable_0
  rw [lp_eq]
  show lpK (lp F_St_swappable) (T_St_swappable_0 v0J v2I v3I σ) = _
  unfold T_St_swappable_0
  simp only [lpK_ite, lq_inl, lq_inr, lpK_bnd, lpK_gd, lq_let]
  try rfl
set_option maxRecDepth 20000 in
theorem E_St_swappable_1  (σ : AM) : L_St_swappable_1  σ = ((some ((0 : Int32), σ))) := by
  unfold L_St_swappable_1
  rw [lp_eq]
  show lpK (lp F_St_swappable) (T_St_swappable_1  σ) = _
  unfold T_St_swappable_1
  simp only [lpK_ite, lq_inl, lq_inr, lpK_bnd, lpK_gd, lq_let]
  try rfl
set_option maxRecDepth 20000 in
theorem E_St_swappable_2 (s0I : Int32) (σ : AM) : L_St_swappable_2 s0I σ = (gd (isB s0I) <| (some (s0I, σ))) := by
  unfold L_St_swappable_2
  rw [lp_eq]
  show lpK (lp F_St_swappable) (T_St_swappable_2 s0I σ) = _
  unfold T_St_swappable_2
  simp only [lpK_ite, lq_inl, lq_inr, lpK_bnd, lpK_gd, lq_let]
  try rfl
noncomputable def M_St_swappable (v0J : Int64) (v2I : Int32) (v3I : Int32) (σ : AM) : Option (Int32 × AM) := mw σ (L_St_swappable_0 v0J v2I v3I σ)
def I_St_swappable (G : GX) (p : Program) (l : Launch) (e : Env) (s : State) (m : MethodId) (args : Array Value) (below : List Frame) (meth : Method) (c : Code) (z0 u0 n : Nat) : Prop :=
  (∀ (v0J : Int64) (v2I : Int32) (v3I : Int32) (σ : AM), VX (QM eI G args s below z0 u0) G p l e s m args below meth c 1 z0 u0 9 (lpn F_St_swappable n (0, v0J, v2I, v3I, 0, σ)) 0 [(0, .long v0J), (2, .int v2I), (3, .int v3I)] [] σ) ∧
  (∀ (σ : AM), VX (QM eI G args s below z0 u0) G p l e s m args below meth c 1 z0 u0 9 (lpn F_St_swappable n (1, 0, 0, 0, 0, σ)) 26 [] [] σ) ∧
  (∀ (s0I : Int32) (σ : AM), VX (QM eI G args s below z0 u0) G p l e s m args below meth c 1 z0 u0 9 (lpn F_St_swappable n (2, 0, 0, 0, s0I, σ)) 77 [] [.int s0I] σ)
set_option maxRecDepth 20000 in
theorem s_St_swappable_0 {G : GX} {p : Program} {l : Launch} {e : Env} {s : State} {m : MethodId} {args : Array Value} {below : List Frame} {meth : Method} {c : Code} {z0 u0 n : Nat} (C : Cx G p s m args meth c prog_11_method_5_code 9 "BellPlate$Sets" ((some FieldType.boolean))) (IH : I_St_swappable G p l e s m args below meth c z0 u0 n) (v0J : Int64) (v2I : Int32) (v3I : Int32) (σ : AM) : VX (QM eI G args s below z0 u0) G p l e s m args below meth c 1 z0 u0 9 (lpK (lpn F_St_swappable n) (T_St_swappable_0 v0J v2I v3I σ)) 0 [(0, .long v0J), (2, .int v2I), (3, .int v3I)] [] σ := by
  unfold T_St_swappable_0
  refine x_iload_n C d_St_swappable_0 1 rfl ?_
  refine x_iload_n C d_St_swappable_1 2 rfl ?_
  refine x_mmin C w1136 (by decide) (Nat.le_of_ble_eq_true rfl) d_St_swappable_2 ?_
  refine x_letI (fun x1 _ => ?_)
  refine x_istore (lv' := [(4, .int x1), (0, .long v0J), (2, .int v2I), (3, .int v3I)]) C d_St_swappable_5 (by decide) rfl ?_
  refine x_iload_n C d_St_swappable_7 2 rfl ?_
  refine x_iload_n C d_St_swappable_8 3 rfl ?_
  refine x_mmax C w1137 (by decide) (Nat.le_of_ble_eq_true rfl) d_St_swappable_9 ?_
  refine x_letI (fun x2 _ => ?_)
  refine x_istore (lv' := [(5, .int x2), (4, .int x1), (0, .long v0J), (2, .int v2I), (3, .int v3I)]) C d_St_swappable_12 (by decide) rfl ?_
  refine x_iload C d_St_swappable_14 1 rfl ?_
  refine x_if_lt (tgt := 26) C d_St_swappable_16 (by decide) (fun _ => ?_) (fun _ => ?_)
  · refine x_lv [] rfl ?_
    exact IH.2.1  (σ)
  · refine x_iload C d_St_swappable_19 0 rfl ?_
    refine x_bipush (v := (6 : Int32)) C d_St_swappable_21 (by decide) ?_
    refine x_icmp_lt (tgt := 28) C d_St_swappable_23 (by decide) (fun _ => ?_) (fun _ => ?_)
    · refine x_gs1 C w1131 d_St_swappable_28 ?_
      refine x_iload C d_St_swappable_31 1 rfl ?_
      refine x_gd (fun h3 => ?_)
      refine x_sl1 C (inB_iff.mp h3) d_St_swappable_33 ?_
      refine x_ldc2 C d_St_swappable_34 w1130 ?_
      refine x_lxor C d_St_swappable_37 ?_
      refine x_gs1 C w1131 d_St_swappable_38 ?_
      refine x_iload C d_St_swappable_41 0 rfl ?_
      refine x_gd (fun h4 => ?_)
      refine x_sl1 C (inB_iff.mp h4) d_St_swappable_43 ?_
      refine x_land C d_St_swappable_44 ?_
      refine x_letJ (fun x5 _ => ?_)
      refine x_lstore (lv' := [(6, .long x5), (5, .int x2), (4, .int x1), (0, .long v0J), (2, .int v2I), (3, .int v3I)]) C d_St_swappable_45 (by decide) rfl ?_
      refine x_iconst (v := (1 : Int32)) C d_St_swappable_47 (by decide) ?_
      refine x_iload C d_St_swappable_48 1 rfl ?_
      refine x_ishl C d_St_swappable_50 ?_
      refine x_iconst (v := (1 : Int32)) C d_St_swappable_51 (by decide) ?_
      refine x_iload C d_St_swappable_52 2 rfl ?_
      refine x_ishl C d_St_swappable_54 ?_
      refine x_isub C d_St_swappable_55 ?_
      refine x_letI (fun x6 _ => ?_)
      refine x_istore (lv' := [(8, .int x6), (6, .long x5), (5, .int x2), (4, .int x1), (0, .long v0J), (2, .int v2I), (3, .int v3I)]) C d_St_swappable_56 (by decide) rfl ?_
      refine x_lload_n C d_St_swappable_58 4 rfl ?_
      refine x_lload_n C d_St_swappable_59 4 rfl ?_
      refine x_iload C d_St_swappable_60 0 rfl ?_
      refine x_lushr C d_St_swappable_62 ?_
      refine x_lxor C d_St_swappable_63 ?_
      refine x_lload C d_St_swappable_64 1 rfl ?_
      refine x_land C d_St_swappable_66 ?_
      refine x_lconst (v := (0 : Int64)) C d_St_swappable_67 (by decide) ?_
      refine x_lcmp C d_St_swappable_68 ?_
      refine x_if_ne (tgt := 76) C d_St_swappable_69 (by decide) (fun _ => ?_) (fun _ => ?_)
      · refine x_iconst (v := (1 : Int32)) C d_St_swappable_72 (by decide) ?_
        refine x_goto (tgt := 77) C d_St_swappable_73 (by decide) ?_
        refine x_lv [] rfl ?_
        exact IH.2.2 ((1 : Int32)) (σ)
      · refine x_iconst (v := (0 : Int32)) C d_St_swappable_76 (by decide) ?_
        refine x_lv [] rfl ?_
        exact IH.2.2 ((0 : Int32)) (σ)
    · refine x_lv [] rfl ?_
      exact IH.2.1  (σ)
set_option maxRecDepth 20000 in
theorem s_St_swappable_1 {G : GX} {p : Program} {l : Launch} {e : Env} {s : State} {m : MethodId} {args : Array Value} {below : List Frame} {meth : Method} {c : Code} {z0 u0 n : Nat} (C : Cx G p s m args meth c prog_11_method_5_code 9 "BellPlate$Sets" ((some FieldType.boolean))) (IH : I_St_swappable G p l e s m args below meth c z0 u0 n)  (σ : AM) : VX (QM eI G args s below z0 u0) G p l e s m args below meth c 1 z0 u0 9 (lpK (lpn F_St_swappable n) (T_St_swappable_1  σ)) 26 [] [] σ := by
  unfold T_St_swappable_1
  refine x_iconst (v := (0 : Int32)) C d_St_swappable_26 (by decide) ?_
  exact x_zret C (by decide) d_St_swappable_27
set_option maxRecDepth 20000 in
theorem s_St_swappable_2 {G : GX} {p : Program} {l : Launch} {e : Env} {s : State} {m : MethodId} {args : Array Value} {below : List Frame} {meth : Method} {c : Code} {z0 u0 n : Nat} (C : Cx G p s m args meth c prog_11_method_5_code 9 "BellPlate$Sets" ((some FieldType.boolean))) (IH : I_St_swappable G p l e s m args below meth c z0 u0 n) (s0I : Int32) (σ : AM) : VX (QM eI G args s below z0 u0) G p l e s m args below meth c 1 z0 u0 9 (lpK (lpn F_St_swappable n) (T_St_swappable_2 s0I σ)) 77 [] [.int s0I] σ := by
  unfold T_St_swappable_2
  refine x_gd (fun h1 => ?_)
  exact x_zret C (isB_narrow h1) d_St_swappable_77
theorem i_St_swappable {G : GX} {p : Program} {l : Launch} {e : Env} {s : State} {m : MethodId} {args : Array Value} {below : List Frame} {meth : Method} {c : Code} {z0 u0 : Nat} (C : Cx G p s m args meth c prog_11_method_5_code 9 "BellPlate$Sets" ((some FieldType.boolean))) (n : Nat) : I_St_swappable G p l e s m args below meth c z0 u0 n := by
  induction n with
  | zero => exact ⟨fun _ _ _ _ => x_none, fun _ => x_none, fun _ _ => x_none⟩
  | succ n IH => exact ⟨fun v0J v2I v3I σ => s_St_swappable_0 C IH v0J v2I v3I σ, fun σ => s_St_swappable_1 C IH σ, fun s0I σ => s_St_swappable_2 C IH s0I σ⟩
theorem c_St_swappable (G : GX) (l : Launch) (v0J : Int64) (v2I : Int32) (v3I : Int32) (σ : AM) : CT eI G l 1 y_St_swappable prog_11_method_5_code 9 ((some FieldType.boolean)) [.long v0J, .int v2I, .int v3I] σ (M_St_swappable v0J v2I v3I σ) := by
  refine ct_of (by decide +kernel) (Nat.le_of_ble_eq_true rfl) (fun p e s m args below meth c C hin => ?_)
  refine x_lve (lv' := [(0, .long v0J), (2, .int v2I), (3, .int v3I)]) rfl ?_
  intro r σ' h
  obtain ⟨n, hn⟩ := (lp_iff _ _ _).mp h
  exact (i_St_swappable C n).1 v0J v2I v3I σ r σ' hn
/-! BellPlate$Sets.ith(JI)I -/
abbrev y_St_ith : MethodName := ⟨"BellPlate$Sets", "ith", "(JI)I"⟩
theorem k_St_ith : y_St_ith.cls ≠ "java/lang/invoke/MethodHandle" ∧ y_St_ith.cls ≠ "java/lang/invoke/VarHandle" ∧ (parseMethodDescriptor y_St_ith.desc).map (fun d => d.parameters.length) = some 2 := by decide +kernel
theorem d_St_ith_0 : decode prog_11_method_8_code 0 = .ok (.iconst 0, 1) := by decide +kernel
theorem d_St_ith_1 : decode prog_11_method_8_code 1 = .ok (.istore_n 3, 1) := by decide +kernel
theorem d_St_ith_2 : decode prog_11_method_8_code 2 = .ok (.iconst 0, 1) := by decide +kernel
theorem d_St_ith_3 : decode prog_11_method_8_code 3 = .ok (.istore 4, 2) := by decide +kernel
theorem d_St_ith_5 : decode prog_11_method_8_code 5 = .ok (.iload 4, 2) := by decide +kernel
theorem d_St_ith_7 : decode prog_11_method_8_code 7 = .ok (.bipush 64, 2) := by decide +kernel
theorem d_St_ith_9 : decode prog_11_method_8_code 9 = .ok (.if_icmp .ge 29, 3) := by decide +kernel
theorem d_St_ith_12 : decode prog_11_method_8_code 12 = .ok (.lload_n 0, 1) := by decide +kernel
theorem d_St_ith_13 : decode prog_11_method_8_code 13 = .ok (.iload 4, 2) := by decide +kernel
theorem d_St_ith_15 : decode prog_11_method_8_code 15 = .ok (.invokestatic 29, 3) := by decide +kernel
theorem d_St_ith_18 : decode prog_11_method_8_code 18 = .ok (.ifCond .eq 14, 3) := by decide +kernel
theorem d_St_ith_21 : decode prog_11_method_8_code 21 = .ok (.iload_n 3, 1) := by decide +kernel
theorem d_St_ith_22 : decode prog_11_method_8_code 22 = .ok (.iload_n 2, 1) := by decide +kernel
theorem d_St_ith_23 : decode prog_11_method_8_code 23 = .ok (.if_icmp .ne 6, 3) := by decide +kernel
theorem d_St_ith_26 : decode prog_11_method_8_code 26 = .ok (.iload 4, 2) := by decide +kernel
theorem d_St_ith_28 : decode prog_11_method_8_code 28 = .ok (.ireturn, 1) := by decide +kernel
theorem d_St_ith_29 : decode prog_11_method_8_code 29 = .ok (.iinc 3 1, 3) := by decide +kernel
theorem d_St_ith_32 : decode prog_11_method_8_code 32 = .ok (.iinc 4 1, 3) := by decide +kernel
theorem d_St_ith_35 : decode prog_11_method_8_code 35 = .ok (.goto (-30), 3) := by decide +kernel
theorem d_St_ith_38 : decode prog_11_method_8_code 38 = .ok (.iconst (-1), 1) := by decide +kernel
theorem d_St_ith_39 : decode prog_11_method_8_code 39 = .ok (.ireturn, 1) := by decide +kernel
abbrev S_St_ith : Type := Nat × Int64 × Int32 × Int32 × Int32 × AM
noncomputable def T_St_ith_0 (v0J : Int64) (v2I : Int32) (σ : AM) : S_St_ith ⊕ Option (Int32 × AM) :=
  .inl (1, v0J, v2I, (0 : Int32), (0 : Int32), σ)
noncomputable def T_St_ith_1 (v0J : Int64) (v2I : Int32) (v3I : Int32) (v4I : Int32) (σ : AM) : S_St_ith ⊕ Option (Int32 × AM) :=
  if v4I < (64 : Int32) then (bndT (M_St_has v0J v4I σ) fun r1 σ2 => if r1 = 0 then (.inl (2, v0J, v2I, v3I, v4I, σ2)) else (if v3I = v2I then (.inr (some (v4I, σ2))) else (.inl (2, v0J, v2I, v3I + (1 : Int32), v4I, σ2)))) else (.inr (some (((-1) : Int32), σ)))
noncomputable def T_St_ith_2 (v0J : Int64) (v2I : Int32) (v3I : Int32) (v4I : Int32) (σ : AM) : S_St_ith ⊕ Option (Int32 × AM) :=
  .inl (1, v0J, v2I, v3I, v4I + (1 : Int32), σ)
noncomputable def F_St_ith : S_St_ith → S_St_ith ⊕ Option (Int32 × AM) := fun s => match s.1 with
  | 0 => T_St_ith_0 (s.2.1) (s.2.2.1) (s.2.2.2.2.2)
  | 1 => T_St_ith_1 (s.2.1) (s.2.2.1) (s.2.2.2.1) (s.2.2.2.2.1) (s.2.2.2.2.2)
  | _ => T_St_ith_2 (s.2.1) (s.2.2.1) (s.2.2.2.1) (s.2.2.2.2.1) (s.2.2.2.2.2)
noncomputable def L_St_ith_0 (v0J : Int64) (v2I : Int32) (σ : AM) : Option (Int32 × AM) := lp F_St_ith (0, v0J, v2I, 0, 0, σ)
noncomputable def L_St_ith_1 (v0J : Int64) (v2I : Int32) (v3I : Int32) (v4I : Int32) (σ : AM) : Option (Int32 × AM) := lp F_St_ith (1, v0J, v2I, v3I, v4I, σ)
noncomputable def L_St_ith_2 (v0J : Int64) (v2I : Int32) (v3I : Int32) (v4I : Int32) (σ : AM) : Option (Int32 × AM) := lp F_St_ith (2, v0J, v2I, v3I, v4I, σ)
set_option maxRecDepth 20000 in
theorem E_St_ith_0 (v0J : Int64) (v2I : Int32) (σ : AM) : L_St_ith_0 v0J v2I σ = (L_St_ith_1 v0J v2I ((0 : Int32)) ((0 : Int32)) σ) := by
  unfold L_St_ith_0
  rw [lp_eq]
  show lpK (lp F_St_ith) (T_St_ith_0 v0J v2I σ) = _
  unfold T_St_ith_0
  simp only [lpK_ite, lq_inl, lq_inr, lpK_bnd, lpK_gd, lq_let]
  try rfl
set_option maxRecDepth 20000 in
theorem E_St_ith_1 (v0J : Int64) (v2I : Int32) (v3I : Int32) (v4I : Int32) (σ : AM) : L_St_ith_1 v0J v2I v3I v4I σ = (if v4I < (64 : Int32) then (bnd (M_St_has v0J v4I σ) fun r1 σ2 => if r1 = 0 then (L_St_ith_2 v0J v2I v3I v4I σ2) else (if v3I = v2I then ((some (v4I, σ2))) else (L_St_ith_2 v0J v2I (v3I + (1 : Int32)) v4I σ2))) else ((some (((-1) : Int32), σ)))) := by
  unfold L_St_ith_1
  rw [lp_eq]
  show lpK (lp F_St_ith) (T_St_ith_1 v0J v2I v3I v4I σ) = _
  unfold T_St_ith_1
  simp only [lpK_ite, lq_inl, lq_inr, lpK_bnd, lpK_gd, lq_let]
  try rfl
set_option maxRecDepth 20000 in
theorem E_St_ith_2 (v0J : Int64) (v2I : Int32) (v3I : Int32) (v4I : Int32) (σ : AM) : L_St_ith_2 v0J v2I v3I v4I σ = (L_St_ith_1 v0J v2I v3I (v4I + (1 : Int32)) σ) := by
  unfold L_St_ith_2
  rw [lp_eq]
  show lpK (lp F_St_ith) (T_St_ith_2 v0J v2I v3I v4I σ) = _
  unfold T_St_ith_2
  simp only [lpK_ite, lq_inl, lq_inr, lpK_bnd, lpK_gd, lq_let]
  try rfl
noncomputable def M_St_ith (v0J : Int64) (v2I : Int32) (σ : AM) : Option (Int32 × AM) := mw σ (L_St_ith_0 v0J v2I σ)
def I_St_ith (G : GX) (p : Program) (l : Launch) (e : Env) (s : State) (m : MethodId) (args : Array Value) (below : List Frame) (meth : Method) (c : Code) (z0 u0 n : Nat) : Prop :=
  (∀ (v0J : Int64) (v2I : Int32) (σ : AM), VX (QM eI G args s below z0 u0) G p l e s m args below meth c 1 z0 u0 5 (lpn F_St_ith n (0, v0J, v2I, 0, 0, σ)) 0 [(0, .long v0J), (2, .int v2I)] [] σ) ∧
  (∀ (v0J : Int64) (v2I : Int32) (v3I : Int32) (v4I : Int32) (σ : AM), VX (QM eI G args s below z0 u0) G p l e s m args below meth c 1 z0 u0 5 (lpn F_St_ith n (1, v0J, v2I, v3I, v4I, σ)) 5 [(0, .long v0J), (2, .int v2I), (3, .int v3I), (4, .int v4I)] [] σ) ∧
  (∀ (v0J : Int64) (v2I : Int32) (v3I : Int32) (v4I : Int32) (σ : AM), VX (QM eI G args s below z0 u0) G p l e s m args below meth c 1 z0 u0 5 (lpn F_St_ith n (2, v0J, v2I, v3I, v4I, σ)) 32 [(0, .long v0J), (2, .int v2I), (3, .int v3I), (4, .int v4I)] [] σ)
set_option maxRecDepth 20000 in
theorem s_St_ith_0 {G : GX} {p : Program} {l : Launch} {e : Env} {s : State} {m : MethodId} {args : Array Value} {below : List Frame} {meth : Method} {c : Code} {z0 u0 n : Nat} (C : Cx G p s m args meth c prog_11_method_8_code 5 "BellPlate$Sets" ((some FieldType.int))) (IH : I_St_ith G p l e s m args below meth c z0 u0 n) (v0J : Int64) (v2I : Int32) (σ : AM) : VX (QM eI G args s below z0 u0) G p l e s m args below meth c 1 z0 u0 5 (lpK (lpn F_St_ith n) (T_St_ith_0 v0J v2I σ)) 0 [(0, .long v0J), (2, .int v2I)] [] σ := by
  unfold T_St_ith_0
  refine x_iconst (v := (0 : Int32)) C d_St_ith_0 (by decide) ?_
  refine x_istore_n (lv' := [(3, .int (0 : Int32)), (0, .long v0J), (2, .int v2I)]) C d_St_ith_1 (by decide) rfl rfl ?_
  refine x_iconst (v := (0 : Int32)) C d_St_ith_2 (by decide) ?_
  refine x_istore (lv' := [(4, .int (0 : Int32)), (3, .int (0 : Int32)), (0, .long v0J), (2, .int v2I)]) C d_St_ith_3 (by decide) rfl ?_
  refine x_lv [2, 3, 1, 0] rfl ?_
  exact IH.2.1 v0J v2I ((0 : Int32)) ((0 : Int32)) (σ)
set_option maxRecDepth 20000 in
theorem s_St_ith_1 {G : GX} {p : Program} {l : Launch} {e : Env} {s : State} {m : MethodId} {args : Array Value} {below : List Frame} {meth : Method} {c : Code} {z0 u0 n : Nat} (C : Cx G p s m args meth c prog_11_method_8_code 5 "BellPlate$Sets" ((some FieldType.int))) (IH : I_St_ith G p l e s m args below meth c z0 u0 n) (v0J : Int64) (v2I : Int32) (v3I : Int32) (v4I : Int32) (σ : AM) : VX (QM eI G args s below z0 u0) G p l e s m args below meth c 1 z0 u0 5 (lpK (lpn F_St_ith n) (T_St_ith_1 v0J v2I v3I v4I σ)) 5 [(0, .long v0J), (2, .int v2I), (3, .int v3I), (4, .int v4I)] [] σ := by
  unfold T_St_ith_1
  refine x_iload C d_St_ith_5 3 rfl ?_
  refine x_bipush (v := (64 : Int32)) C d_St_ith_7 (by decide) ?_
  refine x_icmp_ge (tgt := 38) C d_St_ith_9 (by decide) (fun _ => ?_) (fun _ => ?_)
  · refine x_lload_n C d_St_ith_12 0 rfl ?_
    refine x_iload C d_St_ith_13 3 rfl ?_
    refine x_callSI (As := [.long v0J, .int v4I]) C (c_St_has G l v0J v4I σ) w1101 w1332 w1102 w141 k_St_has rfl (by decide) (by decide) rfl (Nat.le_of_ble_eq_true rfl) d_St_ith_15 (fun r1 σ2 => ?_)
    refine x_if_eq (tgt := 32) C d_St_ith_18 (by decide) (fun _ => ?_) (fun _ => ?_)
    · exact IH.2.2 v0J v2I v3I v4I (σ2)
    · refine x_iload_n C d_St_ith_21 2 rfl ?_
      refine x_iload_n C d_St_ith_22 1 rfl ?_
      refine x_icmp_ne (tgt := 29) C d_St_ith_23 (by decide) (fun _ => ?_) (fun _ => ?_)
      · refine x_iload C d_St_ith_26 3 rfl ?_
        exact x_iret C d_St_ith_28
      · refine x_iinc (v := v3I + (1 : Int32)) (lv' := [(3, .int (v3I + (1 : Int32))), (0, .long v0J), (2, .int v2I), (4, .int v4I)]) C d_St_ith_29 2 rfl rfl (by decide) rfl ?_
        refine x_lv [1, 2, 0, 3] rfl ?_
        exact IH.2.2 v0J v2I (v3I + (1 : Int32)) v4I (σ2)
  · refine x_iconst (v := ((-1) : Int32)) C d_St_ith_38 (by decide) ?_
    exact x_iret C d_St_ith_39
set_option maxRecDepth 20000 in
theorem s_St_ith_2 {G : GX} {p : Program} {l : Launch} {e : Env} {s : State} {m : MethodId} {args : Array Value} {below : List Frame} {meth : Method} {c : Code} {z0 u0 n : Nat} (C : Cx G p s m args meth c prog_11_method_8_code 5 "BellPlate$Sets" ((some FieldType.int))) (IH : I_St_ith G p l e s m args below meth c z0 u0 n) (v0J : Int64) (v2I : Int32) (v3I : Int32) (v4I : Int32) (σ : AM) : VX (QM eI G args s below z0 u0) G p l e s m args below meth c 1 z0 u0 5 (lpK (lpn F_St_ith n) (T_St_ith_2 v0J v2I v3I v4I σ)) 32 [(0, .long v0J), (2, .int v2I), (3, .int v3I), (4, .int v4I)] [] σ := by
  unfold T_St_ith_2
  refine x_iinc (v := v4I + (1 : Int32)) (lv' := [(4, .int (v4I + (1 : Int32))), (0, .long v0J), (2, .int v2I), (3, .int v3I)]) C d_St_ith_32 3 rfl rfl (by decide) rfl ?_
  refine x_goto (tgt := 5) C d_St_ith_35 (by decide) ?_
  refine x_lv [1, 2, 3, 0] rfl ?_
  exact IH.2.1 v0J v2I v3I (v4I + (1 : Int32)) (σ)
theorem i_St_ith {G : GX} {p : Program} {l : Launch} {e : Env} {s : State} {m : MethodId} {args : Array Value} {below : List Frame} {meth : Method} {c : Code} {z0 u0 : Nat} (C : Cx G p s m args meth c prog_11_method_8_code 5 "BellPlate$Sets" ((some FieldType.int))) (n : Nat) : I_St_ith G p l e s m args below meth c z0 u0 n := by
  induction n with
  | zero => exact ⟨fun _ _ _ => x_none, fun _ _ _ _ _ => x_none, fun _ _ _ _ _ => x_none⟩
  | succ n IH => exact ⟨fun v0J v2I σ => s_St_ith_0 C IH v0J v2I σ, fun v0J v2I v3I v4I σ => s_St_ith_1 C IH v0J v2I v3I v4I σ, fun v0J v2I v3I v4I σ => s_St_ith_2 C IH v0J v2I v3I v4I σ⟩
theorem c_St_ith (G : GX) (l : Launch) (v0J : Int64) (v2I : Int32) (σ : AM) : CT eI G l 1 y_St_ith prog_11_method_8_code 5 ((some FieldType.int)) [.long v0J, .int v2I] σ (M_St_ith v0J v2I σ) := by
  refine ct_of (by decide +kernel) (Nat.le_of_ble_eq_true rfl) (fun p e s m args below meth c C hin => ?_)
  refine x_lve (lv' := [(0, .long v0J), (2, .int v2I)]) rfl ?_
  intro r σ' h
  obtain ⟨n, hn⟩ := (lp_iff _ _ _).mp h
  exact (i_St_ith C n).1 v0J v2I σ r σ' hn
/-! BellPlate$Sets.lowest(III)I -/
abbrev y_St_lowest : MethodName := ⟨"BellPlate$Sets", "lowest", "(III)I"⟩
theorem k_St_lowest : y_St_lowest.cls ≠ "java/lang/invoke/MethodHandle" ∧ y_St_lowest.cls ≠ "java/lang/invoke/VarHandle" ∧ (parseMethodDescriptor y_St_lowest.desc).map (fun d => d.parameters.length) = some 3 := by decide +kernel
theorem d_St_lowest_0 : decode prog_11_method_12_code 0 = .ok (.iload_n 0, 1) := by decide +kernel
theorem d_St_lowest_1 : decode prog_11_method_12_code 1 = .ok (.istore_n 3, 1) := by decide +kernel
theorem d_St_lowest_2 : decode prog_11_method_12_code 2 = .ok (.iload_n 1, 1) := by decide +kernel
theorem d_St_lowest_3 : decode prog_11_method_12_code 3 = .ok (.istore 4, 2) := by decide +kernel
theorem d_St_lowest_5 : decode prog_11_method_12_code 5 = .ok (.iconst 0, 1) := by decide +kernel
theorem d_St_lowest_6 : decode prog_11_method_12_code 6 = .ok (.istore 5, 2) := by decide +kernel
theorem d_St_lowest_8 : decode prog_11_method_12_code 8 = .ok (.iload 5, 2) := by decide +kernel
theorem d_St_lowest_10 : decode prog_11_method_12_code 10 = .ok (.bipush 64, 2) := by decide +kernel
theorem d_St_lowest_12 : decode prog_11_method_12_code 12 = .ok (.if_icmp .ge 27, 3) := by decide +kernel
theorem d_St_lowest_15 : decode prog_11_method_12_code 15 = .ok (.iload 4, 2) := by decide +kernel
theorem d_St_lowest_17 : decode prog_11_method_12_code 17 = .ok (.ifCond .eq 22, 3) := by decide +kernel
theorem d_St_lowest_20 : decode prog_11_method_12_code 20 = .ok (.iload_n 3, 1) := by decide +kernel
theorem d_St_lowest_21 : decode prog_11_method_12_code 21 = .ok (.iload 4, 2) := by decide +kernel
theorem d_St_lowest_23 : decode prog_11_method_12_code 23 = .ok (.irem, 1) := by decide +kernel
theorem d_St_lowest_24 : decode prog_11_method_12_code 24 = .ok (.istore 6, 2) := by decide +kernel
theorem d_St_lowest_26 : decode prog_11_method_12_code 26 = .ok (.iload 4, 2) := by decide +kernel
theorem d_St_lowest_28 : decode prog_11_method_12_code 28 = .ok (.istore_n 3, 1) := by decide +kernel
theorem d_St_lowest_29 : decode prog_11_method_12_code 29 = .ok (.iload 6, 2) := by decide +kernel
theorem d_St_lowest_31 : decode prog_11_method_12_code 31 = .ok (.istore 4, 2) := by decide +kernel
theorem d_St_lowest_33 : decode prog_11_method_12_code 33 = .ok (.iinc 5 1, 3) := by decide +kernel
theorem d_St_lowest_36 : decode prog_11_method_12_code 36 = .ok (.goto (-28), 3) := by decide +kernel
theorem d_St_lowest_39 : decode prog_11_method_12_code 39 = .ok (.iload_n 3, 1) := by decide +kernel
theorem d_St_lowest_40 : decode prog_11_method_12_code 40 = .ok (.ifCond .ne 5, 3) := by decide +kernel
theorem d_St_lowest_43 : decode prog_11_method_12_code 43 = .ok (.iconst (-1), 1) := by decide +kernel
theorem d_St_lowest_44 : decode prog_11_method_12_code 44 = .ok (.ireturn, 1) := by decide +kernel
theorem d_St_lowest_45 : decode prog_11_method_12_code 45 = .ok (.iload_n 2, 1) := by decide +kernel
theorem d_St_lowest_46 : decode prog_11_method_12_code 46 = .ok (.ifCond .ne 7, 3) := by decide +kernel
theorem d_St_lowest_49 : decode prog_11_method_12_code 49 = .ok (.iload_n 0, 1) := by decide +kernel
theorem d_St_lowest_50 : decode prog_11_method_12_code 50 = .ok (.goto 4, 3) := by decide +kernel
theorem d_St_lowest_53 : decode prog_11_method_12_code 53 = .ok (.iload_n 1, 1) := by decide +kernel
theorem d_St_lowest_54 : decode prog_11_method_12_code 54 = .ok (.iload_n 3, 1) := by decide +kernel
theorem d_St_lowest_55 : decode prog_11_method_12_code 55 = .ok (.idiv, 1) := by decide +kernel
theorem d_St_lowest_56 : decode prog_11_method_12_code 56 = .ok (.ireturn, 1) := by decide +kernel
abbrev S_St_lowest : Type := Nat × Int32 × Int32 × Int32 × Int32 × Int32 × Int32 × Int32 × AM
noncomputable def T_St_lowest_0 (v0I : Int32) (v1I : Int32) (v2I : Int32) (σ : AM) : S_St_lowest ⊕ Option (Int32 × AM) :=
  .inl (1, v0I, v1I, v2I, v0I, v1I, (0 : Int32), 0, σ)
noncomputable def T_St_lowest_1 (v0I : Int32) (v1I : Int32) (v2I : Int32) (v3I : Int32) (v4I : Int32) (v5I : Int32) (σ : AM) : S_St_lowest ⊕ Option (Int32 × AM) :=
  if v5I < (64 : Int32) then (if v4I = 0 then (.inl (2, v0I, v1I, v2I, v3I, 0, 0, 0, σ)) else (gdT (nzI v4I) <| letT (v3I - v3I / v4I * v4I) fun x2 => .inl (1, v0I, v1I, v2I, v4I, x2, v5I + (1 : Int32), 0, σ))) else (.inl (2, v0I, v1I, v2I, v3I, 0, 0, 0, σ))
noncomputable def T_St_lowest_2 (v0I : Int32) (v1I : Int32) (v2I : Int32) (v3I : Int32) (σ : AM) : S_St_lowest ⊕ Option (Int32 × AM) :=
  if v3I = 0 then (.inr (some (((-1) : Int32), σ))) else (if v2I = 0 then (.inl (3, 0, 0, 0, v3I, 0, 0, v0I, σ)) else (.inl (3, 0, 0, 0, v3I, 0, 0, v1I, σ)))
noncomputable def T_St_lowest_3 (v3I : Int32) (s0I : Int32) (σ : AM) : S_St_lowest ⊕ Option (Int32 × AM) :=
  gdT (nzI v3I) <| .inr (some ((s0I / v3I), σ))
noncomputable def F_St_lowest : S_St_lowest → S_St_lowest ⊕ Option (Int32 × AM) := fun s => match s.1 with
  | 0 => T_St_lowest_0 (s.2.1) (s.2.2.1) (s.2.2.2.1) (s.2.2.2.2.2.2.2.2)
  | 1 => T_St_lowest_1 (s.2.1) (s.2.2.1) (s.2.2.2.1) (s.2.2.2.2.1) (s.2.2.2.2.2.1) (s.2.2.2.2.2.2.1) (s.2.2.2.2.2.2.2.2)
  | 2 => T_St_lowest_2 (s.2.1) (s.2.2.1) (s.2.2.2.1) (s.2.2.2.2.1) (s.2.2.2.2.2.2.2.2)
  | _ => T_St_lowest_3 (s.2.2.2.2.1) (s.2.2.2.2.2.2.2.1) (s.2.2.2.2.2.2.2.2)
noncomputable def L_St_lowest_0 (v0I : Int32) (v1I : Int32) (v2I : Int32) (σ : AM) : Option (Int32 × AM) := lp F_St_lowest (0, v0I, v1I, v2I, 0, 0, 0, 0, σ)
noncomputable def L_St_lowest_1 (v0I : Int32) (v1I : Int32) (v2I : Int32) (v3I : Int32) (v4I : Int32) (v5I : Int32) (σ : AM) : Option (Int32 × AM) := lp F_St_lowest (1, v0I, v1I, v2I, v3I, v4I, v5I, 0, σ)
noncomputable def L_St_lowest_2 (v0I : Int32) (v1I : Int32) (v2I : Int32) (v3I : Int32) (σ : AM) : Option (Int32 × AM) := lp F_St_lowest (2, v0I, v1I, v2I, v3I, 0, 0, 0, σ)
noncomputable def L_St_lowest_3 (v3I : Int32) (s0I : Int32) (σ : AM) : Option (Int32 × AM) := lp F_St_lowest (3, 0, 0, 0, v3I, 0, 0, s0I, σ)
set_option maxRecDepth 20000 in
theorem E_St_lowest_0 (v0I : Int32) (v1I : Int32) (v2I : Int32) (σ : AM) : L_St_lowest_0 v0I v1I v2I σ = (L_St_lowest_1 v0I v1I v2I v0I v1I ((0 : Int32)) σ) := by
  unfold L_St_lowest_0
  rw [lp_eq]
  show lpK (lp F_St_lowest) (T_St_lowest_0 v0I v1I v2I σ) = _
  unfold T_St_lowest_0
  simp only [lpK_ite, lq_inl, lq_inr, lpK_bnd, lpK_gd, lq_let]
  try rfl
set_option maxRecDepth 20000 in
theorem E_St_lowest_1 (v0I : Int32) (v1I : Int32) (v2I : Int32) (v3I : Int32) (v4I : Int32) (v5I : Int32) (σ : AM) : L_St_lowest_1 v0I v1I v2I v3I v4I v5I σ = (if v5I < (64 : Int32) then (if v4I = 0 then (L_St_lowest_2 v0I v1I v2I v3I σ) else (gd (nzI v4I) <| letT (v3I - v3I / v4I * v4I) fun x2 => L_St_lowest_1 v0I v1I v2I v4I x2 (v5I + (1 : Int32)) σ)) else (L_St_lowest_2 v0I v1I v2I v3I σ)) := by
  unfold L_St_lowest_1
  rw [lp_eq]
  show lpK (lp F_St_lowest) (T_St_lowest_1 v0I v1I v2I v3I v4I v5I σ) = _
  unfold T_St_lowest_1
  simp only [lpK_ite, lq_inl, lq_inr, lpK_bnd, lpK_gd, lq_let]
  try rfl
set_option maxRecDepth 20000 in
theorem E_St_lowest_2 (v0I : Int32) (v1I : Int32) (v2I : Int32) (v3I : Int32) (σ : AM) : L_St_lowest_2 v0I v1I v2I v3I σ = (if v3I = 0 then ((some (((-1) : Int32), σ))) else (if v2I = 0 then (L_St_lowest_3 v3I v0I σ) else (L_St_lowest_3 v3I v1I σ))) := by
  unfold L_St_lowest_2
  rw [lp_eq]
  show lpK (lp F_St_lowest) (T_St_lowest_2 v0I v1I v2I v3I σ) = _
  unfold T_St_lowest_2
  simp only [lpK_ite, lq_inl, lq_inr, lpK_bnd, lpK_gd, lq_let]
  try rfl
set_option maxRecDepth 20000 in
theorem E_St_lowest_3 (v3I : Int32) (s0I : Int32) (σ : AM) : L_St_lowest_3 v3I s0I σ = (gd (nzI v3I) <| (some ((s0I / v3I), σ))) := by
  unfold L_St_lowest_3
  rw [lp_eq]
  show lpK (lp F_St_lowest) (T_St_lowest_3 v3I s0I σ) = _
  unfold T_St_lowest_3
  simp only [lpK_ite, lq_inl, lq_inr, lpK_bnd, lpK_gd, lq_let]
  try rfl
noncomputable def M_St_lowest (v0I : Int32) (v1I : Int32) (v2I : Int32) (σ : AM) : Option (Int32 × AM) := mw σ (L_St_lowest_0 v0I v1I v2I σ)
def I_St_lowest (G : GX) (p : Program) (l : Launch) (e : Env) (s : State) (m : MethodId) (args : Array Value) (below : List Frame) (meth : Method) (c : Code) (z0 u0 n : Nat) : Prop :=
  (∀ (v0I : Int32) (v1I : Int32) (v2I : Int32) (σ : AM), VX (QM eI G args s below z0 u0) G p l e s m args below meth c 0 z0 u0 7 (lpn F_St_lowest n (0, v0I, v1I, v2I, 0, 0, 0, 0, σ)) 0 [(0, .int v0I), (1, .int v1I), (2, .int v2I)] [] σ) ∧
  (∀ (v0I : Int32) (v1I : Int32) (v2I : Int32) (v3I : Int32) (v4I : Int32) (v5I : Int32) (σ : AM), VX (QM eI G args s below z0 u0) G p l e s m args below meth c 0 z0 u0 7 (lpn F_St_lowest n (1, v0I, v1I, v2I, v3I, v4I, v5I, 0, σ)) 8 [(0, .int v0I), (1, .int v1I), (2, .int v2I), (3, .int v3I), (4, .int v4I), (5, .int v5I)] [] σ) ∧
  (∀ (v0I : Int32) (v1I : Int32) (v2I : Int32) (v3I : Int32) (σ : AM), VX (QM eI G args s below z0 u0) G p l e s m args below meth c 0 z0 u0 7 (lpn F_St_lowest n (2, v0I, v1I, v2I, v3I, 0, 0, 0, σ)) 39 [(0, .int v0I), (1, .int v1I), (2, .int v2I), (3, .int v3I)] [] σ) ∧
  (∀ (v3I : Int32) (s0I : Int32) (σ : AM), VX (QM eI G args s below z0 u0) G p l e s m args below meth c 0 z0 u0 7 (lpn F_St_lowest n (3, 0, 0, 0, v3I, 0, 0, s0I, σ)) 54 [(3, .int v3I)] [.int s0I] σ)
set_option maxRecDepth 20000 in
theorem s_St_lowest_0 {G : GX} {p : Program} {l : Launch} {e : Env} {s : State} {m : MethodId} {args : Array Value} {below : List Frame} {meth : Method} {c : Code} {z0 u0 n : Nat} (C : Cx G p s m args meth c prog_11_method_12_code 7 "BellPlate$Sets" ((some FieldType.int))) (IH : I_St_lowest G p l e s m args below meth c z0 u0 n) (v0I : Int32) (v1I : Int32) (v2I : Int32) (σ : AM) : VX (QM eI G args s below z0 u0) G p l e s m args below meth c 0 z0 u0 7 (lpK (lpn F_St_lowest n) (T_St_lowest_0 v0I v1I v2I σ)) 0 [(0, .int v0I), (1, .int v1I), (2, .int v2I)] [] σ := by
  unfold T_St_lowest_0
  refine x_iload_n C d_St_lowest_0 0 rfl ?_
  refine x_istore_n (lv' := [(3, .int v0I), (0, .int v0I), (1, .int v1I), (2, .int v2I)]) C d_St_lowest_1 (by decide) rfl rfl ?_
  refine x_iload_n C d_St_lowest_2 2 rfl ?_
  refine x_istore (lv' := [(4, .int v1I), (3, .int v0I), (0, .int v0I), (1, .int v1I), (2, .int v2I)]) C d_St_lowest_3 (by decide) rfl ?_
  refine x_iconst (v := (0 : Int32)) C d_St_lowest_5 (by decide) ?_
  refine x_istore (lv' := [(5, .int (0 : Int32)), (4, .int v1I), (3, .int v0I), (0, .int v0I), (1, .int v1I), (2, .int v2I)]) C d_St_lowest_6 (by decide) rfl ?_
  refine x_lv [3, 4, 5, 2, 1, 0] rfl ?_
  exact IH.2.1 v0I v1I v2I v0I v1I ((0 : Int32)) (σ)
set_option maxRecDepth 20000 in
theorem s_St_lowest_1 {G : GX} {p : Program} {l : Launch} {e : Env} {s : State} {m : MethodId} {args : Array Value} {below : List Frame} {meth : Method} {c : Code} {z0 u0 n : Nat} (C : Cx G p s m args meth c prog_11_method_12_code 7 "BellPlate$Sets" ((some FieldType.int))) (IH : I_St_lowest G p l e s m args below meth c z0 u0 n) (v0I : Int32) (v1I : Int32) (v2I : Int32) (v3I : Int32) (v4I : Int32) (v5I : Int32) (σ : AM) : VX (QM eI G args s below z0 u0) G p l e s m args below meth c 0 z0 u0 7 (lpK (lpn F_St_lowest n) (T_St_lowest_1 v0I v1I v2I v3I v4I v5I σ)) 8 [(0, .int v0I), (1, .int v1I), (2, .int v2I), (3, .int v3I), (4, .int v4I), (5, .int v5I)] [] σ := by
  unfold T_St_lowest_1
  refine x_iload C d_St_lowest_8 5 rfl ?_
  refine x_bipush (v := (64 : Int32)) C d_St_lowest_10 (by decide) ?_
  refine x_icmp_ge (tgt := 39) C d_St_lowest_12 (by decide) (fun _ => ?_) (fun _ => ?_)
  · refine x_iload C d_St_lowest_15 4 rfl ?_
    refine x_if_eq (tgt := 39) C d_St_lowest_17 (by decide) (fun _ => ?_) (fun _ => ?_)
    · refine x_lv [0, 1, 2, 3] rfl ?_
      exact IH.2.2.1 v0I v1I v2I v3I (σ)
    · refine x_iload_n C d_St_lowest_20 3 rfl ?_
      refine x_iload C d_St_lowest_21 4 rfl ?_
      refine x_gd (fun h1 => ?_)
      refine x_irem C d_St_lowest_23 (nzI_iff.mp h1) ?_
      refine x_letI (fun x2 _ => ?_)
      refine x_istore (lv' := [(6, .int x2), (0, .int v0I), (1, .int v1I), (2, .int v2I), (3, .int v3I), (4, .int v4I), (5, .int v5I)]) C d_St_lowest_24 (by decide) rfl ?_
      refine x_iload C d_St_lowest_26 5 rfl ?_
      refine x_istore_n (lv' := [(3, .int v4I), (6, .int x2), (0, .int v0I), (1, .int v1I), (2, .int v2I), (4, .int v4I), (5, .int v5I)]) C d_St_lowest_28 (by decide) rfl rfl ?_
      refine x_iload C d_St_lowest_29 1 rfl ?_
      refine x_istore (lv' := [(4, .int x2), (3, .int v4I), (6, .int x2), (0, .int v0I), (1, .int v1I), (2, .int v2I), (5, .int v5I)]) C d_St_lowest_31 (by decide) rfl ?_
      refine x_iinc (v := v5I + (1 : Int32)) (lv' := [(5, .int (v5I + (1 : Int32))), (4, .int x2), (3, .int v4I), (6, .int x2), (0, .int v0I), (1, .int v1I), (2, .int v2I)]) C d_St_lowest_33 6 rfl rfl (by decide) rfl ?_
      refine x_goto (tgt := 8) C d_St_lowest_36 (by decide) ?_
      refine x_lv [4, 5, 6, 2, 1, 0] rfl ?_
      exact IH.2.1 v0I v1I v2I v4I x2 (v5I + (1 : Int32)) (σ)
  · refine x_lv [0, 1, 2, 3] rfl ?_
    exact IH.2.2.1 v0I v1I v2I v3I (σ)
set_option maxRecDepth 20000 in
theorem s_St_lowest_2 {G : GX} {p : Program} {l : Launch} {e : Env} {s : State} {m : MethodId} {args : Array Value} {below : List Frame} {meth : Method} {c : Code} {z0 u0 n : Nat} (C : Cx G p s m args meth c prog_11_method_12_code 7 "BellPlate$Sets" ((some FieldType.int))) (IH : I_St_lowest G p l e s m args below meth c z0 u0 n) (v0I : Int32) (v1I : Int32) (v2I : Int32) (v3I : Int32) (σ : AM) : VX (QM eI G args s below z0 u0) G p l e s m args below meth c 0 z0 u0 7 (lpK (lpn F_St_lowest n) (T_St_lowest_2 v0I v1I v2I v3I σ)) 39 [(0, .int v0I), (1, .int v1I), (2, .int v2I), (3, .int v3I)] [] σ := by
  unfold T_St_lowest_2
  refine x_iload_n C d_St_lowest_39 3 rfl ?_
  refine x_if_ne (tgt := 45) C d_St_lowest_40 (by decide) (fun _ => ?_) (fun _ => ?_)
  · refine x_iconst (v := ((-1) : Int32)) C d_St_lowest_43 (by decide) ?_
    exact x_iret C d_St_lowest_44
  · refine x_iload_n C d_St_lowest_45 2 rfl ?_
    refine x_if_ne (tgt := 53) C d_St_lowest_46 (by decide) (fun _ => ?_) (fun _ => ?_)
    · refine x_iload_n C d_St_lowest_49 0 rfl ?_
      refine x_goto (tgt := 54) C d_St_lowest_50 (by decide) ?_
      refine x_lv [3] rfl ?_
      exact IH.2.2.2 v3I v0I (σ)
    · refine x_iload_n C d_St_lowest_53 1 rfl ?_
      refine x_lv [3] rfl ?_
      exact IH.2.2.2 v3I v1I (σ)
set_option maxRecDepth 20000 in
theorem s_St_lowest_3 {G : GX} {p : Program} {l : Launch} {e : Env} {s : State} {m : MethodId} {args : Array Value} {below : List Frame} {meth : Method} {c : Code} {z0 u0 n : Nat} (C : Cx G p s m args meth c prog_11_method_12_code 7 "BellPlate$Sets" ((some FieldType.int))) (IH : I_St_lowest G p l e s m args below meth c z0 u0 n) (v3I : Int32) (s0I : Int32) (σ : AM) : VX (QM eI G args s below z0 u0) G p l e s m args below meth c 0 z0 u0 7 (lpK (lpn F_St_lowest n) (T_St_lowest_3 v3I s0I σ)) 54 [(3, .int v3I)] [.int s0I] σ := by
  unfold T_St_lowest_3
  refine x_iload_n C d_St_lowest_54 0 rfl ?_
  refine x_gd (fun h1 => ?_)
  refine x_idiv C d_St_lowest_55 (nzI_iff.mp h1) ?_
  exact x_iret C d_St_lowest_56
theorem i_St_lowest {G : GX} {p : Program} {l : Launch} {e : Env} {s : State} {m : MethodId} {args : Array Value} {below : List Frame} {meth : Method} {c : Code} {z0 u0 : Nat} (C : Cx G p s m args meth c prog_11_method_12_code 7 "BellPlate$Sets" ((some FieldType.int))) (n : Nat) : I_St_lowest G p l e s m args below meth c z0 u0 n := by
  induction n with
  | zero => exact ⟨fun _ _ _ _ => x_none, fun _ _ _ _ _ _ _ => x_none, fun _ _ _ _ _ => x_none, fun _ _ _ => x_none⟩
  | succ n IH => exact ⟨fun v0I v1I v2I σ => s_St_lowest_0 C IH v0I v1I v2I σ, fun v0I v1I v2I v3I v4I v5I σ => s_St_lowest_1 C IH v0I v1I v2I v3I v4I v5I σ, fun v0I v1I v2I v3I σ => s_St_lowest_2 C IH v0I v1I v2I v3I σ, fun v3I s0I σ => s_St_lowest_3 C IH v3I s0I σ⟩
theorem c_St_lowest (G : GX) (l : Launch) (v0I : Int32) (v1I : Int32) (v2I : Int32) (σ : AM) : CT eI G l 0 y_St_lowest prog_11_method_12_code 7 ((some FieldType.int)) [.int v0I, .int v1I, .int v2I] σ (M_St_lowest v0I v1I v2I σ) := by
  refine ct_of (by decide +kernel) (Nat.le_of_ble_eq_true rfl) (fun p e s m args below meth c C hin => ?_)
  refine x_lve (lv' := [(0, .int v0I), (1, .int v1I), (2, .int v2I)]) rfl ?_
  intro r σ' h
  obtain ⟨n, hn⟩ := (lp_iff _ _ _).mp h
  exact (i_St_lowest C n).1 v0I v1I v2I σ r σ' hn
