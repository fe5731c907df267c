/-! BellPlateModel.may(I)I -/
abbrev y_Md_may : MethodName := ⟨"BellPlateModel", "may", "(I)I"⟩
theorem k_Md_may : y_Md_may.cls ≠ "java/lang/invoke/MethodHandle" ∧ y_Md_may.cls ≠ "java/lang/invoke/VarHandle" ∧ (parseMethodDescriptor y_Md_may.desc).map (fun d => d.parameters.length) = some 1 := by decide +kernel
theorem d_Md_may_0 : decode prog_14_method_44_code 0 = .ok (.aload_n 0, 1) := by decide +kernel
theorem d_Md_may_1 : decode prog_14_method_44_code 1 = .ok (.iconst 0, 1) := by decide +kernel
theorem d_Md_may_2 : decode prog_14_method_44_code 2 = .ok (.putfield 1, 3) := by decide +kernel
theorem d_Md_may_5 : decode prog_14_method_44_code 5 = .ok (.aload_n 0, 1) := by decide +kernel
theorem d_Md_may_6 : decode prog_14_method_44_code 6 = .ok (.iload_n 1, 1) := by decide +kernel
theorem d_Md_may_7 : decode prog_14_method_44_code 7 = .ok (.invokevirtual 337, 3) := by decide +kernel
theorem d_Md_may_10 : decode prog_14_method_44_code 10 = .ok (.ifCond .eq 20, 3) := by decide +kernel
theorem d_Md_may_13 : decode prog_14_method_44_code 13 = .ok (.aload_n 0, 1) := by decide +kernel
theorem d_Md_may_14 : decode prog_14_method_44_code 14 = .ok (.getfield 78, 3) := by decide +kernel
theorem d_Md_may_17 : decode prog_14_method_44_code 17 = .ok (.iload_n 1, 1) := by decide +kernel
theorem d_Md_may_18 : decode prog_14_method_44_code 18 = .ok (.baload, 1) := by decide +kernel
theorem d_Md_may_19 : decode prog_14_method_44_code 19 = .ok (.ifCond .eq 7, 3) := by decide +kernel
theorem d_Md_may_22 : decode prog_14_method_44_code 22 = .ok (.iconst 1, 1) := by decide +kernel
theorem d_Md_may_23 : decode prog_14_method_44_code 23 = .ok (.goto 8, 3) := by decide +kernel
theorem d_Md_may_26 : decode prog_14_method_44_code 26 = .ok (.iconst 0, 1) := by decide +kernel
theorem d_Md_may_27 : decode prog_14_method_44_code 27 = .ok (.goto 4, 3) := by decide +kernel
theorem d_Md_may_30 : decode prog_14_method_44_code 30 = .ok (.iconst (-1), 1) := by decide +kernel
theorem d_Md_may_31 : decode prog_14_method_44_code 31 = .ok (.ireturn, 1) := by decide +kernel
abbrev S_Md_may : Type := Nat × Nat × Int32 × Int32 × AM
noncomputable def T_Md_may_0 (v0R : Nat) (v1I : Int32) (σ : AM) : S_Md_may ⊕ Option (Int32 × AM) :=
  gdT (okO σ v0R 12) <| letT (sI σ v0R 0 (0 : Int32)) fun σ2 => bndT (M_Md_isWeights v0R v1I σ2) fun r4 σ5 => if r4 = 0 then (.inl (1, 0, 0, ((-1) : Int32), σ5)) else (gdT (okO σ5 v0R 12) <| gdT (okO σ5 (aR σ5 v0R 28) 103) <| gdT (inB v1I (aN σ5 (aR σ5 v0R 28))) <| if (aI σ5 (aR σ5 v0R 28) v1I.toNatClampNeg) = 0 then (.inl (1, 0, 0, (0 : Int32), σ5)) else (.inl (1, 0, 0, (1 : Int32), σ5)))
noncomputable def T_Md_may_1 (s0I : Int32) (σ : AM) : S_Md_may ⊕ Option (Int32 × AM) :=
  .inr (some (s0I, σ))
noncomputable def F_Md_may : S_Md_may → S_Md_may ⊕ Option (Int32 × AM) := fun s => match s.1 with
  | 0 => T_Md_may_0 (s.2.1) (s.2.2.1) (s.2.2.2.2)
  | _ => T_Md_may_1 (s.2.2.2.1) (s.2.2.2.2)
noncomputable def L_Md_may_0 (v0R : Nat) (v1I : Int32) (σ : AM) : Option (Int32 × AM) := lp F_Md_may (0, v0R, v1I, 0, σ)
noncomputable def L_Md_may_1 (s0I : Int32) (σ : AM) : Option (Int32 × AM) := lp F_Md_may (1, 0, 0, s0I, σ)
set_option maxRecDepth 20000 in
theorem E_Md_may_0 (v0R : Nat) (v1I : Int32) (σ : AM) : L_Md_may_0 v0R v1I σ = (gd (okO σ v0R 12) <| letT (sI σ v0R 0 (0 : Int32)) fun σ2 => bnd (M_Md_isWeights v0R v1I σ2) fun r4 σ5 => if r4 = 0 then (L_Md_may_1 (((-1) : Int32)) σ5) else (gd (okO σ5 v0R 12) <| gd (okO σ5 (aR σ5 v0R 28) 103) <| gd (inB v1I (aN σ5 (aR σ5 v0R 28))) <| if (aI σ5 (aR σ5 v0R 28) v1I.toNatClampNeg) = 0 then (L_Md_may_1 ((0 : Int32)) σ5) else (L_Md_may_1 ((1 : Int32)) σ5))) := by
  unfold L_Md_may_0
  rw [lp_eq]
  show lpK (lp F_Md_may) (T_Md_may_0 v0R v1I σ) = _
  unfold T_Md_may_0
  simp only [lpK_ite, lq_inl, lq_inr, lpK_bnd, lpK_gd, lq_let]
  try rfl
set_option maxRecDepth 20000 in
theorem E_Md_may_1 (s0I : Int32) (σ : AM) : L_Md_may_1 s0I σ = ((some (s0I, σ))) := by
  unfold L_Md_may_1
  rw [lp_eq]
  show lpK (lp F_Md_may) (T_Md_may_1 s0I σ) = _
  unfold T_Md_may_1
  simp only [lpK_ite, lq_inl, lq_inr, lpK_bnd, lpK_gd, lq_let]
  try rfl
noncomputable def M_Md_may (v0R : Nat) (v1I : Int32) (σ : AM) : Option (Int32 × AM) := mw σ (L_Md_may_0 v0R v1I σ)
def I_Md_may (G : GX) (p : Program) (l : Launch) (e : Env) (s : State) (m : MethodId) (args : Array Value) (below : List Frame) (meth : Method) (c : Code) (z0 u0 n : Nat) : Prop :=
  (∀ (v0R : Nat) (v1I : Int32) (σ : AM), VX (QM eI G args s below z0 u0) G p l e s m args below meth c 1 z0 u0 2 (lpn F_Md_may n (0, v0R, v1I, 0, σ)) 0 [(0, .ref v0R), (1, .int v1I)] [] σ) ∧
  (∀ (s0I : Int32) (σ : AM), VX (QM eI G args s below z0 u0) G p l e s m args below meth c 1 z0 u0 2 (lpn F_Md_may n (1, 0, 0, s0I, σ)) 31 [] [.int s0I] σ)
set_option maxRecDepth 20000 in
theorem s_Md_may_0 {G : GX} {p : Program} {l : Launch} {e : Env} {s : State} {m : MethodId} {args : Array Value} {below : List Frame} {meth : Method} {c : Code} {z0 u0 n : Nat} (C : Cx G p s m args meth c prog_14_method_44_code 2 "BellPlateModel" ((some FieldType.int))) (IH : I_Md_may G p l e s m args below meth c z0 u0 n) (v0R : Nat) (v1I : Int32) (σ : AM) : VX (QM eI G args s below z0 u0) G p l e s m args below meth c 1 z0 u0 2 (lpK (lpn F_Md_may n) (T_Md_may_0 v0R v1I σ)) 0 [(0, .ref v0R), (1, .int v1I)] [] σ := by
  unfold T_Md_may_0
  refine x_aload_n C d_Md_may_0 0 rfl ?_
  refine x_iconst (v := (0 : Int32)) C d_Md_may_1 (by decide) ?_
  refine x_gd (fun h1 => ?_)
  refine x_putI (k := 0) C (okO_iff.mp h1) rfl j11_ok y11_ok n11_ok (by decide) rfl rfl rfl rfl w1852 d_Md_may_2 ?_
  refine x_letS (fun σ2 e3 => ?_)
  refine x_aload_n C d_Md_may_5 0 rfl ?_
  refine x_iload_n C d_Md_may_6 1 rfl ?_
  refine x_callVI (As := [.int v1I]) C (c_Md_isWeights G l v0R v1I σ2) (by first | exact (okO_iff.mp h1) | (rw [e3]; exact (okO_iff.mp h1))) rfl w2182 w83 w2180 w2183 w134 k_Md_isWeights rfl (by decide) (by decide) rfl (Nat.le_of_ble_eq_true rfl) d_Md_may_7 (fun r4 σ5 => ?_)
  refine x_if_eq (tgt := 30) C d_Md_may_10 (by decide) (fun _ => ?_) (fun _ => ?_)
  · refine x_iconst (v := ((-1) : Int32)) C d_Md_may_30 (by decide) ?_
    refine x_lv [] rfl ?_
    exact IH.2 (((-1) : Int32)) (σ5)
  · refine x_aload_n C d_Md_may_13 0 rfl ?_
    refine x_gd (fun h6 => ?_)
    refine x_gd (fun h7 => ?_)
    refine x_getR (k := 28) (kv := 103) C (okO_iff.mp h6) rfl j11_ok (by decide) rfl (okO_iff.mp h7) (by decide) w1880 d_Md_may_14 ?_
    refine x_iload_n C d_Md_may_17 1 rfl ?_
    refine x_gd (fun h8 => ?_)
    refine x_aldZ C (okO_iff.mp h7) (inB_iff.mp h8) d_Md_may_18 ?_
    refine x_if_eq (tgt := 26) C d_Md_may_19 (by decide) (fun _ => ?_) (fun _ => ?_)
    · refine x_iconst (v := (0 : Int32)) C d_Md_may_26 (by decide) ?_
      refine x_goto (tgt := 31) C d_Md_may_27 (by decide) ?_
      refine x_lv [] rfl ?_
      exact IH.2 ((0 : Int32)) (σ5)
    · refine x_iconst (v := (1 : Int32)) C d_Md_may_22 (by decide) ?_
      refine x_goto (tgt := 31) C d_Md_may_23 (by decide) ?_
      refine x_lv [] rfl ?_
      exact IH.2 ((1 : Int32)) (σ5)
set_option maxRecDepth 20000 in
theorem s_Md_may_1 {G : GX} {p : Program} {l : Launch} {e : Env} {s : State} {m : MethodId} {args : Array Value} {below : List Frame} {meth : Method} {c : Code} {z0 u0 n : Nat} (C : Cx G p s m args meth c prog_14_method_44_code 2 "BellPlateModel" ((some FieldType.int))) (IH : I_Md_may G p l e s m args below meth c z0 u0 n) (s0I : Int32) (σ : AM) : VX (QM eI G args s below z0 u0) G p l e s m args below meth c 1 z0 u0 2 (lpK (lpn F_Md_may n) (T_Md_may_1 s0I σ)) 31 [] [.int s0I] σ := by
  unfold T_Md_may_1
  exact x_iret C d_Md_may_31
theorem i_Md_may {G : GX} {p : Program} {l : Launch} {e : Env} {s : State} {m : MethodId} {args : Array Value} {below : List Frame} {meth : Method} {c : Code} {z0 u0 : Nat} (C : Cx G p s m args meth c prog_14_method_44_code 2 "BellPlateModel" ((some FieldType.int))) (n : Nat) : I_Md_may G p l e s m args below meth c z0 u0 n := by
  induction n with
  | zero => exact ⟨fun _ _ _ => x_none, fun _ _ => x_none⟩
  | succ n IH => exact ⟨fun v0R v1I σ => s_Md_may_0 C IH v0R v1I σ, fun s0I σ => s_Md_may_1 C IH s0I σ⟩
theorem c_Md_may (G : GX) (l : Launch) (v0R : Nat) (v1I : Int32) (σ : AM) : CT eI G l 1 y_Md_may prog_14_method_44_code 2 ((some FieldType.int)) [.ref v0R, .int v1I] σ (M_Md_may v0R v1I σ) := by
  refine ct_of (by decide +kernel) (Nat.le_of_ble_eq_true rfl) (fun p e s m args below meth c C hin => ?_)
  refine x_lve (lv' := [(0, .ref v0R), (1, .int v1I)]) rfl ?_
  intro r σ' h
  obtain ⟨n, hn⟩ := (lp_iff _ _ _).mp h
  exact (i_Md_may C n).1 v0R v1I σ r σ' hn
/-! BellPlateModel.list(I)J -/
abbrev y_Md_list : MethodName := ⟨"BellPlateModel", "list", "(I)J"⟩
theorem k_Md_list : y_Md_list.cls ≠ "java/lang/invoke/MethodHandle" ∧ y_Md_list.cls ≠ "java/lang/invoke/VarHandle" ∧ (parseMethodDescriptor y_Md_list.desc).map (fun d => d.parameters.length) = some 1 := by decide +kernel
theorem d_Md_list_0 : decode prog_14_method_45_code 0 = .ok (.aload_n 0, 1) := by decide +kernel
theorem d_Md_list_1 : decode prog_14_method_45_code 1 = .ok (.iconst 0, 1) := by decide +kernel
theorem d_Md_list_2 : decode prog_14_method_45_code 2 = .ok (.putfield 1, 3) := by decide +kernel
theorem d_Md_list_5 : decode prog_14_method_45_code 5 = .ok (.aload_n 0, 1) := by decide +kernel
theorem d_Md_list_6 : decode prog_14_method_45_code 6 = .ok (.iload_n 1, 1) := by decide +kernel
theorem d_Md_list_7 : decode prog_14_method_45_code 7 = .ok (.invokevirtual 337, 3) := by decide +kernel
theorem d_Md_list_10 : decode prog_14_method_45_code 10 = .ok (.ifCond .eq 12, 3) := by decide +kernel
theorem d_Md_list_13 : decode prog_14_method_45_code 13 = .ok (.aload_n 0, 1) := by decide +kernel
theorem d_Md_list_14 : decode prog_14_method_45_code 14 = .ok (.getfield 75, 3) := by decide +kernel
theorem d_Md_list_17 : decode prog_14_method_45_code 17 = .ok (.iload_n 1, 1) := by decide +kernel
theorem d_Md_list_18 : decode prog_14_method_45_code 18 = .ok (.laload, 1) := by decide +kernel
theorem d_Md_list_19 : decode prog_14_method_45_code 19 = .ok (.goto 4, 3) := by decide +kernel
theorem d_Md_list_22 : decode prog_14_method_45_code 22 = .ok (.lconst 0, 1) := by decide +kernel
theorem d_Md_list_23 : decode prog_14_method_45_code 23 = .ok (.lreturn, 1) := by decide +kernel
abbrev S_Md_list : Type := Nat × Nat × Int32 × Int64 × AM
noncomputable def T_Md_list_0 (v0R : Nat) (v1I : Int32) (σ : AM) : S_Md_list ⊕ Option (Int64 × AM) :=
  gdT (okO σ v0R 12) <| letT (sI σ v0R 0 (0 : Int32)) fun σ2 => bndT (M_Md_isWeights v0R v1I σ2) fun r4 σ5 => if r4 = 0 then (.inl (1, 0, 0, (0 : Int64), σ5)) else (gdT (okO σ5 v0R 12) <| gdT (okO σ5 (aR σ5 v0R 27) 102) <| gdT (inB v1I (aN σ5 (aR σ5 v0R 27))) <| .inl (1, 0, 0, aL σ5 (aR σ5 v0R 27) v1I.toNatClampNeg, σ5))
noncomputable def T_Md_list_1 (s0J : Int64) (σ : AM) : S_Md_list ⊕ Option (Int64 × AM) :=
  .inr (some (s0J, σ))
noncomputable def F_Md_list : S_Md_list → S_Md_list ⊕ Option (Int64 × AM) := fun s => match s.1 with
  | 0 => T_Md_list_0 (s.2.1) (s.2.2.1) (s.2.2.2.2)
  | _ => T_Md_list_1 (s.2.2.2.1) (s.2.2.2.2)
noncomputable def L_Md_list_0 (v0R : Nat) (v1I : Int32) (σ : AM) : Option (Int64 × AM) := lp F_Md_list (0, v0R, v1I, 0, σ)
noncomputable def L_Md_list_1 (s0J : Int64) (σ : AM) : Option (Int64 × AM) := lp F_Md_list (1, 0, 0, s0J, σ)
set_option maxRecDepth 20000 in
theorem E_Md_list_0 (v0R : Nat) (v1I : Int32) (σ : AM) : L_Md_list_0 v0R v1I σ = (gd (okO σ v0R 12) <| letT (sI σ v0R 0 (0 : Int32)) fun σ2 => bnd (M_Md_isWeights v0R v1I σ2) fun r4 σ5 => if r4 = 0 then (L_Md_list_1 ((0 : Int64)) σ5) else (gd (okO σ5 v0R 12) <| gd (okO σ5 (aR σ5 v0R 27) 102) <| gd (inB v1I (aN σ5 (aR σ5 v0R 27))) <| L_Md_list_1 (aL σ5 (aR σ5 v0R 27) v1I.toNatClampNeg) σ5)) := by
  unfold L_Md_list_0
  rw [lp_eq]
  show lpK (lp F_Md_list) (T_Md_list_0 v0R v1I σ) = _
  unfold T_Md_list_0
  simp only [lpK_ite, lq_inl, lq_inr, lpK_bnd, lpK_gd, lq_let]
  try rfl
set_option maxRecDepth 20000 in
theorem E_Md_list_1 (s0J : Int64) (σ : AM) : L_Md_list_1 s0J σ = ((some (s0J, σ))) := by
  unfold L_Md_list_1
  rw [lp_eq]
  show lpK (lp F_Md_list) (T_Md_list_1 s0J σ) = _
  unfold T_Md_list_1
  simp only [lpK_ite, lq_inl, lq_inr, lpK_bnd, lpK_gd, lq_let]
  try rfl
noncomputable def M_Md_list (v0R : Nat) (v1I : Int32) (σ : AM) : Option (Int64 × AM) := mw σ (L_Md_list_0 v0R v1I σ)
def I_Md_list (G : GX) (p : Program) (l : Launch) (e : Env) (s : State) (m : MethodId) (args : Array Value) (below : List Frame) (meth : Method) (c : Code) (z0 u0 n : Nat) : Prop :=
  (∀ (v0R : Nat) (v1I : Int32) (σ : AM), VX (QM eJ G args s below z0 u0) G p l e s m args below meth c 1 z0 u0 2 (lpn F_Md_list n (0, v0R, v1I, 0, σ)) 0 [(0, .ref v0R), (1, .int v1I)] [] σ) ∧
  (∀ (s0J : Int64) (σ : AM), VX (QM eJ G args s below z0 u0) G p l e s m args below meth c 1 z0 u0 2 (lpn F_Md_list n (1, 0, 0, s0J, σ)) 23 [] [.long s0J] σ)
set_option maxRecDepth 20000 in
theorem s_Md_list_0 {G : GX} {p : Program} {l : Launch} {e : Env} {s : State} {m : MethodId} {args : Array Value} {below : List Frame} {meth : Method} {c : Code} {z0 u0 n : Nat} (C : Cx G p s m args meth c prog_14_method_45_code 2 "BellPlateModel" ((some FieldType.long))) (IH : I_Md_list G p l e s m args below meth c z0 u0 n) (v0R : Nat) (v1I : Int32) (σ : AM) : VX (QM eJ G args s below z0 u0) G p l e s m args below meth c 1 z0 u0 2 (lpK (lpn F_Md_list n) (T_Md_list_0 v0R v1I σ)) 0 [(0, .ref v0R), (1, .int v1I)] [] σ := by
  unfold T_Md_list_0
  refine x_aload_n C d_Md_list_0 0 rfl ?_
  refine x_iconst (v := (0 : Int32)) C d_Md_list_1 (by decide) ?_
  refine x_gd (fun h1 => ?_)
  refine x_putI (k := 0) C (okO_iff.mp h1) rfl j11_ok y11_ok n11_ok (by decide) rfl rfl rfl rfl w1852 d_Md_list_2 ?_
  refine x_letS (fun σ2 e3 => ?_)
  refine x_aload_n C d_Md_list_5 0 rfl ?_
  refine x_iload_n C d_Md_list_6 1 rfl ?_
  refine x_callVI (As := [.int v1I]) C (c_Md_isWeights G l v0R v1I σ2) (by first | exact (okO_iff.mp h1) | (rw [e3]; exact (okO_iff.mp h1))) rfl w2182 w83 w2180 w2183 w134 k_Md_isWeights rfl (by decide) (by decide) rfl (Nat.le_of_ble_eq_true rfl) d_Md_list_7 (fun r4 σ5 => ?_)
  refine x_if_eq (tgt := 22) C d_Md_list_10 (by decide) (fun _ => ?_) (fun _ => ?_)
  · refine x_lconst (v := (0 : Int64)) C d_Md_list_22 (by decide) ?_
    refine x_lv [] rfl ?_
    exact IH.2 ((0 : Int64)) (σ5)
  · refine x_aload_n C d_Md_list_13 0 rfl ?_
    refine x_gd (fun h6 => ?_)
    refine x_gd (fun h7 => ?_)
    refine x_getR (k := 27) (kv := 102) C (okO_iff.mp h6) rfl j11_ok (by decide) rfl (okO_iff.mp h7) (by decide) w1879 d_Md_list_14 ?_
    refine x_iload_n C d_Md_list_17 1 rfl ?_
    refine x_gd (fun h8 => ?_)
    refine x_aldJ C (okO_iff.mp h7) (inB_iff.mp h8) d_Md_list_18 ?_
    refine x_goto (tgt := 23) C d_Md_list_19 (by decide) ?_
    refine x_lv [] rfl ?_
    exact IH.2 (aL σ5 (aR σ5 v0R 27) v1I.toNatClampNeg) (σ5)
set_option maxRecDepth 20000 in
theorem s_Md_list_1 {G : GX} {p : Program} {l : Launch} {e : Env} {s : State} {m : MethodId} {args : Array Value} {below : List Frame} {meth : Method} {c : Code} {z0 u0 n : Nat} (C : Cx G p s m args meth c prog_14_method_45_code 2 "BellPlateModel" ((some FieldType.long))) (IH : I_Md_list G p l e s m args below meth c z0 u0 n) (s0J : Int64) (σ : AM) : VX (QM eJ G args s below z0 u0) G p l e s m args below meth c 1 z0 u0 2 (lpK (lpn F_Md_list n) (T_Md_list_1 s0J σ)) 23 [] [.long s0J] σ := by
  unfold T_Md_list_1
  exact x_lret C d_Md_list_23
theorem i_Md_list {G : GX} {p : Program} {l : Launch} {e : Env} {s : State} {m : MethodId} {args : Array Value} {below : List Frame} {meth : Method} {c : Code} {z0 u0 : Nat} (C : Cx G p s m args meth c prog_14_method_45_code 2 "BellPlateModel" ((some FieldType.long))) (n : Nat) : I_Md_list G p l e s m args below meth c z0 u0 n := by
  induction n with
  | zero => exact ⟨fun _ _ _ => x_none, fun _ _ => x_none⟩
  | succ n IH => exact ⟨fun v0R v1I σ => s_Md_list_0 C IH v0R v1I σ, fun s0J σ => s_Md_list_1 C IH s0J σ⟩
theorem c_Md_list (G : GX) (l : Launch) (v0R : Nat) (v1I : Int32) (σ : AM) : CT eJ G l 1 y_Md_list prog_14_method_45_code 2 ((some FieldType.long)) [.ref v0R, .int v1I] σ (M_Md_list v0R v1I σ) := by
  refine ct_of (by decide +kernel) (Nat.le_of_ble_eq_true rfl) (fun p e s m args below meth c C hin => ?_)
  refine x_lve (lv' := [(0, .ref v0R), (1, .int v1I)]) rfl ?_
  intro r σ' h
  obtain ⟨n, hn⟩ := (lp_iff _ _ _).mp h
  exact (i_Md_list C n).1 v0R v1I σ r σ' hn
/-! BellPlateModel.cost(I)I -/
abbrev y_Md_cost : MethodName := ⟨"BellPlateModel", "cost", "(I)I"⟩
theorem k_Md_cost : y_Md_cost.cls ≠ "java/lang/invoke/MethodHandle" ∧ y_Md_cost.cls ≠ "java/lang/invoke/VarHandle" ∧ (parseMethodDescriptor y_Md_cost.desc).map (fun d => d.parameters.length) = some 1 := by decide +kernel
theorem d_Md_cost_0 : decode prog_14_method_46_code 0 = .ok (.aload_n 0, 1) := by decide +kernel
theorem d_Md_cost_1 : decode prog_14_method_46_code 1 = .ok (.iconst 0, 1) := by decide +kernel
theorem d_Md_cost_2 : decode prog_14_method_46_code 2 = .ok (.putfield 1, 3) := by decide +kernel
theorem d_Md_cost_5 : decode prog_14_method_46_code 5 = .ok (.aload_n 0, 1) := by decide +kernel
theorem d_Md_cost_6 : decode prog_14_method_46_code 6 = .ok (.iload_n 1, 1) := by decide +kernel
theorem d_Md_cost_7 : decode prog_14_method_46_code 7 = .ok (.invokevirtual 340, 3) := by decide +kernel
theorem d_Md_cost_10 : decode prog_14_method_46_code 10 = .ok (.ifCond .eq 12, 3) := by decide +kernel
theorem d_Md_cost_13 : decode prog_14_method_46_code 13 = .ok (.aload_n 0, 1) := by decide +kernel
theorem d_Md_cost_14 : decode prog_14_method_46_code 14 = .ok (.getfield 101, 3) := by decide +kernel
theorem d_Md_cost_17 : decode prog_14_method_46_code 17 = .ok (.iload_n 1, 1) := by decide +kernel
theorem d_Md_cost_18 : decode prog_14_method_46_code 18 = .ok (.iaload, 1) := by decide +kernel
theorem d_Md_cost_19 : decode prog_14_method_46_code 19 = .ok (.goto 4, 3) := by decide +kernel
theorem d_Md_cost_22 : decode prog_14_method_46_code 22 = .ok (.iconst (-1), 1) := by decide +kernel
theorem d_Md_cost_23 : decode prog_14_method_46_code 23 = .ok (.ireturn, 1) := by decide +kernel
abbrev S_Md_cost : Type := Nat × Nat × Int32 × Int32 × AM
noncomputable def T_Md_cost_0 (v0R : Nat) (v1I : Int32) (σ : AM) : S_Md_cost ⊕ Option (Int32 × AM) :=
  gdT (okO σ v0R 12) <| letT (sI σ v0R 0 (0 : Int32)) fun σ2 => bndT (M_Md_isSet v0R v1I σ2) fun r4 σ5 => if r4 = 0 then (.inl (1, 0, 0, ((-1) : Int32), σ5)) else (gdT (okO σ5 v0R 12) <| gdT (okO σ5 (aR σ5 v0R 36) 101) <| gdT (inB v1I (aN σ5 (aR σ5 v0R 36))) <| .inl (1, 0, 0, aI σ5 (aR σ5 v0R 36) v1I.toNatClampNeg, σ5))
noncomputable def T_Md_cost_1 (s0I : Int32) (σ : AM) : S_Md_cost ⊕ Option (Int32 × AM) :=
  .inr (some (s0I, σ))
noncomputable def F_Md_cost : S_Md_cost → S_Md_cost ⊕ Option (Int32 × AM) := fun s => match s.1 with
  | 0 => T_Md_cost_0 (s.2.1) (s.2.2.1) (s.2.2.2.2)
  | _ => T_Md_cost_1 (s.2.2.2.1) (s.2.2.2.2)
noncomputable def L_Md_cost_0 (v0R : Nat) (v1I : Int32) (σ : AM) : Option (Int32 × AM) := lp F_Md_cost (0, v0R, v1I, 0, σ)
noncomputable def L_Md_cost_1 (s0I : Int32) (σ : AM) : Option (Int32 × AM) := lp F_Md_cost (1, 0, 0, s0I, σ)
set_option maxRecDepth 20000 in
theorem E_Md_cost_0 (v0R : Nat) (v1I : Int32) (σ : AM) : L_Md_cost_0 v0R v1I σ = (gd (okO σ v0R 12) <| letT (sI σ v0R 0 (0 : Int32)) fun σ2 => bnd (M_Md_isSet v0R v1I σ2) fun r4 σ5 => if r4 = 0 then (L_Md_cost_1 (((-1) : Int32)) σ5) else (gd (okO σ5 v0R 12) <| gd (okO σ5 (aR σ5 v0R 36) 101) <| gd (inB v1I (aN σ5 (aR σ5 v0R 36))) <| L_Md_cost_1 (aI σ5 (aR σ5 v0R 36) v1I.toNatClampNeg) σ5)) := by
  unfold L_Md_cost_0
  rw [lp_eq]
  show lpK (lp F_Md_cost) (T_Md_cost_0 v0R v1I σ) = _
  unfold T_Md_cost_0
  simp only [lpK_ite, lq_inl, lq_inr, lpK_bnd, lpK_gd, lq_let]
  try rfl
set_option maxRecDepth 20000 in
theorem E_Md_cost_1 (s0I : Int32) (σ : AM) : L_Md_cost_1 s0I σ = ((some (s0I, σ))) := by
  unfold L_Md_cost_1
  rw [lp_eq]
  show lpK (lp F_Md_cost) (T_Md_cost_1 s0I σ) = _
  unfold T_Md_cost_1
  simp only [lpK_ite, lq_inl, lq_inr, lpK_bnd, lpK_gd, lq_let]
  try rfl
noncomputable def M_Md_cost (v0R : Nat) (v1I : Int32) (σ : AM) : Option (Int32 × AM) := mw σ (L_Md_cost_0 v0R v1I σ)
def I_Md_cost (G : GX) (p : Program) (l : Launch) (e : Env) (s : State) (m : MethodId) (args : Array Value) (below : List Frame) (meth : Method) (c : Code) (z0 u0 n : Nat) : Prop :=
  (∀ (v0R : Nat) (v1I : Int32) (σ : AM), VX (QM eI G args s below z0 u0) G p l e s m args below meth c 2 z0 u0 2 (lpn F_Md_cost n (0, v0R, v1I, 0, σ)) 0 [(0, .ref v0R), (1, .int v1I)] [] σ) ∧
  (∀ (s0I : Int32) (σ : AM), VX (QM eI G args s below z0 u0) G p l e s m args below meth c 2 z0 u0 2 (lpn F_Md_cost n (1, 0, 0, s0I, σ)) 23 [] [.int s0I] σ)
set_option maxRecDepth 20000 in
theorem s_Md_cost_0 {G : GX} {p : Program} {l : Launch} {e : Env} {s : State} {m : MethodId} {args : Array Value} {below : List Frame} {meth : Method} {c : Code} {z0 u0 n : Nat} (C : Cx G p s m args meth c prog_14_method_46_code 2 "BellPlateModel" ((some FieldType.int))) (IH : I_Md_cost G p l e s m args below meth c z0 u0 n) (v0R : Nat) (v1I : Int32) (σ : AM) : VX (QM eI G args s below z0 u0) G p l e s m args below meth c 2 z0 u0 2 (lpK (lpn F_Md_cost n) (T_Md_cost_0 v0R v1I σ)) 0 [(0, .ref v0R), (1, .int v1I)] [] σ := by
  unfold T_Md_cost_0
  refine x_aload_n C d_Md_cost_0 0 rfl ?_
  refine x_iconst (v := (0 : Int32)) C d_Md_cost_1 (by decide) ?_
  refine x_gd (fun h1 => ?_)
  refine x_putI (k := 0) C (okO_iff.mp h1) rfl j11_ok y11_ok n11_ok (by decide) rfl rfl rfl rfl w1852 d_Md_cost_2 ?_
  refine x_letS (fun σ2 e3 => ?_)
  refine x_aload_n C d_Md_cost_5 0 rfl ?_
  refine x_iload_n C d_Md_cost_6 1 rfl ?_
  refine x_callVI (As := [.int v1I]) C (c_Md_isSet G l v0R v1I σ2) (by first | exact (okO_iff.mp h1) | (rw [e3]; exact (okO_iff.mp h1))) rfl w2194 w84 w2192 w2195 w134 k_Md_isSet rfl (by decide) (by decide) rfl (Nat.le_of_ble_eq_true rfl) d_Md_cost_7 (fun r4 σ5 => ?_)
  refine x_if_eq (tgt := 22) C d_Md_cost_10 (by decide) (fun _ => ?_) (fun _ => ?_)
  · refine x_iconst (v := ((-1) : Int32)) C d_Md_cost_22 (by decide) ?_
    refine x_lv [] rfl ?_
    exact IH.2 (((-1) : Int32)) (σ5)
  · refine x_aload_n C d_Md_cost_13 0 rfl ?_
    refine x_gd (fun h6 => ?_)
    refine x_gd (fun h7 => ?_)
    refine x_getR (k := 36) (kv := 101) C (okO_iff.mp h6) rfl j11_ok (by decide) rfl (okO_iff.mp h7) (by decide) w1888 d_Md_cost_14 ?_
    refine x_iload_n C d_Md_cost_17 1 rfl ?_
    refine x_gd (fun h8 => ?_)
    refine x_aldI C (okO_iff.mp h7) (inB_iff.mp h8) d_Md_cost_18 ?_
    refine x_goto (tgt := 23) C d_Md_cost_19 (by decide) ?_
    refine x_lv [] rfl ?_
    exact IH.2 (aI σ5 (aR σ5 v0R 36) v1I.toNatClampNeg) (σ5)
set_option maxRecDepth 20000 in
theorem s_Md_cost_1 {G : GX} {p : Program} {l : Launch} {e : Env} {s : State} {m : MethodId} {args : Array Value} {below : List Frame} {meth : Method} {c : Code} {z0 u0 n : Nat} (C : Cx G p s m args meth c prog_14_method_46_code 2 "BellPlateModel" ((some FieldType.int))) (IH : I_Md_cost G p l e s m args below meth c z0 u0 n) (s0I : Int32) (σ : AM) : VX (QM eI G args s below z0 u0) G p l e s m args below meth c 2 z0 u0 2 (lpK (lpn F_Md_cost n) (T_Md_cost_1 s0I σ)) 23 [] [.int s0I] σ := by
  unfold T_Md_cost_1
  exact x_iret C d_Md_cost_23
theorem i_Md_cost {G : GX} {p : Program} {l : Launch} {e : Env} {s : State} {m : MethodId} {args : Array Value} {below : List Frame} {meth : Method} {c : Code} {z0 u0 : Nat} (C : Cx G p s m args meth c prog_14_method_46_code 2 "BellPlateModel" ((some FieldType.int))) (n : Nat) : I_Md_cost G p l e s m args below meth c z0 u0 n := by
  induction n with
  | zero => exact ⟨fun _ _ _ => x_none, fun _ _ => x_none⟩
  | succ n IH => exact ⟨fun v0R v1I σ => s_Md_cost_0 C IH v0R v1I σ, fun s0I σ => s_Md_cost_1 C IH s0I σ⟩
theorem c_Md_cost (G : GX) (l : Launch) (v0R : Nat) (v1I : Int32) (σ : AM) : CT eI G l 2 y_Md_cost prog_14_method_46_code 2 ((some FieldType.int)) [.ref v0R, .int v1I] σ (M_Md_cost v0R v1I σ) := by
  refine ct_of (by decide +kernel) (Nat.le_of_ble_eq_true rfl) (fun p e s m args below meth c C hin => ?_)
  refine x_lve (lv' := [(0, .ref v0R), (1, .int v1I)]) rfl ?_
  intro r σ' h
  obtain ⟨n, hn⟩ := (lp_iff _ _ _).mp h
  exact (i_Md_cost C n).1 v0R v1I σ r σ' hn
/-! BellPlateModel.trial(IZ)I -/
abbrev y_Md_trial : MethodName := ⟨"BellPlateModel", "trial", "(IZ)I"⟩
theorem k_Md_trial : y_Md_trial.cls ≠ "java/lang/invoke/MethodHandle" ∧ y_Md_trial.cls ≠ "java/lang/invoke/VarHandle" ∧ (parseMethodDescriptor y_Md_trial.desc).map (fun d => d.parameters.length) = some 2 := by decide +kernel
theorem d_Md_trial_0 : decode prog_14_method_47_code 0 = .ok (.aload_n 0, 1) := by decide +kernel
theorem d_Md_trial_1 : decode prog_14_method_47_code 1 = .ok (.iconst 0, 1) := by decide +kernel
theorem d_Md_trial_2 : decode prog_14_method_47_code 2 = .ok (.putfield 1, 3) := by decide +kernel
theorem d_Md_trial_5 : decode prog_14_method_47_code 5 = .ok (.aload_n 0, 1) := by decide +kernel
theorem d_Md_trial_6 : decode prog_14_method_47_code 6 = .ok (.iload_n 1, 1) := by decide +kernel
theorem d_Md_trial_7 : decode prog_14_method_47_code 7 = .ok (.invokevirtual 340, 3) := by decide +kernel
theorem d_Md_trial_10 : decode prog_14_method_47_code 10 = .ok (.ifCond .eq 12, 3) := by decide +kernel
theorem d_Md_trial_13 : decode prog_14_method_47_code 13 = .ok (.aload_n 0, 1) := by decide +kernel
theorem d_Md_trial_14 : decode prog_14_method_47_code 14 = .ok (.getfield 245, 3) := by decide +kernel
theorem d_Md_trial_17 : decode prog_14_method_47_code 17 = .ok (.bipush 60, 2) := by decide +kernel
theorem d_Md_trial_19 : decode prog_14_method_47_code 19 = .ok (.if_icmp .ne 5, 3) := by decide +kernel
theorem d_Md_trial_22 : decode prog_14_method_47_code 22 = .ok (.iconst (-1), 1) := by decide +kernel
theorem d_Md_trial_23 : decode prog_14_method_47_code 23 = .ok (.ireturn, 1) := by decide +kernel
theorem d_Md_trial_24 : decode prog_14_method_47_code 24 = .ok (.aload_n 0, 1) := by decide +kernel
theorem d_Md_trial_25 : decode prog_14_method_47_code 25 = .ok (.getfield 104, 3) := by decide +kernel
theorem d_Md_trial_28 : decode prog_14_method_47_code 28 = .ok (.aload_n 0, 1) := by decide +kernel
theorem d_Md_trial_29 : decode prog_14_method_47_code 29 = .ok (.getfield 245, 3) := by decide +kernel
theorem d_Md_trial_32 : decode prog_14_method_47_code 32 = .ok (.iload_n 1, 1) := by decide +kernel
theorem d_Md_trial_33 : decode prog_14_method_47_code 33 = .ok (.iastore, 1) := by decide +kernel
theorem d_Md_trial_34 : decode prog_14_method_47_code 34 = .ok (.aload_n 0, 1) := by decide +kernel
theorem d_Md_trial_35 : decode prog_14_method_47_code 35 = .ok (.getfield 107, 3) := by decide +kernel
theorem d_Md_trial_38 : decode prog_14_method_47_code 38 = .ok (.aload_n 0, 1) := by decide +kernel
theorem d_Md_trial_39 : decode prog_14_method_47_code 39 = .ok (.getfield 245, 3) := by decide +kernel
theorem d_Md_trial_42 : decode prog_14_method_47_code 42 = .ok (.iload_n 2, 1) := by decide +kernel
theorem d_Md_trial_43 : decode prog_14_method_47_code 43 = .ok (.bastore, 1) := by decide +kernel
theorem d_Md_trial_44 : decode prog_14_method_47_code 44 = .ok (.aload_n 0, 1) := by decide +kernel
theorem d_Md_trial_45 : decode prog_14_method_47_code 45 = .ok (.dup, 1) := by decide +kernel
theorem d_Md_trial_46 : decode prog_14_method_47_code 46 = .ok (.getfield 245, 3) := by decide +kernel
theorem d_Md_trial_49 : decode prog_14_method_47_code 49 = .ok (.iconst 1, 1) := by decide +kernel
theorem d_Md_trial_50 : decode prog_14_method_47_code 50 = .ok (.iadd, 1) := by decide +kernel
theorem d_Md_trial_51 : decode prog_14_method_47_code 51 = .ok (.putfield 245, 3) := by decide +kernel
theorem d_Md_trial_54 : decode prog_14_method_47_code 54 = .ok (.aload_n 0, 1) := by decide +kernel
theorem d_Md_trial_55 : decode prog_14_method_47_code 55 = .ok (.getfield 245, 3) := by decide +kernel
theorem d_Md_trial_58 : decode prog_14_method_47_code 58 = .ok (.iconst 1, 1) := by decide +kernel
theorem d_Md_trial_59 : decode prog_14_method_47_code 59 = .ok (.isub, 1) := by decide +kernel
theorem d_Md_trial_60 : decode prog_14_method_47_code 60 = .ok (.ireturn, 1) := by decide +kernel
abbrev S_Md_trial : Type := Nat × Nat × Int32 × Int32 × AM
noncomputable def T_Md_trial_0 (v0R : Nat) (v1I : Int32) (v2I : Int32) (σ : AM) : S_Md_trial ⊕ Option (Int32 × AM) :=
  gdT (okO σ v0R 12) <| letT (sI σ v0R 0 (0 : Int32)) fun σ2 => bndT (M_Md_isSet v0R v1I σ2) fun r4 σ5 => if r4 = 0 then (.inl (1, 0, 0, 0, σ5)) else (gdT (okO σ5 v0R 12) <| if (aI σ5 v0R 37) = (60 : Int32) then (.inl (1, 0, 0, 0, σ5)) else (gdT (okO σ5 (aR σ5 v0R 38) 101) <| gdT (inB (aI σ5 v0R 37) (aN σ5 (aR σ5 v0R 38))) <| letT (sI σ5 (aR σ5 v0R 38) (aI σ5 v0R 37).toNatClampNeg v1I) fun σ9 => gdT (okO σ9 (aR σ9 v0R 39) 103) <| gdT (inB (aI σ9 v0R 37) (aN σ9 (aR σ9 v0R 39))) <| letT (sI σ9 (aR σ9 v0R 39) (aI σ9 v0R 37).toNatClampNeg (vp_nar .boolean v2I)) fun σ13 => letT (sI σ13 v0R 37 ((aI σ13 v0R 37) + (1 : Int32))) fun σ15 => .inr (some (((aI σ15 v0R 37) - (1 : Int32)), σ15))))
noncomputable def T_Md_trial_1  (σ : AM) : S_Md_trial ⊕ Option (Int32 × AM) :=
  .inr (some (((-1) : Int32), σ))
noncomputable def F_Md_trial : S_Md_trial → S_Md_trial ⊕ Option (Int32 × AM) := fun s => match s.1 with
  | 0 => T_Md_trial_0 (s.2.1) (s.2.2.1) (s.2.2.2.1) (s.2.2.2.2)
  | _ => T_Md_trial_1  (s.2.2.2.2)
noncomputable def L_Md_trial_0 (v0R : Nat) (v1I : Int32) (v2I : Int32) (σ : AM) : Option (Int32 × AM) := lp F_Md_trial (0, v0R, v1I, v2I, σ)
noncomputable def L_Md_trial_1  (σ : AM) : Option (Int32 × AM) := lp F_Md_trial (1, 0, 0, 0, σ)
set_option maxRecDepth 20000 in
theorem E_Md_trial_0 (v0R : Nat) (v1I : Int32) (v2I : Int32) (σ : AM) : L_Md_trial_0 v0R v1I v2I σ = (gd (okO σ v0R 12) <| letT (sI σ v0R 0 (0 : Int32)) fun σ2 => bnd (M_Md_isSet v0R v1I σ2) fun r4 σ5 => if r4 = 0 then (L_Md_trial_1 σ5) else (gd (okO σ5 v0R 12) <| if (aI σ5 v0R 37) = (60 : Int32) then (L_Md_trial_1 σ5) else (gd (okO σ5 (aR σ5 v0R 38) 101) <| gd (inB (aI σ5 v0R 37) (aN σ5 (aR σ5 v0R 38))) <| letT (sI σ5 (aR σ5 v0R 38) (aI σ5 v0R 37).toNatClampNeg v1I) fun σ9 => gd (okO σ9 (aR σ9 v0R 39) 103) <| gd (inB (aI σ9 v0R 37) (aN σ9 (aR σ9 v0R 39))) <| letT (sI σ9 (aR σ9 v0R 39) (aI σ9 v0R 37).toNatClampNeg (vp_nar .boolean v2I)) fun σ13 => letT (sI σ13 v0R 37 ((aI σ13 v0R 37) + (1 : Int32))) fun σ15 => (some (((aI σ15 v0R 37) - (1 : Int32)), σ15))))) := by
  unfold L_Md_trial_0
  rw [lp_eq]
  show lpK (lp F_Md_trial) (T_Md_trial_0 v0R v1I v2I σ) = _
  unfold T_Md_trial_0
  simp only [lpK_ite, lq_inl, lq_inr, lpK_bnd, lpK_gd, lq_let]
  try rfl
set_option maxRecDepth 20000 in
theorem E_Md_trial_1  (σ : AM) : L_Md_trial_1  σ = ((some (((-1) : Int32), σ))) := by
  unfold L_Md_trial_1
  rw [lp_eq]
  show lpK (lp F_Md_trial) (T_Md_trial_1  σ) = _
  unfold T_Md_trial_1
  simp only [lpK_ite, lq_inl, lq_inr, lpK_bnd, lpK_gd, lq_let]
  try rfl
noncomputable def M_Md_trial (v0R : Nat) (v1I : Int32) (v2I : Int32) (σ : AM) : Option (Int32 × AM) := mw σ (L_Md_trial_0 v0R v1I v2I σ)
def I_Md_trial (G : GX) (p : Program) (l : Launch) (e : Env) (s : State) (m : MethodId) (args : Array Value) (below : List Frame) (meth : Method) (c : Code) (z0 u0 n : Nat) : Prop :=
  (∀ (v0R : Nat) (v1I : Int32) (v2I : Int32) (σ : AM), VX (QM eI G args s below z0 u0) G p l e s m args below meth c 2 z0 u0 3 (lpn F_Md_trial n (0, v0R, v1I, v2I, σ)) 0 [(0, .ref v0R), (1, .int v1I), (2, .int v2I)] [] σ) ∧
  (∀ (σ : AM), VX (QM eI G args s below z0 u0) G p l e s m args below meth c 2 z0 u0 3 (lpn F_Md_trial n (1, 0, 0, 0, σ)) 22 [] [] σ)
set_option maxRecDepth 20000 in
theorem s_Md_trial_0 {G : GX} {p : Program} {l : Launch} {e : Env} {s : State} {m : MethodId} {args : Array Value} {below : List Frame} {meth : Method} {c : Code} {z0 u0 n : Nat} (C : Cx G p s m args meth c prog_14_method_47_code 3 "BellPlateModel" ((some FieldType.int))) (IH : I_Md_trial G p l e s m args below meth c z0 u0 n) (v0R : Nat) (v1I : Int32) (v2I : Int32) (σ : AM) : VX (QM eI G args s below z0 u0) G p l e s m args below meth c 2 z0 u0 3 (lpK (lpn F_Md_trial n) (T_Md_trial_0 v0R v1I v2I σ)) 0 [(0, .ref v0R), (1, .int v1I), (2, .int v2I)] [] σ := by
  unfold T_Md_trial_0
  refine x_aload_n C d_Md_trial_0 0 rfl ?_
  refine x_iconst (v := (0 : Int32)) C d_Md_trial_1 (by decide) ?_
  refine x_gd (fun h1 => ?_)
  refine x_putI (k := 0) C (okO_iff.mp h1) rfl j11_ok y11_ok n11_ok (by decide) rfl rfl rfl rfl w1852 d_Md_trial_2 ?_
  refine x_letS (fun σ2 e3 => ?_)
  refine x_aload_n C d_Md_trial_5 0 rfl ?_
  refine x_iload_n C d_Md_trial_6 1 rfl ?_
  refine x_callVI (As := [.int v1I]) C (c_Md_isSet G l v0R v1I σ2) (by first | exact (okO_iff.mp h1) | (rw [e3]; exact (okO_iff.mp h1))) rfl w2194 w84 w2192 w2195 w134 k_Md_isSet rfl (by decide) (by decide) rfl (Nat.le_of_ble_eq_true rfl) d_Md_trial_7 (fun r4 σ5 => ?_)
  refine x_if_eq (tgt := 22) C d_Md_trial_10 (by decide) (fun _ => ?_) (fun _ => ?_)
  · refine x_lv [] rfl ?_
    exact IH.2  (σ5)
  · refine x_aload_n C d_Md_trial_13 0 rfl ?_
    refine x_gd (fun h6 => ?_)
    refine x_getI (k := 37) C (okO_iff.mp h6) rfl j11_ok (by decide) rfl w1889 d_Md_trial_14 ?_
    refine x_bipush (v := (60 : Int32)) C d_Md_trial_17 (by decide) ?_
    refine x_icmp_ne (tgt := 24) C d_Md_trial_19 (by decide) (fun _ => ?_) (fun _ => ?_)
    · refine x_lv [] rfl ?_
      exact IH.2  (σ5)
    · refine x_aload_n C d_Md_trial_24 0 rfl ?_
      refine x_gd (fun h7 => ?_)
      refine x_getR (k := 38) (kv := 101) C (okO_iff.mp h6) rfl j11_ok (by decide) rfl (okO_iff.mp h7) (by decide) w1890 d_Md_trial_25 ?_
      refine x_aload_n C d_Md_trial_28 0 rfl ?_
      refine x_getI (k := 37) C (okO_iff.mp h6) rfl j11_ok (by decide) rfl w1889 d_Md_trial_29 ?_
      refine x_iload_n C d_Md_trial_32 1 rfl ?_
      refine x_gd (fun h8 => ?_)
      refine x_astI C (okO_iff.mp h7) (inB_iff.mp h8) d_Md_trial_33 ?_
      refine x_letS (fun σ9 e10 => ?_)
      refine x_aload_n C d_Md_trial_34 0 rfl ?_
      refine x_gd (fun h11 => ?_)
      refine x_getR (k := 39) (kv := 103) C (by first | exact (okO_iff.mp h6) | (rw [e10]; exact (okO_iff.mp h6))) rfl j11_ok (by decide) rfl (okO_iff.mp h11) (by decide) w1891 d_Md_trial_35 ?_
      refine x_aload_n C d_Md_trial_38 0 rfl ?_
      refine x_getI (k := 37) C (by first | exact (okO_iff.mp h6) | (rw [e10]; exact (okO_iff.mp h6))) rfl j11_ok (by decide) rfl w1889 d_Md_trial_39 ?_
      refine x_iload_n C d_Md_trial_42 2 rfl ?_
      refine x_gd (fun h12 => ?_)
      refine x_astZ C (okO_iff.mp h11) (inB_iff.mp h12) d_Md_trial_43 ?_
      refine x_letS (fun σ13 e14 => ?_)
      refine x_aload_n C d_Md_trial_44 0 rfl ?_
      refine x_dup C d_Md_trial_45 rfl ?_
      refine x_getI (k := 37) C (by first | exact (okO_iff.mp h6) | (rw [e14, e10]; exact (okO_iff.mp h6))) rfl j11_ok (by decide) rfl w1889 d_Md_trial_46 ?_
      refine x_iconst (v := (1 : Int32)) C d_Md_trial_49 (by decide) ?_
      refine x_iadd C d_Md_trial_50 ?_
      refine x_putI (k := 37) C (by first | exact (okO_iff.mp h6) | (rw [e14, e10]; exact (okO_iff.mp h6))) rfl j11_ok y11_ok n11_ok (by decide) rfl rfl rfl rfl w1889 d_Md_trial_51 ?_
      refine x_letS (fun σ15 e16 => ?_)
      refine x_aload_n C d_Md_trial_54 0 rfl ?_
      refine x_getI (k := 37) C (by first | exact (okO_iff.mp h6) | (rw [e16, e14, e10]; exact (okO_iff.mp h6))) rfl j11_ok (by decide) rfl w1889 d_Md_trial_55 ?_
      refine x_iconst (v := (1 : Int32)) C d_Md_trial_58 (by decide) ?_
      refine x_isub C d_Md_trial_59 ?_
      exact x_iret C d_Md_trial_60
set_option maxRecDepth 20000 in
theorem s_Md_trial_1 {G : GX} {p : Program} {l : Launch} {e : Env} {s : State} {m : MethodId} {args : Array Value} {below : List Frame} {meth : Method} {c : Code} {z0 u0 n : Nat} (C : Cx G p s m args meth c prog_14_method_47_code 3 "BellPlateModel" ((some FieldType.int))) (IH : I_Md_trial G p l e s m args below meth c z0 u0 n)  (σ : AM) : VX (QM eI G args s below z0 u0) G p l e s m args below meth c 2 z0 u0 3 (lpK (lpn F_Md_trial n) (T_Md_trial_1  σ)) 22 [] [] σ := by
  unfold T_Md_trial_1
  refine x_iconst (v := ((-1) : Int32)) C d_Md_trial_22 (by decide) ?_
  exact x_iret C d_Md_trial_23
theorem i_Md_trial {G : GX} {p : Program} {l : Launch} {e : Env} {s : State} {m : MethodId} {args : Array Value} {below : List Frame} {meth : Method} {c : Code} {z0 u0 : Nat} (C : Cx G p s m args meth c prog_14_method_47_code 3 "BellPlateModel" ((some FieldType.int))) (n : Nat) : I_Md_trial G p l e s m args below meth c z0 u0 n := by
  induction n with
  | zero => exact ⟨fun _ _ _ _ => x_none, fun _ => x_none⟩
  | succ n IH => exact ⟨fun v0R v1I v2I σ => s_Md_trial_0 C IH v0R v1I v2I σ, fun σ => s_Md_trial_1 C IH σ⟩
theorem c_Md_trial (G : GX) (l : Launch) (v0R : Nat) (v1I : Int32) (v2I : Int32) (σ : AM) : CT eI G l 2 y_Md_trial prog_14_method_47_code 3 ((some FieldType.int)) [.ref v0R, .int v1I, .int v2I] σ (M_Md_trial v0R v1I v2I σ) := by
  refine ct_of (by decide +kernel) (Nat.le_of_ble_eq_true rfl) (fun p e s m args below meth c C hin => ?_)
  refine x_lve (lv' := [(0, .ref v0R), (1, .int v1I), (2, .int v2I)]) rfl ?_
  intro r σ' h
  obtain ⟨n, hn⟩ := (lp_iff _ _ _).mp h
  exact (i_Md_trial C n).1 v0R v1I v2I σ r σ' hn
/-! BellPlateModel.findMust()V -/
abbrev y_Md_findMust : MethodName := ⟨"BellPlateModel", "findMust", "()V"⟩
theorem k_Md_findMust : y_Md_findMust.cls ≠ "java/lang/invoke/MethodHandle" ∧ y_Md_findMust.cls ≠ "java/lang/invoke/VarHandle" ∧ (parseMethodDescriptor y_Md_findMust.desc).map (fun d => d.parameters.length) = some 0 := by decide +kernel
theorem d_Md_findMust_0 : decode prog_14_method_48_code 0 = .ok (.aload_n 0, 1) := by decide +kernel
theorem d_Md_findMust_1 : decode prog_14_method_48_code 1 = .ok (.lconst 0, 1) := by decide +kernel
theorem d_Md_findMust_2 : decode prog_14_method_48_code 2 = .ok (.putfield 343, 3) := by decide +kernel
theorem d_Md_findMust_5 : decode prog_14_method_48_code 5 = .ok (.aload_n 0, 1) := by decide +kernel
theorem d_Md_findMust_6 : decode prog_14_method_48_code 6 = .ok (.lconst 0, 1) := by decide +kernel
theorem d_Md_findMust_7 : decode prog_14_method_48_code 7 = .ok (.putfield 347, 3) := by decide +kernel
theorem d_Md_findMust_10 : decode prog_14_method_48_code 10 = .ok (.iconst 0, 1) := by decide +kernel
theorem d_Md_findMust_11 : decode prog_14_method_48_code 11 = .ok (.istore_n 1, 1) := by decide +kernel
theorem d_Md_findMust_12 : decode prog_14_method_48_code 12 = .ok (.iload_n 1, 1) := by decide +kernel
theorem d_Md_findMust_13 : decode prog_14_method_48_code 13 = .ok (.aload_n 0, 1) := by decide +kernel
theorem d_Md_findMust_14 : decode prog_14_method_48_code 14 = .ok (.getfield 245, 3) := by decide +kernel
theorem d_Md_findMust_17 : decode prog_14_method_48_code 17 = .ok (.if_icmp .ge 69, 3) := by decide +kernel
theorem d_Md_findMust_20 : decode prog_14_method_48_code 20 = .ok (.aload_n 0, 1) := by decide +kernel
theorem d_Md_findMust_21 : decode prog_14_method_48_code 21 = .ok (.dup, 1) := by decide +kernel
theorem d_Md_findMust_22 : decode prog_14_method_48_code 22 = .ok (.getfield 343, 3) := by decide +kernel
theorem d_Md_findMust_25 : decode prog_14_method_48_code 25 = .ok (.aload_n 0, 1) := by decide +kernel
theorem d_Md_findMust_26 : decode prog_14_method_48_code 26 = .ok (.getfield 107, 3) := by decide +kernel
theorem d_Md_findMust_29 : decode prog_14_method_48_code 29 = .ok (.iload_n 1, 1) := by decide +kernel
theorem d_Md_findMust_30 : decode prog_14_method_48_code 30 = .ok (.baload, 1) := by decide +kernel
theorem d_Md_findMust_31 : decode prog_14_method_48_code 31 = .ok (.ifCond .eq 14, 3) := by decide +kernel
theorem d_Md_findMust_34 : decode prog_14_method_48_code 34 = .ok (.lconst 1, 1) := by decide +kernel
theorem d_Md_findMust_35 : decode prog_14_method_48_code 35 = .ok (.aload_n 0, 1) := by decide +kernel
theorem d_Md_findMust_36 : decode prog_14_method_48_code 36 = .ok (.getfield 104, 3) := by decide +kernel
theorem d_Md_findMust_39 : decode prog_14_method_48_code 39 = .ok (.iload_n 1, 1) := by decide +kernel
theorem d_Md_findMust_40 : decode prog_14_method_48_code 40 = .ok (.iaload, 1) := by decide +kernel
theorem d_Md_findMust_41 : decode prog_14_method_48_code 41 = .ok (.lshl, 1) := by decide +kernel
theorem d_Md_findMust_42 : decode prog_14_method_48_code 42 = .ok (.goto 4, 3) := by decide +kernel
theorem d_Md_findMust_45 : decode prog_14_method_48_code 45 = .ok (.lconst 0, 1) := by decide +kernel
theorem d_Md_findMust_46 : decode prog_14_method_48_code 46 = .ok (.lor, 1) := by decide +kernel
theorem d_Md_findMust_47 : decode prog_14_method_48_code 47 = .ok (.putfield 343, 3) := by decide +kernel
theorem d_Md_findMust_50 : decode prog_14_method_48_code 50 = .ok (.aload_n 0, 1) := by decide +kernel
theorem d_Md_findMust_51 : decode prog_14_method_48_code 51 = .ok (.dup, 1) := by decide +kernel
theorem d_Md_findMust_52 : decode prog_14_method_48_code 52 = .ok (.getfield 347, 3) := by decide +kernel
theorem d_Md_findMust_55 : decode prog_14_method_48_code 55 = .ok (.aload_n 0, 1) := by decide +kernel
theorem d_Md_findMust_56 : decode prog_14_method_48_code 56 = .ok (.getfield 107, 3) := by decide +kernel
theorem d_Md_findMust_59 : decode prog_14_method_48_code 59 = .ok (.iload_n 1, 1) := by decide +kernel
theorem d_Md_findMust_60 : decode prog_14_method_48_code 60 = .ok (.baload, 1) := by decide +kernel
theorem d_Md_findMust_61 : decode prog_14_method_48_code 61 = .ok (.ifCond .eq 7, 3) := by decide +kernel
theorem d_Md_findMust_64 : decode prog_14_method_48_code 64 = .ok (.lconst 0, 1) := by decide +kernel
theorem d_Md_findMust_65 : decode prog_14_method_48_code 65 = .ok (.goto 11, 3) := by decide +kernel
theorem d_Md_findMust_68 : decode prog_14_method_48_code 68 = .ok (.lconst 1, 1) := by decide +kernel
theorem d_Md_findMust_69 : decode prog_14_method_48_code 69 = .ok (.aload_n 0, 1) := by decide +kernel
theorem d_Md_findMust_70 : decode prog_14_method_48_code 70 = .ok (.getfield 104, 3) := by decide +kernel
theorem d_Md_findMust_73 : decode prog_14_method_48_code 73 = .ok (.iload_n 1, 1) := by decide +kernel
theorem d_Md_findMust_74 : decode prog_14_method_48_code 74 = .ok (.iaload, 1) := by decide +kernel
theorem d_Md_findMust_75 : decode prog_14_method_48_code 75 = .ok (.lshl, 1) := by decide +kernel
theorem d_Md_findMust_76 : decode prog_14_method_48_code 76 = .ok (.lor, 1) := by decide +kernel
theorem d_Md_findMust_77 : decode prog_14_method_48_code 77 = .ok (.putfield 347, 3) := by decide +kernel
theorem d_Md_findMust_80 : decode prog_14_method_48_code 80 = .ok (.iinc 1 1, 3) := by decide +kernel
theorem d_Md_findMust_83 : decode prog_14_method_48_code 83 = .ok (.goto (-71), 3) := by decide +kernel
theorem d_Md_findMust_86 : decode prog_14_method_48_code 86 = .ok (.return_, 1) := by decide +kernel
abbrev S_Md_findMust : Type := Nat × Nat × Int32 × Nat × Int64 × Int64 × AM
noncomputable def T_Md_findMust_0 (v0R : Nat) (σ : AM) : S_Md_findMust ⊕ Option (Unit × AM) :=
  gdT (okO σ v0R 12) <| letT (sL σ v0R 40 (0 : Int64)) fun σ2 => letT (sL σ2 v0R 41 (0 : Int64)) fun σ4 => .inl (1, v0R, (0 : Int32), 0, 0, 0, σ4)
noncomputable def T_Md_findMust_1 (v0R : Nat) (v1I : Int32) (σ : AM) : S_Md_findMust ⊕ Option (Unit × AM) :=
  gdT (okO σ v0R 12) <| if v1I < (aI σ v0R 37) then (gdT (okO σ (aR σ v0R 39) 103) <| gdT (inB v1I (aN σ (aR σ v0R 39))) <| if (aI σ (aR σ v0R 39) v1I.toNatClampNeg) = 0 then (.inl (2, v0R, v1I, v0R, aL σ v0R 40, (0 : Int64), σ)) else (gdT (okO σ (aR σ v0R 38) 101) <| gdT (inB v1I (aN σ (aR σ v0R 38))) <| .inl (2, v0R, v1I, v0R, aL σ v0R 40, (1 : Int64) <<< ((aI σ (aR σ v0R 38) v1I.toNatClampNeg).toInt64 &&& 63), σ))) else (.inr (some ((), σ)))
noncomputable def T_Md_findMust_2 (v0R : Nat) (v1I : Int32) (s0R : Nat) (s1J : Int64) (s2J : Int64) (σ : AM) : S_Md_findMust ⊕ Option (Unit × AM) :=
  gdT (okO σ s0R 12) <| letT (sL σ s0R 40 (s1J ||| s2J)) fun σ2 => gdT (okO σ2 v0R 12) <| gdT (okO σ2 (aR σ2 v0R 39) 103) <| gdT (inB v1I (aN σ2 (aR σ2 v0R 39))) <| if (aI σ2 (aR σ2 v0R 39) v1I.toNatClampNeg) = 0 then (gdT (okO σ2 (aR σ2 v0R 38) 101) <| gdT (inB v1I (aN σ2 (aR σ2 v0R 38))) <| .inl (3, v0R, v1I, v0R, aL σ2 v0R 41, (1 : Int64) <<< ((aI σ2 (aR σ2 v0R 38) v1I.toNatClampNeg).toInt64 &&& 63), σ2)) else (.inl (3, v0R, v1I, v0R, aL σ2 v0R 41, (0 : Int64), σ2))
noncomputable def T_Md_findMust_3 (v0R : Nat) (v1I : Int32) (s0R : Nat) (s1J : Int64) (s2J : Int64) (σ : AM) : S_Md_findMust ⊕ Option (Unit × AM) :=
  gdT (okO σ s0R 12) <| letT (sL σ s0R 41 (s1J ||| s2J)) fun σ2 => .inl (1, v0R, v1I + (1 : Int32), 0, 0, 0, σ2)
noncomputable def F_Md_findMust : S_Md_findMust → S_Md_findMust ⊕ Option (Unit × AM) := fun s => match s.1 with
  | 0 => T_Md_findMust_0 (s.2.1) (s.2.2.2.2.2.2)
  | 1 => T_Md_findMust_1 (s.2.1) (s.2.2.1) (s.2.2.2.2.2.2)
  | 2 => T_Md_findMust_2 (s.2.1) (s.2.2.1) (s.2.2.2.1) (s.2.2.2.2.1) (s.2.2.2.2.2.1) (s.2.2.2.2.2.2)
  | _ => T_Md_findMust_3 (s.2.1) (s.2.2.1) (s.2.2.2.1) (s.2.2.2.2.1) (s.2.2.2.2.2.1) (s.2.2.2.2.2.2)
noncomputable def L_Md_findMust_0 (v0R : Nat) (σ : AM) : Option (Unit × AM) := lp F_Md_findMust (0, v0R, 0, 0, 0, 0, σ)
noncomputable def L_Md_findMust_1 (v0R : Nat) (v1I : Int32) (σ : AM) : Option (Unit × AM) := lp F_Md_findMust (1, v0R, v1I, 0, 0, 0, σ)
noncomputable def L_Md_findMust_2 (v0R : Nat) (v1I : Int32) (s0R : Nat) (s1J : Int64) (s2J : Int64) (σ : AM) : Option (Unit × AM) := lp F_Md_findMust (2, v0R, v1I, s0R, s1J, s2J, σ)
noncomputable def L_Md_findMust_3 (v0R : Nat) (v1I : Int32) (s0R : Nat) (s1J : Int64) (s2J : Int64) (σ : AM) : Option (Unit × AM) := lp F_Md_findMust (3, v0R, v1I, s0R, s1J, s2J, σ)
set_option maxRecDepth 20000 in
theorem E_Md_findMust_0 (v0R : Nat) (σ : AM) : L_Md_findMust_0 v0R σ = (gd (okO σ v0R 12) <| letT (sL σ v0R 40 (0 : Int64)) fun σ2 => letT (sL σ2 v0R 41 (0 : Int64)) fun σ4 => L_Md_findMust_1 v0R ((0 : Int32)) σ4) := by
  unfold L_Md_findMust_0
  rw [lp_eq]
  show lpK (lp F_Md_findMust) (T_Md_findMust_0 v0R σ) = _
  unfold T_Md_findMust_0
  simp only [lpK_ite, lq_inl, lq_inr, lpK_bnd, lpK_gd, lq_let]
  try rfl
set_option maxRecDepth 20000 in
theorem E_Md_findMust_1 (v0R : Nat) (v1I : Int32) (σ : AM) : L_Md_findMust_1 v0R v1I σ = (gd (okO σ v0R 12) <| if v1I < (aI σ v0R 37) then (gd (okO σ (aR σ v0R 39) 103) <| gd (inB v1I (aN σ (aR σ v0R 39))) <| if (aI σ (aR σ v0R 39) v1I.toNatClampNeg) = 0 then (L_Md_findMust_2 v0R v1I v0R (aL σ v0R 40) ((0 : Int64)) σ) else (gd (okO σ (aR σ v0R 38) 101) <| gd (inB v1I (aN σ (aR σ v0R 38))) <| L_Md_findMust_2 v0R v1I v0R (aL σ v0R 40) ((1 : Int64) <<< ((aI σ (aR σ v0R 38) v1I.toNatClampNeg).toInt64 &&& 63)) σ)) else ((some ((), σ)))) := by
  unfold L_Md_findMust_1
  rw [lp_eq]
  show lpK (lp F_Md_findMust) (T_Md_findMust_1 v0R v1I σ) = _
  unfold T_Md_findMust_1
  simp only [lpK_ite, lq_inl, lq_inr, lpK_bnd, lpK_gd, lq_let]
  try rfl
set_option maxRecDepth 20000 in
theorem E_Md_findMust_2 (v0R : Nat) (v1I : Int32) (s0R : Nat) (s1J : Int64) (s2J : Int64) (σ : AM) : L_Md_findMust_2 v0R v1I s0R s1J s2J σ = (gd (okO σ s0R 12) <| letT (sL σ s0R 40 (s1J ||| s2J)) fun σ2 => gd (okO σ2 v0R 12) <| gd (okO σ2 (aR σ2 v0R 39) 103) <| gd (inB v1I (aN σ2 (aR σ2 v0R 39))) <| if (aI σ2 (aR σ2 v0R 39) v1I.toNatClampNeg) = 0 then (gd (okO σ2 (aR σ2 v0R 38) 101) <| gd (inB v1I (aN σ2 (aR σ2 v0R 38))) <| L_Md_findMust_3 v0R v1I v0R (aL σ2 v0R 41) ((1 : Int64) <<< ((aI σ2 (aR σ2 v0R 38) v1I.toNatClampNeg).toInt64 &&& 63)) σ2) else (L_Md_findMust_3 v0R v1I v0R (aL σ2 v0R 41) ((0 : Int64)) σ2)) := by
  unfold L_Md_findMust_2
  rw [lp_eq]
  show lpK (lp F_Md_findMust) (T_Md_findMust_2 v0R v1I s0R s1J s2J σ) = _
  unfold T_Md_findMust_2
  simp only [lpK_ite, lq_inl, lq_inr, lpK_bnd, lpK_gd, lq_let]
  try rfl
set_option maxRecDepth 20000 in
theorem E_Md_findMust_3 (v0R : Nat) (v1I : Int32) (s0R : Nat) (s1J : Int64) (s2J : Int64) (σ : AM) : L_Md_findMust_3 v0R v1I s0R s1J s2J σ = (gd (okO σ s0R 12) <| letT (sL σ s0R 41 (s1J ||| s2J)) fun σ2 => L_Md_findMust_1 v0R (v1I + (1 : Int32)) σ2) := by
  unfold L_Md_findMust_3
  rw [lp_eq]
  show lpK (lp F_Md_findMust) (T_Md_findMust_3 v0R v1I s0R s1J s2J σ) = _
  unfold T_Md_findMust_3
  simp only [lpK_ite, lq_inl, lq_inr, lpK_bnd, lpK_gd, lq_let]
  try rfl
noncomputable def M_Md_findMust (v0R : Nat) (σ : AM) : Option (Unit × AM) := mw σ (L_Md_findMust_0 v0R σ)
def I_Md_findMust (G : GX) (p : Program) (l : Launch) (e : Env) (s : State) (m : MethodId) (args : Array Value) (below : List Frame) (meth : Method) (c : Code) (z0 u0 n : Nat) : Prop :=
  (∀ (v0R : Nat) (σ : AM), VX (QM eV G args s below z0 u0) G p l e s m args below meth c 0 z0 u0 2 (lpn F_Md_findMust n (0, v0R, 0, 0, 0, 0, σ)) 0 [(0, .ref v0R)] [] σ) ∧
  (∀ (v0R : Nat) (v1I : Int32) (σ : AM), VX (QM eV G args s below z0 u0) G p l e s m args below meth c 0 z0 u0 2 (lpn F_Md_findMust n (1, v0R, v1I, 0, 0, 0, σ)) 12 [(0, .ref v0R), (1, .int v1I)] [] σ) ∧
  (∀ (v0R : Nat) (v1I : Int32) (s0R : Nat) (s1J : Int64) (s2J : Int64) (σ : AM), VX (QM eV G args s below z0 u0) G p l e s m args below meth c 0 z0 u0 2 (lpn F_Md_findMust n (2, v0R, v1I, s0R, s1J, s2J, σ)) 46 [(0, .ref v0R), (1, .int v1I)] [.long s2J, .long s1J, .ref s0R] σ) ∧
  (∀ (v0R : Nat) (v1I : Int32) (s0R : Nat) (s1J : Int64) (s2J : Int64) (σ : AM), VX (QM eV G args s below z0 u0) G p l e s m args below meth c 0 z0 u0 2 (lpn F_Md_findMust n (3, v0R, v1I, s0R, s1J, s2J, σ)) 76 [(0, .ref v0R), (1, .int v1I)] [.long s2J, .long s1J, .ref s0R] σ)
set_option maxRecDepth 20000 in
theorem s_Md_findMust_0 {G : GX} {p : Program} {l : Launch} {e : Env} {s : State} {m : MethodId} {args : Array Value} {below : List Frame} {meth : Method} {c : Code} {z0 u0 n : Nat} (C : Cx G p s m args meth c prog_14_method_48_code 2 "BellPlateModel" ((none))) (IH : I_Md_findMust G p l e s m args below meth c z0 u0 n) (v0R : Nat) (σ : AM) : VX (QM eV G args s below z0 u0) G p l e s m args below meth c 0 z0 u0 2 (lpK (lpn F_Md_findMust n) (T_Md_findMust_0 v0R σ)) 0 [(0, .ref v0R)] [] σ := by
  unfold T_Md_findMust_0
  refine x_aload_n C d_Md_findMust_0 0 rfl ?_
  refine x_lconst (v := (0 : Int64)) C d_Md_findMust_1 (by decide) ?_
  refine x_gd (fun h1 => ?_)
  refine x_putJ (k := 40) C (okO_iff.mp h1) rfl j11_ok y11_ok n11_ok (by decide) rfl rfl rfl rfl w1892 d_Md_findMust_2 ?_
  refine x_letS (fun σ2 e3 => ?_)
  refine x_aload_n C d_Md_findMust_5 0 rfl ?_
  refine x_lconst (v := (0 : Int64)) C d_Md_findMust_6 (by decide) ?_
  refine x_putJ (k := 41) C (by first | exact (okO_iff.mp h1) | (rw [e3]; exact (okO_iff.mp h1))) rfl j11_ok y11_ok n11_ok (by decide) rfl rfl rfl rfl w1893 d_Md_findMust_7 ?_
  refine x_letS (fun σ4 e5 => ?_)
  refine x_iconst (v := (0 : Int32)) C d_Md_findMust_10 (by decide) ?_
  refine x_istore_n (lv' := [(1, .int (0 : Int32)), (0, .ref v0R)]) C d_Md_findMust_11 (by decide) rfl rfl ?_
  refine x_lv [1, 0] rfl ?_
  exact IH.2.1 v0R ((0 : Int32)) (σ4)
set_option maxRecDepth 20000 in
theorem s_Md_findMust_1 {G : GX} {p : Program} {l : Launch} {e : Env} {s : State} {m : MethodId} {args : Array Value} {below : List Frame} {meth : Method} {c : Code} {z0 u0 n : Nat} (C : Cx G p s m args meth c prog_14_method_48_code 2 "BellPlateModel" ((none))) (IH : I_Md_findMust G p l e s m args below meth c z0 u0 n) (v0R : Nat) (v1I : Int32) (σ : AM) : VX (QM eV G args s below z0 u0) G p l e s m args below meth c 0 z0 u0 2 (lpK (lpn F_Md_findMust n) (T_Md_findMust_1 v0R v1I σ)) 12 [(0, .ref v0R), (1, .int v1I)] [] σ := by
  unfold T_Md_findMust_1
  refine x_iload_n C d_Md_findMust_12 1 rfl ?_
  refine x_aload_n C d_Md_findMust_13 0 rfl ?_
  refine x_gd (fun h1 => ?_)
  refine x_getI (k := 37) C (okO_iff.mp h1) rfl j11_ok (by decide) rfl w1889 d_Md_findMust_14 ?_
  refine x_icmp_ge (tgt := 86) C d_Md_findMust_17 (by decide) (fun _ => ?_) (fun _ => ?_)
  · refine x_aload_n C d_Md_findMust_20 0 rfl ?_
    refine x_dup C d_Md_findMust_21 rfl ?_
    refine x_getJ (k := 40) C (okO_iff.mp h1) rfl j11_ok (by decide) rfl w1892 d_Md_findMust_22 ?_
    refine x_aload_n C d_Md_findMust_25 0 rfl ?_
    refine x_gd (fun h2 => ?_)
    refine x_getR (k := 39) (kv := 103) C (okO_iff.mp h1) rfl j11_ok (by decide) rfl (okO_iff.mp h2) (by decide) w1891 d_Md_findMust_26 ?_
    refine x_iload_n C d_Md_findMust_29 1 rfl ?_
    refine x_gd (fun h3 => ?_)
    refine x_aldZ C (okO_iff.mp h2) (inB_iff.mp h3) d_Md_findMust_30 ?_
    refine x_if_eq (tgt := 45) C d_Md_findMust_31 (by decide) (fun _ => ?_) (fun _ => ?_)
    · refine x_lconst (v := (0 : Int64)) C d_Md_findMust_45 (by decide) ?_
      exact IH.2.2.1 v0R v1I v0R (aL σ v0R 40) ((0 : Int64)) (σ)
    · refine x_lconst (v := (1 : Int64)) C d_Md_findMust_34 (by decide) ?_
      refine x_aload_n C d_Md_findMust_35 0 rfl ?_
      refine x_gd (fun h4 => ?_)
      refine x_getR (k := 38) (kv := 101) C (okO_iff.mp h1) rfl j11_ok (by decide) rfl (okO_iff.mp h4) (by decide) w1890 d_Md_findMust_36 ?_
      refine x_iload_n C d_Md_findMust_39 1 rfl ?_
      refine x_gd (fun h5 => ?_)
      refine x_aldI C (okO_iff.mp h4) (inB_iff.mp h5) d_Md_findMust_40 ?_
      refine x_lshl C d_Md_findMust_41 ?_
      refine x_goto (tgt := 46) C d_Md_findMust_42 (by decide) ?_
      exact IH.2.2.1 v0R v1I v0R (aL σ v0R 40) ((1 : Int64) <<< ((aI σ (aR σ v0R 38) v1I.toNatClampNeg).toInt64 &&& 63)) (σ)
  · exact x_vret C d_Md_findMust_86
set_option maxRecDepth 20000 in
theorem s_Md_findMust_2 {G : GX} {p : Program} {l : Launch} {e : Env} {s : State} {m : MethodId} {args : Array Value} {below : List Frame} {meth : Method} {c : Code} {z0 u0 n : Nat} (C : Cx G p s m args meth c prog_14_method_48_code 2 "BellPlateModel" ((none))) (IH : I_Md_findMust G p l e s m args below meth c z0 u0 n) (v0R : Nat) (v1I : Int32) (s0R : Nat) (s1J : Int64) (s2J : Int64) (σ : AM) : VX (QM eV G args s below z0 u0) G p l e s m args below meth c 0 z0 u0 2 (lpK (lpn F_Md_findMust n) (T_Md_findMust_2 v0R v1I s0R s1J s2J σ)) 46 [(0, .ref v0R), (1, .int v1I)] [.long s2J, .long s1J, .ref s0R] σ := by
  unfold T_Md_findMust_2
  refine x_lor C d_Md_findMust_46 ?_
  refine x_gd (fun h1 => ?_)
  refine x_putJ (k := 40) C (okO_iff.mp h1) rfl j11_ok y11_ok n11_ok (by decide) rfl rfl rfl rfl w1892 d_Md_findMust_47 ?_
  refine x_letS (fun σ2 e3 => ?_)
  refine x_aload_n C d_Md_findMust_50 0 rfl ?_
  refine x_dup C d_Md_findMust_51 rfl ?_
  refine x_gd (fun h4 => ?_)
  refine x_getJ (k := 41) C (okO_iff.mp h4) rfl j11_ok (by decide) rfl w1893 d_Md_findMust_52 ?_
  refine x_aload_n C d_Md_findMust_55 0 rfl ?_
  refine x_gd (fun h5 => ?_)
  refine x_getR (k := 39) (kv := 103) C (okO_iff.mp h4) rfl j11_ok (by decide) rfl (okO_iff.mp h5) (by decide) w1891 d_Md_findMust_56 ?_
  refine x_iload_n C d_Md_findMust_59 1 rfl ?_
  refine x_gd (fun h6 => ?_)
  refine x_aldZ C (okO_iff.mp h5) (inB_iff.mp h6) d_Md_findMust_60 ?_
  refine x_if_eq (tgt := 68) C d_Md_findMust_61 (by decide) (fun _ => ?_) (fun _ => ?_)
  · refine x_lconst (v := (1 : Int64)) C d_Md_findMust_68 (by decide) ?_
    refine x_aload_n C d_Md_findMust_69 0 rfl ?_
    refine x_gd (fun h7 => ?_)
    refine x_getR (k := 38) (kv := 101) C (okO_iff.mp h4) rfl j11_ok (by decide) rfl (okO_iff.mp h7) (by decide) w1890 d_Md_findMust_70 ?_
    refine x_iload_n C d_Md_findMust_73 1 rfl ?_
    refine x_gd (fun h8 => ?_)
    refine x_aldI C (okO_iff.mp h7) (inB_iff.mp h8) d_Md_findMust_74 ?_
    refine x_lshl C d_Md_findMust_75 ?_
    exact IH.2.2.2 v0R v1I v0R (aL σ2 v0R 41) ((1 : Int64) <<< ((aI σ2 (aR σ2 v0R 38) v1I.toNatClampNeg).toInt64 &&& 63)) (σ2)
  · refine x_lconst (v := (0 : Int64)) C d_Md_findMust_64 (by decide) ?_
    refine x_goto (tgt := 76) C d_Md_findMust_65 (by decide) ?_
    exact IH.2.2.2 v0R v1I v0R (aL σ2 v0R 41) ((0 : Int64)) (σ2)
set_option maxRecDepth 20000 in
theorem s_Md_findMust_3 {G : GX} {p : Program} {l : Launch} {e : Env} {s : State} {m : MethodId} {args : Array Value} {below : List Frame} {meth : Method} {c : Code} {z0 u0 n : Nat} (C : Cx G p s m args meth c prog_14_method_48_code 2 "BellPlateModel" ((none))) (IH : I_Md_findMust G p l e s m args below meth c z0 u0 n) (v0R : Nat) (v1I : Int32) (s0R : Nat) (s1J : Int64) (s2J : Int64) (σ : AM) : VX (QM eV G args s below z0 u0) G p l e s m args below meth c 0 z0 u0 2 (lpK (lpn F_Md_findMust n) (T_Md_findMust_3 v0R v1I s0R s1J s2J σ)) 76 [(0, .ref v0R), (1, .int v1I)] [.long s2J, .long s1J, .ref s0R] σ := by
  unfold T_Md_findMust_3
  refine x_lor C d_Md_findMust_76 ?_
  refine x_gd (fun h1 => ?_)
  refine x_putJ (k := 41) C (okO_iff.mp h1) rfl j11_ok y11_ok n11_ok (by decide) rfl rfl rfl rfl w1893 d_Md_findMust_77 ?_
  refine x_letS (fun σ2 e3 => ?_)
  refine x_iinc (v := v1I + (1 : Int32)) (lv' := [(1, .int (v1I + (1 : Int32))), (0, .ref v0R)]) C d_Md_findMust_80 1 rfl rfl (by decide) rfl ?_
  refine x_goto (tgt := 12) C d_Md_findMust_83 (by decide) ?_
  refine x_lv [1, 0] rfl ?_
  exact IH.2.1 v0R (v1I + (1 : Int32)) (σ2)
theorem i_Md_findMust {G : GX} {p : Program} {l : Launch} {e : Env} {s : State} {m : MethodId} {args : Array Value} {below : List Frame} {meth : Method} {c : Code} {z0 u0 : Nat} (C : Cx G p s m args meth c prog_14_method_48_code 2 "BellPlateModel" ((none))) (n : Nat) : I_Md_findMust G p l e s m args below meth c z0 u0 n := by
  induction n with
  | zero => exact ⟨fun _ _ => x_none, fun _ _ _ => x_none, fun _ _ _ _ _ _ => x_none, fun _ _ _ _ _ _ => x_none⟩
  | succ n IH => exact ⟨fun v0R σ => s_Md_findMust_0 C IH v0R σ, fun v0R v1I σ => s_Md_findMust_1 C IH v0R v1I σ, fun v0R v1I s0R s1J s2J σ => s_Md_findMust_2 C IH v0R v1I s0R s1J s2J σ, fun v0R v1I s0R s1J s2J σ => s_Md_findMust_3 C IH v0R v1I s0R s1J s2J σ⟩
theorem c_Md_findMust (G : GX) (l : Launch) (v0R : Nat) (σ : AM) : CT eV G l 0 y_Md_findMust prog_14_method_48_code 2 (none) [.ref v0R] σ (M_Md_findMust v0R σ) := by
  refine ct_of (by decide +kernel) (Nat.le_of_ble_eq_true rfl) (fun p e s m args below meth c C hin => ?_)
  refine x_lve (lv' := [(0, .ref v0R)]) rfl ?_
  intro r σ' h
  obtain ⟨n, hn⟩ := (lp_iff _ _ _).mp h
  exact (i_Md_findMust C n).1 v0R σ r σ' hn
/-! BellPlateModel.fits(J)Z -/
abbrev y_Md_fits : MethodName := ⟨"BellPlateModel", "fits", "(J)Z"⟩
theorem k_Md_fits : y_Md_fits.cls ≠ "java/lang/invoke/MethodHandle" ∧ y_Md_fits.cls ≠ "java/lang/invoke/VarHandle" ∧ (parseMethodDescriptor y_Md_fits.desc).map (fun d => d.parameters.length) = some 1 := by decide +kernel
theorem d_Md_fits_0 : decode prog_14_method_49_code 0 = .ok (.lload_n 1, 1) := by decide +kernel
theorem d_Md_fits_1 : decode prog_14_method_49_code 1 = .ok (.aload_n 0, 1) := by decide +kernel
theorem d_Md_fits_2 : decode prog_14_method_49_code 2 = .ok (.getfield 343, 3) := by decide +kernel
theorem d_Md_fits_5 : decode prog_14_method_49_code 5 = .ok (.land, 1) := by decide +kernel
theorem d_Md_fits_6 : decode prog_14_method_49_code 6 = .ok (.aload_n 0, 1) := by decide +kernel
theorem d_Md_fits_7 : decode prog_14_method_49_code 7 = .ok (.getfield 343, 3) := by decide +kernel
theorem d_Md_fits_10 : decode prog_14_method_49_code 10 = .ok (.lcmp, 1) := by decide +kernel
theorem d_Md_fits_11 : decode prog_14_method_49_code 11 = .ok (.ifCond .ne 18, 3) := by decide +kernel
theorem d_Md_fits_14 : decode prog_14_method_49_code 14 = .ok (.lload_n 1, 1) := by decide +kernel
theorem d_Md_fits_15 : decode prog_14_method_49_code 15 = .ok (.aload_n 0, 1) := by decide +kernel
theorem d_Md_fits_16 : decode prog_14_method_49_code 16 = .ok (.getfield 347, 3) := by decide +kernel
theorem d_Md_fits_19 : decode prog_14_method_49_code 19 = .ok (.land, 1) := by decide +kernel
theorem d_Md_fits_20 : decode prog_14_method_49_code 20 = .ok (.lconst 0, 1) := by decide +kernel
theorem d_Md_fits_21 : decode prog_14_method_49_code 21 = .ok (.lcmp, 1) := by decide +kernel
theorem d_Md_fits_22 : decode prog_14_method_49_code 22 = .ok (.ifCond .ne 7, 3) := by decide +kernel
theorem d_Md_fits_25 : decode prog_14_method_49_code 25 = .ok (.iconst 1, 1) := by decide +kernel
theorem d_Md_fits_26 : decode prog_14_method_49_code 26 = .ok (.goto 4, 3) := by decide +kernel
theorem d_Md_fits_29 : decode prog_14_method_49_code 29 = .ok (.iconst 0, 1) := by decide +kernel
theorem d_Md_fits_30 : decode prog_14_method_49_code 30 = .ok (.ireturn, 1) := by decide +kernel
abbrev S_Md_fits : Type := Nat × Nat × Int64 × Int32 × AM
noncomputable def T_Md_fits_0 (v0R : Nat) (v1J : Int64) (σ : AM) : S_Md_fits ⊕ Option (Int32 × AM) :=
  gdT (okO σ v0R 12) <| if (lg_cmp (v1J &&& (aL σ v0R 40)) (aL σ v0R 40)) = 0 then (if (lg_cmp (v1J &&& (aL σ v0R 41)) (0 : Int64)) = 0 then (.inl (2, 0, 0, (1 : Int32), σ)) else (.inl (1, 0, 0, 0, σ))) else (.inl (1, 0, 0, 0, σ))
noncomputable def T_Md_fits_1  (σ : AM) : S_Md_fits ⊕ Option (Int32 × AM) :=
  .inl (2, 0, 0, (0 : Int32), σ)
noncomputable def T_Md_fits_2 (s0I : Int32) (σ : AM) : S_Md_fits ⊕ Option (Int32 × AM) :=
  gdT (isB s0I) <| .inr (some (s0I, σ))
noncomputable def F_Md_fits : S_Md_fits → S_Md_fits ⊕ Option (Int32 × AM) := fun s => match s.1 with
  | 0 => T_Md_fits_0 (s.2.1) (s.2.2.1) (s.2.2.2.2)
  | 1 => T_Md_fits_1  (s.2.2.2.2)
  | _ => T_Md_fits_2 (s.2.2.2.1) (s.2.2.2.2)
noncomputable def L_Md_fits_0 (v0R : Nat) (v1J : Int64) (σ : AM) : Option (Int32 × AM) := lp F_Md_fits (0, v0R, v1J, 0, σ)
noncomputable def L_Md_fits_1  (σ : AM) : Option (Int32 × AM) := lp F_Md_fits (1, 0, 0, 0, σ)
noncomputable def L_Md_fits_2 (s0I : Int32) (σ : AM) : Option (Int32 × AM) := lp F_Md_fits (2, 0, 0, s0I, σ)
set_option maxRecDepth 20000 in
theorem E_Md_fits_0 (v0R : Nat) (v1J : Int64) (σ : AM) : L_Md_fits_0 v0R v1J σ = (gd (okO σ v0R 12) <| if (lg_cmp (v1J &&& (aL σ v0R 40)) (aL σ v0R 40)) = 0 then (if (lg_cmp (v1J &&& (aL σ v0R 41)) (0 : Int64)) = 0 then (L_Md_fits_2 ((1 : Int32)) σ) else (L_Md_fits_1 σ)) else (L_Md_fits_1 σ)) := by
  unfold L_Md_fits_0
  rw [lp_eq]
  show lpK (lp F_Md_fits) (T_Md_fits_0 v0R v1J σ) = _
  unfold T_Md_fits_0
  simp only [lpK_ite, lq_inl, lq_inr, lpK_bnd, lpK_gd, lq_let]
  try rfl
set_option maxRecDepth 20000 in
theorem E_Md_fits_1  (σ : AM) : L_Md_fits_1  σ = (L_Md_fits_2 ((0 : Int32)) σ) := by
  unfold L_Md_fits_1
  rw [lp_eq]
  show lpK (lp F_Md_fits) (T_Md_fits_1  σ) = _
  unfold T_Md_fits_1
  simp only [lpK_ite, lq_inl, lq_inr, lpK_bnd, lpK_gd, lq_let]
  try rfl
set_option maxRecDepth 20000 in
theorem E_Md_fits_2 (s0I : Int32) (σ : AM) : L_Md_fits_2 s0I σ = (gd (isB s0I) <| (some (s0I, σ))) := by
  unfold L_Md_fits_2
  rw [lp_eq]
  show lpK (lp F_Md_fits) (T_Md_fits_2 s0I σ) = _
  unfold T_Md_fits_2
  simp only [lpK_ite, lq_inl, lq_inr, lpK_bnd, lpK_gd, lq_let]
  try rfl
noncomputable def M_Md_fits (v0R : Nat) (v1J : Int64) (σ : AM) : Option (Int32 × AM) := mw σ (L_Md_fits_0 v0R v1J σ)
def I_Md_fits (G : GX) (p : Program) (l : Launch) (e : Env) (s : State) (m : MethodId) (args : Array Value) (below : List Frame) (meth : Method) (c : Code) (z0 u0 n : Nat) : Prop :=
  (∀ (v0R : Nat) (v1J : Int64) (σ : AM), VX (QM eI G args s below z0 u0) G p l e s m args below meth c 0 z0 u0 3 (lpn F_Md_fits n (0, v0R, v1J, 0, σ)) 0 [(0, .ref v0R), (1, .long v1J)] [] σ) ∧
  (∀ (σ : AM), VX (QM eI G args s below z0 u0) G p l e s m args below meth c 0 z0 u0 3 (lpn F_Md_fits n (1, 0, 0, 0, σ)) 29 [] [] σ) ∧
  (∀ (s0I : Int32) (σ : AM), VX (QM eI G args s below z0 u0) G p l e s m args below meth c 0 z0 u0 3 (lpn F_Md_fits n (2, 0, 0, s0I, σ)) 30 [] [.int s0I] σ)
set_option maxRecDepth 20000 in
theorem s_Md_fits_0 {G : GX} {p : Program} {l : Launch} {e : Env} {s : State} {m : MethodId} {args : Array Value} {below : List Frame} {meth : Method} {c : Code} {z0 u0 n : Nat} (C : Cx G p s m args meth c prog_14_method_49_code 3 "BellPlateModel" ((some FieldType.boolean))) (IH : I_Md_fits G p l e s m args below meth c z0 u0 n) (v0R : Nat) (v1J : Int64) (σ : AM) : VX (QM eI G args s below z0 u0) G p l e s m args below meth c 0 z0 u0 3 (lpK (lpn F_Md_fits n) (T_Md_fits_0 v0R v1J σ)) 0 [(0, .ref v0R), (1, .long v1J)] [] σ := by
  unfold T_Md_fits_0
  refine x_lload_n C d_Md_fits_0 1 rfl ?_
  refine x_aload_n C d_Md_fits_1 0 rfl ?_
  refine x_gd (fun h1 => ?_)
  refine x_getJ (k := 40) C (okO_iff.mp h1) rfl j11_ok (by decide) rfl w1892 d_Md_fits_2 ?_
  refine x_land C d_Md_fits_5 ?_
  refine x_aload_n C d_Md_fits_6 0 rfl ?_
  refine x_getJ (k := 40) C (okO_iff.mp h1) rfl j11_ok (by decide) rfl w1892 d_Md_fits_7 ?_
  refine x_lcmp C d_Md_fits_10 ?_
  refine x_if_ne (tgt := 29) C d_Md_fits_11 (by decide) (fun _ => ?_) (fun _ => ?_)
  · refine x_lload_n C d_Md_fits_14 1 rfl ?_
    refine x_aload_n C d_Md_fits_15 0 rfl ?_
    refine x_getJ (k := 41) C (okO_iff.mp h1) rfl j11_ok (by decide) rfl w1893 d_Md_fits_16 ?_
    refine x_land C d_Md_fits_19 ?_
    refine x_lconst (v := (0 : Int64)) C d_Md_fits_20 (by decide) ?_
    refine x_lcmp C d_Md_fits_21 ?_
    refine x_if_ne (tgt := 29) C d_Md_fits_22 (by decide) (fun _ => ?_) (fun _ => ?_)
    · refine x_iconst (v := (1 : Int32)) C d_Md_fits_25 (by decide) ?_
      refine x_goto (tgt := 30) C d_Md_fits_26 (by decide) ?_
      refine x_lv [] rfl ?_
      exact IH.2.2 ((1 : Int32)) (σ)
    · refine x_lv [] rfl ?_
      exact IH.2.1  (σ)
  · refine x_lv [] rfl ?_
    exact IH.2.1  (σ)
set_option maxRecDepth 20000 in
theorem s_Md_fits_1 {G : GX} {p : Program} {l : Launch} {e : Env} {s : State} {m : MethodId} {args : Array Value} {below : List Frame} {meth : Method} {c : Code} {z0 u0 n : Nat} (C : Cx G p s m args meth c prog_14_method_49_code 3 "BellPlateModel" ((some FieldType.boolean))) (IH : I_Md_fits G p l e s m args below meth c z0 u0 n)  (σ : AM) : VX (QM eI G args s below z0 u0) G p l e s m args below meth c 0 z0 u0 3 (lpK (lpn F_Md_fits n) (T_Md_fits_1  σ)) 29 [] [] σ := by
  unfold T_Md_fits_1
  refine x_iconst (v := (0 : Int32)) C d_Md_fits_29 (by decide) ?_
  exact IH.2.2 ((0 : Int32)) (σ)
set_option maxRecDepth 20000 in
theorem s_Md_fits_2 {G : GX} {p : Program} {l : Launch} {e : Env} {s : State} {m : MethodId} {args : Array Value} {below : List Frame} {meth : Method} {c : Code} {z0 u0 n : Nat} (C : Cx G p s m args meth c prog_14_method_49_code 3 "BellPlateModel" ((some FieldType.boolean))) (IH : I_Md_fits G p l e s m args below meth c z0 u0 n) (s0I : Int32) (σ : AM) : VX (QM eI G args s below z0 u0) G p l e s m args below meth c 0 z0 u0 3 (lpK (lpn F_Md_fits n) (T_Md_fits_2 s0I σ)) 30 [] [.int s0I] σ := by
  unfold T_Md_fits_2
  refine x_gd (fun h1 => ?_)
  exact x_zret C (isB_narrow h1) d_Md_fits_30
theorem i_Md_fits {G : GX} {p : Program} {l : Launch} {e : Env} {s : State} {m : MethodId} {args : Array Value} {below : List Frame} {meth : Method} {c : Code} {z0 u0 : Nat} (C : Cx G p s m args meth c prog_14_method_49_code 3 "BellPlateModel" ((some FieldType.boolean))) (n : Nat) : I_Md_fits G p l e s m args below meth c z0 u0 n := by
  induction n with
  | zero => exact ⟨fun _ _ _ => x_none, fun _ => x_none, fun _ _ => x_none⟩
  | succ n IH => exact ⟨fun v0R v1J σ => s_Md_fits_0 C IH v0R v1J σ, fun σ => s_Md_fits_1 C IH σ, fun s0I σ => s_Md_fits_2 C IH s0I σ⟩
theorem c_Md_fits (G : GX) (l : Launch) (v0R : Nat) (v1J : Int64) (σ : AM) : CT eI G l 0 y_Md_fits prog_14_method_49_code 3 ((some FieldType.boolean)) [.ref v0R, .long v1J] σ (M_Md_fits v0R v1J σ) := by
  refine ct_of (by decide +kernel) (Nat.le_of_ble_eq_true rfl) (fun p e s m args below meth c C hin => ?_)
  refine x_lve (lv' := [(0, .ref v0R), (1, .long v1J)]) rfl ?_
  intro r σ' h
  obtain ⟨n, hn⟩ := (lp_iff _ _ _).mp h
  exact (i_Md_fits C n).1 v0R v1J σ r σ' hn
/-! BellPlateModel.hint(II)I -/
abbrev y_Md_hint : MethodName := ⟨"BellPlateModel", "hint", "(II)I"⟩
theorem k_Md_hint : y_Md_hint.cls ≠ "java/lang/invoke/MethodHandle" ∧ y_Md_hint.cls ≠ "java/lang/invoke/VarHandle" ∧ (parseMethodDescriptor y_Md_hint.desc).map (fun d => d.parameters.length) = some 2 := by decide +kernel
theorem d_Md_hint_0 : decode prog_14_method_50_code 0 = .ok (.aload_n 0, 1) := by decide +kernel
theorem d_Md_hint_1 : decode prog_14_method_50_code 1 = .ok (.iconst 0, 1) := by decide +kernel
theorem d_Md_hint_2 : decode prog_14_method_50_code 2 = .ok (.putfield 1, 3) := by decide +kernel
theorem d_Md_hint_5 : decode prog_14_method_50_code 5 = .ok (.iload_n 1, 1) := by decide +kernel
theorem d_Md_hint_6 : decode prog_14_method_50_code 6 = .ok (.iconst 0, 1) := by decide +kernel
theorem d_Md_hint_7 : decode prog_14_method_50_code 7 = .ok (.aload_n 0, 1) := by decide +kernel
theorem d_Md_hint_8 : decode prog_14_method_50_code 8 = .ok (.getfield 239, 3) := by decide +kernel
theorem d_Md_hint_11 : decode prog_14_method_50_code 11 = .ok (.invokestatic 350, 3) := by decide +kernel
theorem d_Md_hint_14 : decode prog_14_method_50_code 14 = .ok (.ifCond .eq 22, 3) := by decide +kernel
theorem d_Md_hint_17 : decode prog_14_method_50_code 17 = .ok (.iload_n 2, 1) := by decide +kernel
theorem d_Md_hint_18 : decode prog_14_method_50_code 18 = .ok (.iconst 0, 1) := by decide +kernel
theorem d_Md_hint_19 : decode prog_14_method_50_code 19 = .ok (.bipush 64, 2) := by decide +kernel
theorem d_Md_hint_21 : decode prog_14_method_50_code 21 = .ok (.invokestatic 350, 3) := by decide +kernel
theorem d_Md_hint_24 : decode prog_14_method_50_code 24 = .ok (.ifCond .eq 12, 3) := by decide +kernel
theorem d_Md_hint_27 : decode prog_14_method_50_code 27 = .ok (.aload_n 0, 1) := by decide +kernel
theorem d_Md_hint_28 : decode prog_14_method_50_code 28 = .ok (.getfield 248, 3) := by decide +kernel
theorem d_Md_hint_31 : decode prog_14_method_50_code 31 = .ok (.bipush 8, 2) := by decide +kernel
theorem d_Md_hint_33 : decode prog_14_method_50_code 33 = .ok (.if_icmp .ne 5, 3) := by decide +kernel
theorem d_Md_hint_36 : decode prog_14_method_50_code 36 = .ok (.iconst (-1), 1) := by decide +kernel
theorem d_Md_hint_37 : decode prog_14_method_50_code 37 = .ok (.ireturn, 1) := by decide +kernel
theorem d_Md_hint_38 : decode prog_14_method_50_code 38 = .ok (.aload_n 0, 1) := by decide +kernel
theorem d_Md_hint_39 : decode prog_14_method_50_code 39 = .ok (.getfield 110, 3) := by decide +kernel
theorem d_Md_hint_42 : decode prog_14_method_50_code 42 = .ok (.aload_n 0, 1) := by decide +kernel
theorem d_Md_hint_43 : decode prog_14_method_50_code 43 = .ok (.getfield 248, 3) := by decide +kernel
theorem d_Md_hint_46 : decode prog_14_method_50_code 46 = .ok (.iload_n 1, 1) := by decide +kernel
theorem d_Md_hint_47 : decode prog_14_method_50_code 47 = .ok (.iastore, 1) := by decide +kernel
theorem d_Md_hint_48 : decode prog_14_method_50_code 48 = .ok (.aload_n 0, 1) := by decide +kernel
theorem d_Md_hint_49 : decode prog_14_method_50_code 49 = .ok (.getfield 113, 3) := by decide +kernel
theorem d_Md_hint_52 : decode prog_14_method_50_code 52 = .ok (.aload_n 0, 1) := by decide +kernel
theorem d_Md_hint_53 : decode prog_14_method_50_code 53 = .ok (.getfield 248, 3) := by decide +kernel
theorem d_Md_hint_56 : decode prog_14_method_50_code 56 = .ok (.iload_n 2, 1) := by decide +kernel
theorem d_Md_hint_57 : decode prog_14_method_50_code 57 = .ok (.iastore, 1) := by decide +kernel
theorem d_Md_hint_58 : decode prog_14_method_50_code 58 = .ok (.aload_n 0, 1) := by decide +kernel
theorem d_Md_hint_59 : decode prog_14_method_50_code 59 = .ok (.dup, 1) := by decide +kernel
theorem d_Md_hint_60 : decode prog_14_method_50_code 60 = .ok (.getfield 248, 3) := by decide +kernel
theorem d_Md_hint_63 : decode prog_14_method_50_code 63 = .ok (.iconst 1, 1) := by decide +kernel
theorem d_Md_hint_64 : decode prog_14_method_50_code 64 = .ok (.iadd, 1) := by decide +kernel
theorem d_Md_hint_65 : decode prog_14_method_50_code 65 = .ok (.putfield 248, 3) := by decide +kernel
theorem d_Md_hint_68 : decode prog_14_method_50_code 68 = .ok (.aload_n 0, 1) := by decide +kernel
theorem d_Md_hint_69 : decode prog_14_method_50_code 69 = .ok (.getfield 248, 3) := by decide +kernel
theorem d_Md_hint_72 : decode prog_14_method_50_code 72 = .ok (.iconst 1, 1) := by decide +kernel
theorem d_Md_hint_73 : decode prog_14_method_50_code 73 = .ok (.isub, 1) := by decide +kernel
theorem d_Md_hint_74 : decode prog_14_method_50_code 74 = .ok (.ireturn, 1) := by decide +kernel
abbrev S_Md_hint : Type := Nat × Nat × Int32 × Int32 × AM
noncomputable def T_Md_hint_0 (v0R : Nat) (v1I : Int32) (v2I : Int32) (σ : AM) : S_Md_hint ⊕ Option (Int32 × AM) :=
  gdT (okO σ v0R 12) <| letT (sI σ v0R 0 (0 : Int32)) fun σ2 => bndT (M_Md_within v1I (0 : Int32) (aI σ2 v0R 10) σ2) fun r4 σ5 => if r4 = 0 then (.inl (1, 0, 0, 0, σ5)) else (bndT (M_Md_within v2I (0 : Int32) (64 : Int32) σ5) fun r6 σ7 => if r6 = 0 then (.inl (1, 0, 0, 0, σ7)) else (gdT (okO σ7 v0R 12) <| if (aI σ7 v0R 42) = (8 : Int32) then (.inl (1, 0, 0, 0, σ7)) else (gdT (okO σ7 (aR σ7 v0R 43) 101) <| gdT (inB (aI σ7 v0R 42) (aN σ7 (aR σ7 v0R 43))) <| letT (sI σ7 (aR σ7 v0R 43) (aI σ7 v0R 42).toNatClampNeg v1I) fun σ11 => gdT (okO σ11 (aR σ11 v0R 44) 101) <| gdT (inB (aI σ11 v0R 42) (aN σ11 (aR σ11 v0R 44))) <| letT (sI σ11 (aR σ11 v0R 44) (aI σ11 v0R 42).toNatClampNeg v2I) fun σ15 => letT (sI σ15 v0R 42 ((aI σ15 v0R 42) + (1 : Int32))) fun σ17 => .inr (some (((aI σ17 v0R 42) - (1 : Int32)), σ17)))))
noncomputable def T_Md_hint_1  (σ : AM) : S_Md_hint ⊕ Option (Int32 × AM) :=
  .inr (some (((-1) : Int32), σ))
noncomputable def F_Md_hint : S_Md_hint → S_Md_hint ⊕ Option (Int32 × AM) := fun s => match s.1 with
  | 0 => T_Md_hint_0 (s.2.1) (s.2.2.1) (s.2.2.2.1) (s.2.2.2.2)
  | _ => T_Md_hint_1  (s.2.2.2.2)
noncomputable def L_Md_hint_0 (v0R : Nat) (v1I : Int32) (v2I : Int32) (σ : AM) : Option (Int32 × AM) := lp F_Md_hint (0, v0R, v1I, v2I, σ)
noncomputable def L_Md_hint_1  (σ : AM) : Option (Int32 × AM) := lp F_Md_hint (1, 0, 0, 0, σ)
set_option maxRecDepth 20000 in
theorem E_Md_hint_0 (v0R : Nat) (v1I : Int32) (v2I : Int32) (σ : AM) : L_Md_hint_0 v0R v1I v2I σ = (gd (okO σ v0R 12) <| letT (sI σ v0R 0 (0 : Int32)) fun σ2 => bnd (M_Md_within v1I (0 : Int32) (aI σ2 v0R 10) σ2) fun r4 σ5 => if r4 = 0 then (L_Md_hint_1 σ5) else (bnd (M_Md_within v2I (0 : Int32) (64 : Int32) σ5) fun r6 σ7 => if r6 = 0 then (L_Md_hint_1 σ7) else (gd (okO σ7 v0R 12) <| if (aI σ7 v0R 42) = (8 : Int32) then (L_Md_hint_1 σ7) else (gd (okO σ7 (aR σ7 v0R 43) 101) <| gd (inB (aI σ7 v0R 42) (aN σ7 (aR σ7 v0R 43))) <| letT (sI σ7 (aR σ7 v0R 43) (aI σ7 v0R 42).toNatClampNeg v1I) fun σ11 => gd (okO σ11 (aR σ11 v0R 44) 101) <| gd (inB (aI σ11 v0R 42) (aN σ11 (aR σ11 v0R 44))) <| letT (sI σ11 (aR σ11 v0R 44) (aI σ11 v0R 42).toNatClampNeg v2I) fun σ15 => letT (sI σ15 v0R 42 ((aI σ15 v0R 42) + (1 : Int32))) fun σ17 => (some (((aI σ17 v0R 42) - (1 : Int32)), σ17)))))) := by
  unfold L_Md_hint_0
  rw [lp_eq]
  show lpK (lp F_Md_hint) (T_Md_hint_0 v0R v1I v2I σ) = _
  unfold T_Md_hint_0
  simp only [lpK_ite, lq_inl, lq_inr, lpK_bnd, lpK_gd, lq_let]
  try rfl
set_option maxRecDepth 20000 in
theorem E_Md_hint_1  (σ : AM) : L_Md_hint_1  σ = ((some (((-1) : Int32), σ))) := by
  unfold L_Md_hint_1
  rw [lp_eq]
  show lpK (lp F_Md_hint) (T_Md_hint_1  σ) = _
  unfold T_Md_hint_1
  simp only [lpK_ite, lq_inl, lq_inr, lpK_bnd, lpK_gd, lq_let]
  try rfl
noncomputable def M_Md_hint (v0R : Nat) (v1I : Int32) (v2I : Int32) (σ : AM) : Option (Int32 × AM) := mw σ (L_Md_hint_0 v0R v1I v2I σ)
def I_Md_hint (G : GX) (p : Program) (l : Launch) (e : Env) (s : State) (m : MethodId) (args : Array Value) (below : List Frame) (meth : Method) (c : Code) (z0 u0 n : Nat) : Prop :=
  (∀ (v0R : Nat) (v1I : Int32) (v2I : Int32) (σ : AM), VX (QM eI G args s below z0 u0) G p l e s m args below meth c 1 z0 u0 3 (lpn F_Md_hint n (0, v0R, v1I, v2I, σ)) 0 [(0, .ref v0R), (1, .int v1I), (2, .int v2I)] [] σ) ∧
  (∀ (σ : AM), VX (QM eI G args s below z0 u0) G p l e s m args below meth c 1 z0 u0 3 (lpn F_Md_hint n (1, 0, 0, 0, σ)) 36 [] [] σ)
set_option maxRecDepth 20000 in
theorem s_Md_hint_0 {G : GX} {p : Program} {l : Launch} {e : Env} {s : State} {m : MethodId} {args : Array Value} {below : List Frame} {meth : Method} {c : Code} {z0 u0 n : Nat} (C : Cx G p s m args meth c prog_14_method_50_code 3 "BellPlateModel" ((some FieldType.int))) (IH : I_Md_hint G p l e s m args below meth c z0 u0 n) (v0R : Nat) (v1I : Int32) (v2I : Int32) (σ : AM) : VX (QM eI G args s below z0 u0) G p l e s m args below meth c 1 z0 u0 3 (lpK (lpn F_Md_hint n) (T_Md_hint_0 v0R v1I v2I σ)) 0 [(0, .ref v0R), (1, .int v1I), (2, .int v2I)] [] σ := by
  unfold T_Md_hint_0
  refine x_aload_n C d_Md_hint_0 0 rfl ?_
  refine x_iconst (v := (0 : Int32)) C d_Md_hint_1 (by decide) ?_
  refine x_gd (fun h1 => ?_)
  refine x_putI (k := 0) C (okO_iff.mp h1) rfl j11_ok y11_ok n11_ok (by decide) rfl rfl rfl rfl w1852 d_Md_hint_2 ?_
  refine x_letS (fun σ2 e3 => ?_)
  refine x_iload_n C d_Md_hint_5 1 rfl ?_
  refine x_iconst (v := (0 : Int32)) C d_Md_hint_6 (by decide) ?_
  refine x_aload_n C d_Md_hint_7 0 rfl ?_
  refine x_getI (k := 10) C (by first | exact (okO_iff.mp h1) | (rw [e3]; exact (okO_iff.mp h1))) rfl j11_ok (by decide) rfl w1862 d_Md_hint_8 ?_
  refine x_callSI (As := [.int v1I, .int (0 : Int32), .int (aI σ2 v0R 10)]) C (c_Md_within G l v1I (0 : Int32) (aI σ2 v0R 10) σ2) w2205 w2204 w2206 w134 k_Md_within rfl (by decide) (by decide) rfl (Nat.le_of_ble_eq_true rfl) d_Md_hint_11 (fun r4 σ5 => ?_)
  refine x_if_eq (tgt := 36) C d_Md_hint_14 (by decide) (fun _ => ?_) (fun _ => ?_)
  · refine x_lv [] rfl ?_
    exact IH.2  (σ5)
  · refine x_iload_n C d_Md_hint_17 2 rfl ?_
    refine x_iconst (v := (0 : Int32)) C d_Md_hint_18 (by decide) ?_
    refine x_bipush (v := (64 : Int32)) C d_Md_hint_19 (by decide) ?_
    refine x_callSI (As := [.int v2I, .int (0 : Int32), .int (64 : Int32)]) C (c_Md_within G l v2I (0 : Int32) (64 : Int32) σ5) w2205 w2204 w2206 w134 k_Md_within rfl (by decide) (by decide) rfl (Nat.le_of_ble_eq_true rfl) d_Md_hint_21 (fun r6 σ7 => ?_)
    refine x_if_eq (tgt := 36) C d_Md_hint_24 (by decide) (fun _ => ?_) (fun _ => ?_)
    · refine x_lv [] rfl ?_
      exact IH.2  (σ7)
    · refine x_aload_n C d_Md_hint_27 0 rfl ?_
      refine x_gd (fun h8 => ?_)
      refine x_getI (k := 42) C (okO_iff.mp h8) rfl j11_ok (by decide) rfl w1894 d_Md_hint_28 ?_
      refine x_bipush (v := (8 : Int32)) C d_Md_hint_31 (by decide) ?_
      refine x_icmp_ne (tgt := 38) C d_Md_hint_33 (by decide) (fun _ => ?_) (fun _ => ?_)
      · refine x_lv [] rfl ?_
        exact IH.2  (σ7)
      · refine x_aload_n C d_Md_hint_38 0 rfl ?_
        refine x_gd (fun h9 => ?_)
        refine x_getR (k := 43) (kv := 101) C (okO_iff.mp h8) rfl j11_ok (by decide) rfl (okO_iff.mp h9) (by decide) w1895 d_Md_hint_39 ?_
        refine x_aload_n C d_Md_hint_42 0 rfl ?_
        refine x_getI (k := 42) C (okO_iff.mp h8) rfl j11_ok (by decide) rfl w1894 d_Md_hint_43 ?_
        refine x_iload_n C d_Md_hint_46 1 rfl ?_
        refine x_gd (fun h10 => ?_)
        refine x_astI C (okO_iff.mp h9) (inB_iff.mp h10) d_Md_hint_47 ?_
        refine x_letS (fun σ11 e12 => ?_)
        refine x_aload_n C d_Md_hint_48 0 rfl ?_
        refine x_gd (fun h13 => ?_)
        refine x_getR (k := 44) (kv := 101) C (by first | exact (okO_iff.mp h8) | (rw [e12]; exact (okO_iff.mp h8))) rfl j11_ok (by decide) rfl (okO_iff.mp h13) (by decide) w1896 d_Md_hint_49 ?_
        refine x_aload_n C d_Md_hint_52 0 rfl ?_
        refine x_getI (k := 42) C (by first | exact (okO_iff.mp h8) | (rw [e12]; exact (okO_iff.mp h8))) rfl j11_ok (by decide) rfl w1894 d_Md_hint_53 ?_
        refine x_iload_n C d_Md_hint_56 2 rfl ?_
        refine x_gd (fun h14 => ?_)
        refine x_astI C (okO_iff.mp h13) (inB_iff.mp h14) d_Md_hint_57 ?_
        refine x_letS (fun σ15 e16 => ?_)
        refine x_aload_n C d_Md_hint_58 0 rfl ?_
        refine x_dup C d_Md_hint_59 rfl ?_
        refine x_getI (k := 42) C (by first | exact (okO_iff.mp h8) | (rw [e16, e12]; exact (okO_iff.mp h8))) rfl j11_ok (by decide) rfl w1894 d_Md_hint_60 ?_
        refine x_iconst (v := (1 : Int32)) C d_Md_hint_63 (by decide) ?_
        refine x_iadd C d_Md_hint_64 ?_
        refine x_putI (k := 42) C (by first | exact (okO_iff.mp h8) | (rw [e16, e12]; exact (okO_iff.mp h8))) rfl j11_ok y11_ok n11_ok (by decide) rfl rfl rfl rfl w1894 d_Md_hint_65 ?_
        refine x_letS (fun σ17 e18 => ?_)
        refine x_aload_n C d_Md_hint_68 0 rfl ?_
        refine x_getI (k := 42) C (by first | exact (okO_iff.mp h8) | (rw [e18, e16, e12]; exact (okO_iff.mp h8))) rfl j11_ok (by decide) rfl w1894 d_Md_hint_69 ?_
        refine x_iconst (v := (1 : Int32)) C d_Md_hint_72 (by decide) ?_
        refine x_isub C d_Md_hint_73 ?_
        exact x_iret C d_Md_hint_74
set_option maxRecDepth 20000 in
theorem s_Md_hint_1 {G : GX} {p : Program} {l : Launch} {e : Env} {s : State} {m : MethodId} {args : Array Value} {below : List Frame} {meth : Method} {c : Code} {z0 u0 n : Nat} (C : Cx G p s m args meth c prog_14_method_50_code 3 "BellPlateModel" ((some FieldType.int))) (IH : I_Md_hint G p l e s m args below meth c z0 u0 n)  (σ : AM) : VX (QM eI G args s below z0 u0) G p l e s m args below meth c 1 z0 u0 3 (lpK (lpn F_Md_hint n) (T_Md_hint_1  σ)) 36 [] [] σ := by
  unfold T_Md_hint_1
  refine x_iconst (v := ((-1) : Int32)) C d_Md_hint_36 (by decide) ?_
  exact x_iret C d_Md_hint_37
theorem i_Md_hint {G : GX} {p : Program} {l : Launch} {e : Env} {s : State} {m : MethodId} {args : Array Value} {below : List Frame} {meth : Method} {c : Code} {z0 u0 : Nat} (C : Cx G p s m args meth c prog_14_method_50_code 3 "BellPlateModel" ((some FieldType.int))) (n : Nat) : I_Md_hint G p l e s m args below meth c z0 u0 n := by
  induction n with
  | zero => exact ⟨fun _ _ _ _ => x_none, fun _ => x_none⟩
  | succ n IH => exact ⟨fun v0R v1I v2I σ => s_Md_hint_0 C IH v0R v1I v2I σ, fun σ => s_Md_hint_1 C IH σ⟩
theorem c_Md_hint (G : GX) (l : Launch) (v0R : Nat) (v1I : Int32) (v2I : Int32) (σ : AM) : CT eI G l 1 y_Md_hint prog_14_method_50_code 3 ((some FieldType.int)) [.ref v0R, .int v1I, .int v2I] σ (M_Md_hint v0R v1I v2I σ) := by
  refine ct_of (by decide +kernel) (Nat.le_of_ble_eq_true rfl) (fun p e s m args below meth c C hin => ?_)
  refine x_lve (lv' := [(0, .ref v0R), (1, .int v1I), (2, .int v2I)]) rfl ?_
  intro r σ' h
  obtain ⟨n, hn⟩ := (lp_iff _ _ _).mp h
  exact (i_Md_hint C n).1 v0R v1I v2I σ r σ' hn
/-! BellPlateModel.bits(I)I -/
abbrev y_Md_bits : MethodName := ⟨"BellPlateModel", "bits", "(I)I"⟩
theorem k_Md_bits : y_Md_bits.cls ≠ "java/lang/invoke/MethodHandle" ∧ y_Md_bits.cls ≠ "java/lang/invoke/VarHandle" ∧ (parseMethodDescriptor y_Md_bits.desc).map (fun d => d.parameters.length) = some 1 := by decide +kernel
theorem d_Md_bits_0 : decode prog_14_method_51_code 0 = .ok (.iconst 0, 1) := by decide +kernel
theorem d_Md_bits_1 : decode prog_14_method_51_code 1 = .ok (.istore_n 1, 1) := by decide +kernel
theorem d_Md_bits_2 : decode prog_14_method_51_code 2 = .ok (.iconst 0, 1) := by decide +kernel
theorem d_Md_bits_3 : decode prog_14_method_51_code 3 = .ok (.istore_n 2, 1) := by decide +kernel
theorem d_Md_bits_4 : decode prog_14_method_51_code 4 = .ok (.iload_n 2, 1) := by decide +kernel
theorem d_Md_bits_5 : decode prog_14_method_51_code 5 = .ok (.bipush 6, 2) := by decide +kernel
theorem d_Md_bits_7 : decode prog_14_method_51_code 7 = .ok (.if_icmp .ge 17, 3) := by decide +kernel
theorem d_Md_bits_10 : decode prog_14_method_51_code 10 = .ok (.iload_n 1, 1) := by decide +kernel
theorem d_Md_bits_11 : decode prog_14_method_51_code 11 = .ok (.iload_n 0, 1) := by decide +kernel
theorem d_Md_bits_12 : decode prog_14_method_51_code 12 = .ok (.iload_n 2, 1) := by decide +kernel
theorem d_Md_bits_13 : decode prog_14_method_51_code 13 = .ok (.ishr, 1) := by decide +kernel
theorem d_Md_bits_14 : decode prog_14_method_51_code 14 = .ok (.iconst 1, 1) := by decide +kernel
theorem d_Md_bits_15 : decode prog_14_method_51_code 15 = .ok (.iand, 1) := by decide +kernel
theorem d_Md_bits_16 : decode prog_14_method_51_code 16 = .ok (.iadd, 1) := by decide +kernel
theorem d_Md_bits_17 : decode prog_14_method_51_code 17 = .ok (.istore_n 1, 1) := by decide +kernel
theorem d_Md_bits_18 : decode prog_14_method_51_code 18 = .ok (.iinc 2 1, 3) := by decide +kernel
theorem d_Md_bits_21 : decode prog_14_method_51_code 21 = .ok (.goto (-17), 3) := by decide +kernel
theorem d_Md_bits_24 : decode prog_14_method_51_code 24 = .ok (.iload_n 1, 1) := by decide +kernel
theorem d_Md_bits_25 : decode prog_14_method_51_code 25 = .ok (.ireturn, 1) := by decide +kernel
abbrev S_Md_bits : Type := Nat × Int32 × Int32 × Int32 × AM
noncomputable def T_Md_bits_0 (v0I : Int32) (σ : AM) : S_Md_bits ⊕ Option (Int32 × AM) :=
  .inl (1, v0I, (0 : Int32), (0 : Int32), σ)
noncomputable def T_Md_bits_1 (v0I : Int32) (v1I : Int32) (v2I : Int32) (σ : AM) : S_Md_bits ⊕ Option (Int32 × AM) :=
  if v2I < (6 : Int32) then (letT (v1I + ((v0I >>> (v2I &&& 31)) &&& (1 : Int32))) fun x1 => .inl (1, v0I, x1, v2I + (1 : Int32), σ)) else (.inr (some (v1I, σ)))
noncomputable def F_Md_bits : S_Md_bits → S_Md_bits ⊕ Option (Int32 × AM) := fun s => match s.1 with
  | 0 => T_Md_bits_0 (s.2.1) (s.2.2.2.2)
  | _ => T_Md_bits_1 (s.2.1) (s.2.2.1) (s.2.2.2.1) (s.2.2.2.2)
noncomputable def L_Md_bits_0 (v0I : Int32) (σ : AM) : Option (Int32 × AM) := lp F_Md_bits (0, v0I, 0, 0, σ)
noncomputable def L_Md_bits_1 (v0I : Int32) (v1I : Int32) (v2I : Int32) (σ : AM) : Option (Int32 × AM) := lp F_Md_bits (1, v0I, v1I, v2I, σ)
set_option maxRecDepth 20000 in
theorem E_Md_bits_0 (v0I : Int32) (σ : AM) : L_Md_bits_0 v0I σ = (L_Md_bits_1 v0I ((0 : Int32)) ((0 : Int32)) σ) := by
  unfold L_Md_bits_0
  rw [lp_eq]
  show lpK (lp F_Md_bits) (T_Md_bits_0 v0I σ) = _
  unfold T_Md_bits_0
  simp only [lpK_ite, lq_inl, lq_inr, lpK_bnd, lpK_gd, lq_let]
  try rfl
set_option maxRecDepth 20000 in
theorem E_Md_bits_1 (v0I : Int32) (v1I : Int32) (v2I : Int32) (σ : AM) : L_Md_bits_1 v0I v1I v2I σ = (if v2I < (6 : Int32) then (letT (v1I + ((v0I >>> (v2I &&& 31)) &&& (1 : Int32))) fun x1 => L_Md_bits_1 v0I x1 (v2I + (1 : Int32)) σ) else ((some (v1I, σ)))) := by
  unfold L_Md_bits_1
  rw [lp_eq]
  show lpK (lp F_Md_bits) (T_Md_bits_1 v0I v1I v2I σ) = _
  unfold T_Md_bits_1
  simp only [lpK_ite, lq_inl, lq_inr, lpK_bnd, lpK_gd, lq_let]
  try rfl
noncomputable def M_Md_bits (v0I : Int32) (σ : AM) : Option (Int32 × AM) := mw σ (L_Md_bits_0 v0I σ)
def I_Md_bits (G : GX) (p : Program) (l : Launch) (e : Env) (s : State) (m : MethodId) (args : Array Value) (below : List Frame) (meth : Method) (c : Code) (z0 u0 n : Nat) : Prop :=
  (∀ (v0I : Int32) (σ : AM), VX (QM eI G args s below z0 u0) G p l e s m args below meth c 0 z0 u0 3 (lpn F_Md_bits n (0, v0I, 0, 0, σ)) 0 [(0, .int v0I)] [] σ) ∧
  (∀ (v0I : Int32) (v1I : Int32) (v2I : Int32) (σ : AM), VX (QM eI G args s below z0 u0) G p l e s m args below meth c 0 z0 u0 3 (lpn F_Md_bits n (1, v0I, v1I, v2I, σ)) 4 [(0, .int v0I), (1, .int v1I), (2, .int v2I)] [] σ)
set_option maxRecDepth 20000 in
theorem s_Md_bits_0 {G : GX} {p : Program} {l : Launch} {e : Env} {s : State} {m : MethodId} {args : Array Value} {below : List Frame} {meth : Method} {c : Code} {z0 u0 n : Nat} (C : Cx G p s m args meth c prog_14_method_51_code 3 "BellPlateModel" ((some FieldType.int))) (IH : I_Md_bits G p l e s m args below meth c z0 u0 n) (v0I : Int32) (σ : AM) : VX (QM eI G args s below z0 u0) G p l e s m args below meth c 0 z0 u0 3 (lpK (lpn F_Md_bits n) (T_Md_bits_0 v0I σ)) 0 [(0, .int v0I)] [] σ := by
  unfold T_Md_bits_0
  refine x_iconst (v := (0 : Int32)) C d_Md_bits_0 (by decide) ?_
  refine x_istore_n (lv' := [(1, .int (0 : Int32)), (0, .int v0I)]) C d_Md_bits_1 (by decide) rfl rfl ?_
  refine x_iconst (v := (0 : Int32)) C d_Md_bits_2 (by decide) ?_
  refine x_istore_n (lv' := [(2, .int (0 : Int32)), (1, .int (0 : Int32)), (0, .int v0I)]) C d_Md_bits_3 (by decide) rfl rfl ?_
  refine x_lv [2, 1, 0] rfl ?_
  exact IH.2 v0I ((0 : Int32)) ((0 : Int32)) (σ)
set_option maxRecDepth 20000 in
theorem s_Md_bits_1 {G : GX} {p : Program} {l : Launch} {e : Env} {s : State} {m : MethodId} {args : Array Value} {below : List Frame} {meth : Method} {c : Code} {z0 u0 n : Nat} (C : Cx G p s m args meth c prog_14_method_51_code 3 "BellPlateModel" ((some FieldType.int))) (IH : I_Md_bits G p l e s m args below meth c z0 u0 n) (v0I : Int32) (v1I : Int32) (v2I : Int32) (σ : AM) : VX (QM eI G args s below z0 u0) G p l e s m args below meth c 0 z0 u0 3 (lpK (lpn F_Md_bits n) (T_Md_bits_1 v0I v1I v2I σ)) 4 [(0, .int v0I), (1, .int v1I), (2, .int v2I)] [] σ := by
  unfold T_Md_bits_1
  refine x_iload_n C d_Md_bits_4 2 rfl ?_
  refine x_bipush (v := (6 : Int32)) C d_Md_bits_5 (by decide) ?_
  refine x_icmp_ge (tgt := 24) C d_Md_bits_7 (by decide) (fun _ => ?_) (fun _ => ?_)
  · refine x_iload_n C d_Md_bits_10 1 rfl ?_
    refine x_iload_n C d_Md_bits_11 0 rfl ?_
    refine x_iload_n C d_Md_bits_12 2 rfl ?_
    refine x_ishr C d_Md_bits_13 ?_
    refine x_iconst (v := (1 : Int32)) C d_Md_bits_14 (by decide) ?_
    refine x_iand C d_Md_bits_15 ?_
    refine x_iadd C d_Md_bits_16 ?_
    refine x_letI (fun x1 _ => ?_)
    refine x_istore_n (lv' := [(1, .int x1), (0, .int v0I), (2, .int v2I)]) C d_Md_bits_17 (by decide) rfl rfl ?_
    refine x_iinc (v := v2I + (1 : Int32)) (lv' := [(2, .int (v2I + (1 : Int32))), (1, .int x1), (0, .int v0I)]) C d_Md_bits_18 2 rfl rfl (by decide) rfl ?_
    refine x_goto (tgt := 4) C d_Md_bits_21 (by decide) ?_
    refine x_lv [2, 1, 0] rfl ?_
    exact IH.2 v0I x1 (v2I + (1 : Int32)) (σ)
  · refine x_iload_n C d_Md_bits_24 1 rfl ?_
    exact x_iret C d_Md_bits_25
theorem i_Md_bits {G : GX} {p : Program} {l : Launch} {e : Env} {s : State} {m : MethodId} {args : Array Value} {below : List Frame} {meth : Method} {c : Code} {z0 u0 : Nat} (C : Cx G p s m args meth c prog_14_method_51_code 3 "BellPlateModel" ((some FieldType.int))) (n : Nat) : I_Md_bits G p l e s m args below meth c z0 u0 n := by
  induction n with
  | zero => exact ⟨fun _ _ => x_none, fun _ _ _ _ => x_none⟩
  | succ n IH => exact ⟨fun v0I σ => s_Md_bits_0 C IH v0I σ, fun v0I v1I v2I σ => s_Md_bits_1 C IH v0I v1I v2I σ⟩
theorem c_Md_bits (G : GX) (l : Launch) (v0I : Int32) (σ : AM) : CT eI G l 0 y_Md_bits prog_14_method_51_code 3 ((some FieldType.int)) [.int v0I] σ (M_Md_bits v0I σ) := by
  refine ct_of (by decide +kernel) (Nat.le_of_ble_eq_true rfl) (fun p e s m args below meth c C hin => ?_)
  refine x_lve (lv' := [(0, .int v0I)]) rfl ?_
  intro r σ' h
  obtain ⟨n, hn⟩ := (lp_iff _ _ _).mp h
  exact (i_Md_bits C n).1 v0I σ r σ' hn
/-! BellPlateModel.doesRing(JI)Z -/
abbrev y_Md_doesRing : MethodName := ⟨"BellPlateModel", "doesRing", "(JI)Z"⟩
theorem k_Md_doesRing : y_Md_doesRing.cls ≠ "java/lang/invoke/MethodHandle" ∧ y_Md_doesRing.cls ≠ "java/lang/invoke/VarHandle" ∧ (parseMethodDescriptor y_Md_doesRing.desc).map (fun d => d.parameters.length) = some 2 := by decide +kernel
theorem d_Md_doesRing_0 : decode prog_14_method_55_code 0 = .ok (.lload_n 0, 1) := by decide +kernel
theorem d_Md_doesRing_1 : decode prog_14_method_55_code 1 = .ok (.iload_n 2, 1) := by decide +kernel
theorem d_Md_doesRing_2 : decode prog_14_method_55_code 2 = .ok (.lshr, 1) := by decide +kernel
theorem d_Md_doesRing_3 : decode prog_14_method_55_code 3 = .ok (.lconst 1, 1) := by decide +kernel
theorem d_Md_doesRing_4 : decode prog_14_method_55_code 4 = .ok (.land, 1) := by decide +kernel
theorem d_Md_doesRing_5 : decode prog_14_method_55_code 5 = .ok (.lconst 1, 1) := by decide +kernel
theorem d_Md_doesRing_6 : decode prog_14_method_55_code 6 = .ok (.lcmp, 1) := by decide +kernel
theorem d_Md_doesRing_7 : decode prog_14_method_55_code 7 = .ok (.ifCond .ne 7, 3) := by decide +kernel
theorem d_Md_doesRing_10 : decode prog_14_method_55_code 10 = .ok (.iconst 1, 1) := by decide +kernel
theorem d_Md_doesRing_11 : decode prog_14_method_55_code 11 = .ok (.goto 4, 3) := by decide +kernel
theorem d_Md_doesRing_14 : decode prog_14_method_55_code 14 = .ok (.iconst 0, 1) := by decide +kernel
theorem d_Md_doesRing_15 : decode prog_14_method_55_code 15 = .ok (.ireturn, 1) := by decide +kernel
abbrev S_Md_doesRing : Type := Nat × Int64 × Int32 × Int32 × AM
noncomputable def T_Md_doesRing_0 (v0J : Int64) (v2I : Int32) (σ : AM) : S_Md_doesRing ⊕ Option (Int32 × AM) :=
  if (lg_cmp ((v0J >>> (v2I.toInt64 &&& 63)) &&& (1 : Int64)) (1 : Int64)) = 0 then (.inl (1, 0, 0, (1 : Int32), σ)) else (.inl (1, 0, 0, (0 : Int32), σ))
noncomputable def T_Md_doesRing_1 (s0I : Int32) (σ : AM) : S_Md_doesRing ⊕ Option (Int32 × AM) :=
  gdT (isB s0I) <| .inr (some (s0I, σ))
noncomputable def F_Md_doesRing : S_Md_doesRing → S_Md_doesRing ⊕ Option (Int32 × AM) := fun s => match s.1 with
  | 0 => T_Md_doesRing_0 (s.2.1) (s.2.2.1) (s.2.2.2.2)
  | _ => T_Md_doesRing_1 (s.2.2.2.1) (s.2.2.2.2)
noncomputable def L_Md_doesRing_0 (v0J : Int64) (v2I : Int32) (σ : AM) : Option (Int32 × AM) := lp F_Md_doesRing (0, v0J, v2I, 0, σ)
noncomputable def L_Md_doesRing_1 (s0I : Int32) (σ : AM) : Option (Int32 × AM) := lp F_Md_doesRing (1, 0, 0, s0I, σ)
set_option maxRecDepth 20000 in
theorem E_Md_doesRing_0 (v0J : Int64) (v2I : Int32) (σ : AM) : L_Md_doesRing_0 v0J v2I σ = (if (lg_cmp ((v0J >>> (v2I.toInt64 &&& 63)) &&& (1 : Int64)) (1 : Int64)) = 0 then (L_Md_doesRing_1 ((1 : Int32)) σ) else (L_Md_doesRing_1 ((0 : Int32)) σ)) := by
  unfold L_Md_doesRing_0
  rw [lp_eq]
  show lpK (lp F_Md_doesRing) (T_Md_doesRing_0 v0J v2I σ) = _
  unfold T_Md_doesRing_0
  simp only [lpK_ite, lq_inl, lq_inr, lpK_bnd, lpK_gd, lq_let]
  try rfl
set_option maxRecDepth 20000 in
theorem E_Md_doesRing_1 (s0I : Int32) (σ : AM) : L_Md_doesRing_1 s0I σ = (gd (isB s0I) <| (some (s0I, σ))) := by
  unfold L_Md_doesRing_1
  rw [lp_eq]
  show lpK (lp F_Md_doesRing) (T_Md_doesRing_1 s0I σ) = _
  unfold T_Md_doesRing_1
  simp only [lpK_ite, lq_inl, lq_inr, lpK_bnd, lpK_gd, lq_let]
  try rfl
noncomputable def M_Md_doesRing (v0J : Int64) (v2I : Int32) (σ : AM) : Option (Int32 × AM) := mw σ (L_Md_doesRing_0 v0J v2I σ)
def I_Md_doesRing (G : GX) (p : Program) (l : Launch) (e : Env) (s : State) (m : MethodId) (args : Array Value) (below : List Frame) (meth : Method) (c : Code) (z0 u0 n : Nat) : Prop :=
  (∀ (v0J : Int64) (v2I : Int32) (σ : AM), VX (QM eI G args s below z0 u0) G p l e s m args below meth c 0 z0 u0 3 (lpn F_Md_doesRing n (0, v0J, v2I, 0, σ)) 0 [(0, .long v0J), (2, .int v2I)] [] σ) ∧
  (∀ (s0I : Int32) (σ : AM), VX (QM eI G args s below z0 u0) G p l e s m args below meth c 0 z0 u0 3 (lpn F_Md_doesRing n (1, 0, 0, s0I, σ)) 15 [] [.int s0I] σ)
set_option maxRecDepth 20000 in
theorem s_Md_doesRing_0 {G : GX} {p : Program} {l : Launch} {e : Env} {s : State} {m : MethodId} {args : Array Value} {below : List Frame} {meth : Method} {c : Code} {z0 u0 n : Nat} (C : Cx G p s m args meth c prog_14_method_55_code 3 "BellPlateModel" ((some FieldType.boolean))) (IH : I_Md_doesRing G p l e s m args below meth c z0 u0 n) (v0J : Int64) (v2I : Int32) (σ : AM) : VX (QM eI G args s below z0 u0) G p l e s m args below meth c 0 z0 u0 3 (lpK (lpn F_Md_doesRing n) (T_Md_doesRing_0 v0J v2I σ)) 0 [(0, .long v0J), (2, .int v2I)] [] σ := by
  unfold T_Md_doesRing_0
  refine x_lload_n C d_Md_doesRing_0 0 rfl ?_
  refine x_iload_n C d_Md_doesRing_1 1 rfl ?_
  refine x_lshr C d_Md_doesRing_2 ?_
  refine x_lconst (v := (1 : Int64)) C d_Md_doesRing_3 (by decide) ?_
  refine x_land C d_Md_doesRing_4 ?_
  refine x_lconst (v := (1 : Int64)) C d_Md_doesRing_5 (by decide) ?_
  refine x_lcmp C d_Md_doesRing_6 ?_
  refine x_if_ne (tgt := 14) C d_Md_doesRing_7 (by decide) (fun _ => ?_) (fun _ => ?_)
  · refine x_iconst (v := (1 : Int32)) C d_Md_doesRing_10 (by decide) ?_
    refine x_goto (tgt := 15) C d_Md_doesRing_11 (by decide) ?_
    refine x_lv [] rfl ?_
    exact IH.2 ((1 : Int32)) (σ)
  · refine x_iconst (v := (0 : Int32)) C d_Md_doesRing_14 (by decide) ?_
    refine x_lv [] rfl ?_
    exact IH.2 ((0 : Int32)) (σ)
set_option maxRecDepth 20000 in
theorem s_Md_doesRing_1 {G : GX} {p : Program} {l : Launch} {e : Env} {s : State} {m : MethodId} {args : Array Value} {below : List Frame} {meth : Method} {c : Code} {z0 u0 n : Nat} (C : Cx G p s m args meth c prog_14_method_55_code 3 "BellPlateModel" ((some FieldType.boolean))) (IH : I_Md_doesRing G p l e s m args below meth c z0 u0 n) (s0I : Int32) (σ : AM) : VX (QM eI G args s below z0 u0) G p l e s m args below meth c 0 z0 u0 3 (lpK (lpn F_Md_doesRing n) (T_Md_doesRing_1 s0I σ)) 15 [] [.int s0I] σ := by
  unfold T_Md_doesRing_1
  refine x_gd (fun h1 => ?_)
  exact x_zret C (isB_narrow h1) d_Md_doesRing_15
theorem i_Md_doesRing {G : GX} {p : Program} {l : Launch} {e : Env} {s : State} {m : MethodId} {args : Array Value} {below : List Frame} {meth : Method} {c : Code} {z0 u0 : Nat} (C : Cx G p s m args meth c prog_14_method_55_code 3 "BellPlateModel" ((some FieldType.boolean))) (n : Nat) : I_Md_doesRing G p l e s m args below meth c z0 u0 n := by
  induction n with
  | zero => exact ⟨fun _ _ _ => x_none, fun _ _ => x_none⟩
  | succ n IH => exact ⟨fun v0J v2I σ => s_Md_doesRing_0 C IH v0J v2I σ, fun s0I σ => s_Md_doesRing_1 C IH s0I σ⟩
theorem c_Md_doesRing (G : GX) (l : Launch) (v0J : Int64) (v2I : Int32) (σ : AM) : CT eI G l 0 y_Md_doesRing prog_14_method_55_code 3 ((some FieldType.boolean)) [.long v0J, .int v2I] σ (M_Md_doesRing v0J v2I σ) := by
  refine ct_of (by decide +kernel) (Nat.le_of_ble_eq_true rfl) (fun p e s m args below meth c C hin => ?_)
  refine x_lve (lv' := [(0, .long v0J), (2, .int v2I)]) rfl ?_
  intro r σ' h
  obtain ⟨n, hn⟩ := (lp_iff _ _ _).mp h
  exact (i_Md_doesRing C n).1 v0J v2I σ r σ' hn
/-! BellPlateModel.ringOfSize(JI)I -/
abbrev y_Md_ringOfSize : MethodName := ⟨"BellPlateModel", "ringOfSize", "(JI)I"⟩
theorem k_Md_ringOfSize : y_Md_ringOfSize.cls ≠ "java/lang/invoke/MethodHandle" ∧ y_Md_ringOfSize.cls ≠ "java/lang/invoke/VarHandle" ∧ (parseMethodDescriptor y_Md_ringOfSize.desc).map (fun d => d.parameters.length) = some 2 := by decide +kernel
theorem d_Md_ringOfSize_0 : decode prog_14_method_52_code 0 = .ok (.iconst 0, 1) := by decide +kernel
theorem d_Md_ringOfSize_1 : decode prog_14_method_52_code 1 = .ok (.istore 4, 2) := by decide +kernel
theorem d_Md_ringOfSize_3 : decode prog_14_method_52_code 3 = .ok (.iconst 0, 1) := by decide +kernel
theorem d_Md_ringOfSize_4 : decode prog_14_method_52_code 4 = .ok (.istore 5, 2) := by decide +kernel
theorem d_Md_ringOfSize_6 : decode prog_14_method_52_code 6 = .ok (.iload 5, 2) := by decide +kernel
theorem d_Md_ringOfSize_8 : decode prog_14_method_52_code 8 = .ok (.aload_n 0, 1) := by decide +kernel
theorem d_Md_ringOfSize_9 : decode prog_14_method_52_code 9 = .ok (.invokevirtual 306, 3) := by decide +kernel
theorem d_Md_ringOfSize_12 : decode prog_14_method_52_code 12 = .ok (.if_icmp .ge 37, 3) := by decide +kernel
theorem d_Md_ringOfSize_15 : decode prog_14_method_52_code 15 = .ok (.iload 4, 2) := by decide +kernel
theorem d_Md_ringOfSize_17 : decode prog_14_method_52_code 17 = .ok (.iload 5, 2) := by decide +kernel
theorem d_Md_ringOfSize_19 : decode prog_14_method_52_code 19 = .ok (.invokestatic 354, 3) := by decide +kernel
theorem d_Md_ringOfSize_22 : decode prog_14_method_52_code 22 = .ok (.iload_n 3, 1) := by decide +kernel
theorem d_Md_ringOfSize_23 : decode prog_14_method_52_code 23 = .ok (.if_icmp .ne 16, 3) := by decide +kernel
theorem d_Md_ringOfSize_26 : decode prog_14_method_52_code 26 = .ok (.lload_n 1, 1) := by decide +kernel
theorem d_Md_ringOfSize_27 : decode prog_14_method_52_code 27 = .ok (.iload 5, 2) := by decide +kernel
theorem d_Md_ringOfSize_29 : decode prog_14_method_52_code 29 = .ok (.invokestatic 357, 3) := by decide +kernel
theorem d_Md_ringOfSize_32 : decode prog_14_method_52_code 32 = .ok (.ifCond .eq 7, 3) := by decide +kernel
theorem d_Md_ringOfSize_35 : decode prog_14_method_52_code 35 = .ok (.iconst 1, 1) := by decide +kernel
theorem d_Md_ringOfSize_36 : decode prog_14_method_52_code 36 = .ok (.goto 4, 3) := by decide +kernel
theorem d_Md_ringOfSize_39 : decode prog_14_method_52_code 39 = .ok (.iconst 0, 1) := by decide +kernel
theorem d_Md_ringOfSize_40 : decode prog_14_method_52_code 40 = .ok (.iadd, 1) := by decide +kernel
theorem d_Md_ringOfSize_41 : decode prog_14_method_52_code 41 = .ok (.istore 4, 2) := by decide +kernel
theorem d_Md_ringOfSize_43 : decode prog_14_method_52_code 43 = .ok (.iinc 5 1, 3) := by decide +kernel
theorem d_Md_ringOfSize_46 : decode prog_14_method_52_code 46 = .ok (.goto (-40), 3) := by decide +kernel
theorem d_Md_ringOfSize_49 : decode prog_14_method_52_code 49 = .ok (.iload 4, 2) := by decide +kernel
theorem d_Md_ringOfSize_51 : decode prog_14_method_52_code 51 = .ok (.ireturn, 1) := by decide +kernel
abbrev S_Md_ringOfSize : Type := Nat × Nat × Int64 × Int32 × Int32 × Int32 × Int32 × Int32 × AM
noncomputable def T_Md_ringOfSize_0 (v0R : Nat) (v1J : Int64) (v3I : Int32) (σ : AM) : S_Md_ringOfSize ⊕ Option (Int32 × AM) :=
  .inl (1, v0R, v1J, v3I, (0 : Int32), (0 : Int32), 0, 0, σ)
noncomputable def T_Md_ringOfSize_1 (v0R : Nat) (v1J : Int64) (v3I : Int32) (v4I : Int32) (v5I : Int32) (σ : AM) : S_Md_ringOfSize ⊕ Option (Int32 × AM) :=
  gdT (okO σ v0R 12) <| bndT (M_Md_sets v0R σ) fun r1 σ2 => if v5I < r1 then (bndT (M_Md_bits v5I σ2) fun r4 σ5 => if r4 = v3I then (bndT (M_Md_doesRing v1J v5I σ5) fun r6 σ7 => if r6 = 0 then (.inl (2, v0R, v1J, v3I, 0, v5I, v4I, 0, σ7)) else (.inl (3, v0R, v1J, v3I, 0, v5I, v4I, (1 : Int32), σ7))) else (.inl (2, v0R, v1J, v3I, 0, v5I, v4I, 0, σ5))) else (.inr (some (v4I, σ2)))
noncomputable def T_Md_ringOfSize_2 (v0R : Nat) (v1J : Int64) (v3I : Int32) (v5I : Int32) (s0I : Int32) (σ : AM) : S_Md_ringOfSize ⊕ Option (Int32 × AM) :=
  .inl (3, v0R, v1J, v3I, 0, v5I, s0I, (0 : Int32), σ)
noncomputable def T_Md_ringOfSize_3 (v0R : Nat) (v1J : Int64) (v3I : Int32) (v5I : Int32) (s0I : Int32) (s1I : Int32) (σ : AM) : S_Md_ringOfSize ⊕ Option (Int32 × AM) :=
  letT (s0I + s1I) fun x1 => .inl (1, v0R, v1J, v3I, x1, v5I + (1 : Int32), 0, 0, σ)
noncomputable def F_Md_ringOfSize : S_Md_ringOfSize → S_Md_ringOfSize ⊕ Option (Int32 × AM) := fun s => match s.1 with
  | 0 => T_Md_ringOfSize_0 (s.2.1) (s.2.2.1) (s.2.2.2.1) (s.2.2.2.2.2.2.2.2)
  | 1 => T_Md_ringOfSize_1 (s.2.1) (s.2.2.1) (s.2.2.2.1) (s.2.2.2.2.1) (s.2.2.2.2.2.1) (s.2.2.2.2.2.2.2.2)
  | 2 => T_Md_ringOfSize_2 (s.2.1) (s.2.2.1) (s.2.2.2.1) (s.2.2.2.2.2.1) (s.2.2.2.2.2.2.1) (s.2.2.2.2.2.2.2.2)
  | _ => T_Md_ringOfSize_3 (s.2.1) (s.2.2.1) (s.2.2.2.1) (s.2.2.2.2.2.1) (s.2.2.2.2.2.2.1) (s.2.2.2.2.2.2.2.1) (s.2.2.2.2.2.2.2.2)
noncomputable def L_Md_ringOfSize_0 (v0R : Nat) (v1J : Int64) (v3I : Int32) (σ : AM) : Option (Int32 × AM) := lp F_Md_ringOfSize (0, v0R, v1J, v3I, 0, 0, 0, 0, σ)
noncomputable def L_Md_ringOfSize_1 (v0R : Nat) (v1J : Int64) (v3I : Int32) (v4I : Int32) (v5I : Int32) (σ : AM) : Option (Int32 × AM) := lp F_Md_ringOfSize (1, v0R, v1J, v3I, v4I, v5I, 0, 0, σ)
noncomputable def L_Md_ringOfSize_2 (v0R : Nat) (v1J : Int64) (v3I : Int32) (v5I : Int32) (s0I : Int32) (σ : AM) : Option (Int32 × AM) := lp F_Md_ringOfSize (2, v0R, v1J, v3I, 0, v5I, s0I, 0, σ)
noncomputable def L_Md_ringOfSize_3 (v0R : Nat) (v1J : Int64) (v3I : Int32) (v5I : Int32) (s0I : Int32) (s1I : Int32) (σ : AM) : Option (Int32 × AM) := lp F_Md_ringOfSize (3, v0R, v1J, v3I, 0, v5I, s0I, s1I, σ)
set_option maxRecDepth 20000 in
theorem E_Md_ringOfSize_0 (v0R : Nat) (v1J : Int64) (v3I : Int32) (σ : AM) : L_Md_ringOfSize_0 v0R v1J v3I σ = (L_Md_ringOfSize_1 v0R v1J v3I ((0 : Int32)) ((0 : Int32)) σ) := by
  unfold L_Md_ringOfSize_0
  rw [lp_eq]
  show lpK (lp F_Md_ringOfSize) (T_Md_ringOfSize_0 v0R v1J v3I σ) = _
  unfold T_Md_ringOfSize_0
  simp only [lpK_ite, lq_inl, lq_inr, lpK_bnd, lpK_gd, lq_let]
  try rfl
set_option maxRecDepth 20000 in
theorem E_Md_ringOfSize_1 (v0R : Nat) (v1J : Int64) (v3I : Int32) (v4I : Int32) (v5I : Int32) (σ : AM) : L_Md_ringOfSize_1 v0R v1J v3I v4I v5I σ = (gd (okO σ v0R 12) <| bnd (M_Md_sets v0R σ) fun r1 σ2 => if v5I < r1 then (bnd (M_Md_bits v5I σ2) fun r4 σ5 => if r4 = v3I then (bnd (M_Md_doesRing v1J v5I σ5) fun r6 σ7 => if r6 = 0 then (L_Md_ringOfSize_2 v0R v1J v3I v5I v4I σ7) else (L_Md_ringOfSize_3 v0R v1J v3I v5I v4I ((1 : Int32)) σ7)) else (L_Md_ringOfSize_2 v0R v1J v3I v5I v4I σ5)) else ((some (v4I, σ2)))) := by
  unfold L_Md_ringOfSize_1
  rw [lp_eq]
  show lpK (lp F_Md_ringOfSize) (T_Md_ringOfSize_1 v0R v1J v3I v4I v5I σ) = _
  unfold T_Md_ringOfSize_1
  simp only [lpK_ite, lq_inl, lq_inr, lpK_bnd, lpK_gd, lq_let]
  try rfl
set_option maxRecDepth 20000 in
theorem E_Md_ringOfSize_2 (v0R : Nat) (v1J : Int64) (v3I : Int32) (v5I : Int32) (s0I : Int32) (σ : AM) : L_Md_ringOfSize_2 v0R v1J v3I v5I s0I σ = (L_Md_ringOfSize_3 v0R v1J v3I v5I s0I ((0 : Int32)) σ) := by
  unfold L_Md_ringOfSize_2
  rw [lp_eq]
  show lpK (lp F_Md_ringOfSize) (T_Md_ringOfSize_2 v0R v1J v3I v5I s0I σ) = _
  unfold T_Md_ringOfSize_2
  simp only [lpK_ite, lq_inl, lq_inr, lpK_bnd, lpK_gd, lq_let]
  try rfl
set_option maxRecDepth 20000 in
theorem E_Md_ringOfSize_3 (v0R : Nat) (v1J : Int64) (v3I : Int32) (v5I : Int32) (s0I : Int32) (s1I : Int32) (σ : AM) : L_Md_ringOfSize_3 v0R v1J v3I v5I s0I s1I σ = (letT (s0I + s1I) fun x1 => L_Md_ringOfSize_1 v0R v1J v3I x1 (v5I + (1 : Int32)) σ) := by
  unfold L_Md_ringOfSize_3
  rw [lp_eq]
  show lpK (lp F_Md_ringOfSize) (T_Md_ringOfSize_3 v0R v1J v3I v5I s0I s1I σ) = _
  unfold T_Md_ringOfSize_3
  simp only [lpK_ite, lq_inl, lq_inr, lpK_bnd, lpK_gd, lq_let]
  try rfl
noncomputable def M_Md_ringOfSize (v0R : Nat) (v1J : Int64) (v3I : Int32) (σ : AM) : Option (Int32 × AM) := mw σ (L_Md_ringOfSize_0 v0R v1J v3I σ)
def I_Md_ringOfSize (G : GX) (p : Program) (l : Launch) (e : Env) (s : State) (m : MethodId) (args : Array Value) (below : List Frame) (meth : Method) (c : Code) (z0 u0 n : Nat) : Prop :=
  (∀ (v0R : Nat) (v1J : Int64) (v3I : Int32) (σ : AM), VX (QM eI G args s below z0 u0) G p l e s m args below meth c 1 z0 u0 6 (lpn F_Md_ringOfSize n (0, v0R, v1J, v3I, 0, 0, 0, 0, σ)) 0 [(0, .ref v0R), (1, .long v1J), (3, .int v3I)] [] σ) ∧
  (∀ (v0R : Nat) (v1J : Int64) (v3I : Int32) (v4I : Int32) (v5I : Int32) (σ : AM), VX (QM eI G args s below z0 u0) G p l e s m args below meth c 1 z0 u0 6 (lpn F_Md_ringOfSize n (1, v0R, v1J, v3I, v4I, v5I, 0, 0, σ)) 6 [(0, .ref v0R), (1, .long v1J), (3, .int v3I), (4, .int v4I), (5, .int v5I)] [] σ) ∧
  (∀ (v0R : Nat) (v1J : Int64) (v3I : Int32) (v5I : Int32) (s0I : Int32) (σ : AM), VX (QM eI G args s below z0 u0) G p l e s m args below meth c 1 z0 u0 6 (lpn F_Md_ringOfSize n (2, v0R, v1J, v3I, 0, v5I, s0I, 0, σ)) 39 [(0, .ref v0R), (1, .long v1J), (3, .int v3I), (5, .int v5I)] [.int s0I] σ) ∧
  (∀ (v0R : Nat) (v1J : Int64) (v3I : Int32) (v5I : Int32) (s0I : Int32) (s1I : Int32) (σ : AM), VX (QM eI G args s below z0 u0) G p l e s m args below meth c 1 z0 u0 6 (lpn F_Md_ringOfSize n (3, v0R, v1J, v3I, 0, v5I, s0I, s1I, σ)) 40 [(0, .ref v0R), (1, .long v1J), (3, .int v3I), (5, .int v5I)] [.int s1I, .int s0I] σ)
set_option maxRecDepth 20000 in
theorem s_Md_ringOfSize_0 {G : GX} {p : Program} {l : Launch} {e : Env} {s : State} {m : MethodId} {args : Array Value} {below : List Frame} {meth : Method} {c : Code} {z0 u0 n : Nat} (C : Cx G p s m args meth c prog_14_method_52_code 6 "BellPlateModel" ((some FieldType.int))) (IH : I_Md_ringOfSize G p l e s m args below meth c z0 u0 n) (v0R : Nat) (v1J : Int64) (v3I : Int32) (σ : AM) : VX (QM eI G args s below z0 u0) G p l e s m args below meth c 1 z0 u0 6 (lpK (lpn F_Md_ringOfSize n) (T_Md_ringOfSize_0 v0R v1J v3I σ)) 0 [(0, .ref v0R), (1, .long v1J), (3, .int v3I)] [] σ := by
  unfold T_Md_ringOfSize_0
  refine x_iconst (v := (0 : Int32)) C d_Md_ringOfSize_0 (by decide) ?_
  refine x_istore (lv' := [(4, .int (0 : Int32)), (0, .ref v0R), (1, .long v1J), (3, .int v3I)]) C d_Md_ringOfSize_1 (by decide) rfl ?_
  refine x_iconst (v := (0 : Int32)) C d_Md_ringOfSize_3 (by decide) ?_
  refine x_istore (lv' := [(5, .int (0 : Int32)), (4, .int (0 : Int32)), (0, .ref v0R), (1, .long v1J), (3, .int v3I)]) C d_Md_ringOfSize_4 (by decide) rfl ?_
  refine x_lv [2, 3, 4, 1, 0] rfl ?_
  exact IH.2.1 v0R v1J v3I ((0 : Int32)) ((0 : Int32)) (σ)
set_option maxRecDepth 20000 in
theorem s_Md_ringOfSize_1 {G : GX} {p : Program} {l : Launch} {e : Env} {s : State} {m : MethodId} {args : Array Value} {below : List Frame} {meth : Method} {c : Code} {z0 u0 n : Nat} (C : Cx G p s m args meth c prog_14_method_52_code 6 "BellPlateModel" ((some FieldType.int))) (IH : I_Md_ringOfSize G p l e s m args below meth c z0 u0 n) (v0R : Nat) (v1J : Int64) (v3I : Int32) (v4I : Int32) (v5I : Int32) (σ : AM) : VX (QM eI G args s below z0 u0) G p l e s m args below meth c 1 z0 u0 6 (lpK (lpn F_Md_ringOfSize n) (T_Md_ringOfSize_1 v0R v1J v3I v4I v5I σ)) 6 [(0, .ref v0R), (1, .long v1J), (3, .int v3I), (4, .int v4I), (5, .int v5I)] [] σ := by
  unfold T_Md_ringOfSize_1
  refine x_iload C d_Md_ringOfSize_6 4 rfl ?_
  refine x_aload_n C d_Md_ringOfSize_8 0 rfl ?_
  refine x_gd (fun h3 => ?_)
  refine x_callVI (As := []) C (c_Md_sets G l v0R  σ) (okO_iff.mp h3) rfl w1826 w58 w1824 w1827 w134 k_Md_sets rfl (by decide) (by decide) rfl (Nat.le_of_ble_eq_true rfl) d_Md_ringOfSize_9 (fun r1 σ2 => ?_)
  refine x_icmp_ge (tgt := 49) C d_Md_ringOfSize_12 (by decide) (fun _ => ?_) (fun _ => ?_)
  · refine x_iload C d_Md_ringOfSize_15 3 rfl ?_
    refine x_iload C d_Md_ringOfSize_17 4 rfl ?_
    refine x_callSI (As := [.int v5I]) C (c_Md_bits G l v5I σ2) w2232 w2231 w2233 w134 k_Md_bits rfl (by decide) (by decide) rfl (Nat.le_of_ble_eq_true rfl) d_Md_ringOfSize_19 (fun r4 σ5 => ?_)
    refine x_iload_n C d_Md_ringOfSize_22 2 rfl ?_
    refine x_icmp_ne (tgt := 39) C d_Md_ringOfSize_23 (by decide) (fun _ => ?_) (fun _ => ?_)
    · refine x_lload_n C d_Md_ringOfSize_26 1 rfl ?_
      refine x_iload C d_Md_ringOfSize_27 4 rfl ?_
      refine x_callSI (As := [.long v1J, .int v5I]) C (c_Md_doesRing G l v1J v5I σ5) w2235 w2234 w2236 w134 k_Md_doesRing rfl (by decide) (by decide) rfl (Nat.le_of_ble_eq_true rfl) d_Md_ringOfSize_29 (fun r6 σ7 => ?_)
      refine x_if_eq (tgt := 39) C d_Md_ringOfSize_32 (by decide) (fun _ => ?_) (fun _ => ?_)
      · refine x_lv [0, 1, 2, 4] rfl ?_
        exact IH.2.2.1 v0R v1J v3I v5I v4I (σ7)
      · refine x_iconst (v := (1 : Int32)) C d_Md_ringOfSize_35 (by decide) ?_
        refine x_goto (tgt := 40) C d_Md_ringOfSize_36 (by decide) ?_
        refine x_lv [0, 1, 2, 4] rfl ?_
        exact IH.2.2.2 v0R v1J v3I v5I v4I ((1 : Int32)) (σ7)
    · refine x_lv [0, 1, 2, 4] rfl ?_
      exact IH.2.2.1 v0R v1J v3I v5I v4I (σ5)
  · refine x_iload C d_Md_ringOfSize_49 3 rfl ?_
    exact x_iret C d_Md_ringOfSize_51
set_option maxRecDepth 20000 in
theorem s_Md_ringOfSize_2 {G : GX} {p : Program} {l : Launch} {e : Env} {s : State} {m : MethodId} {args : Array Value} {below : List Frame} {meth : Method} {c : Code} {z0 u0 n : Nat} (C : Cx G p s m args meth c prog_14_method_52_code 6 "BellPlateModel" ((some FieldType.int))) (IH : I_Md_ringOfSize G p l e s m args below meth c z0 u0 n) (v0R : Nat) (v1J : Int64) (v3I : Int32) (v5I : Int32) (s0I : Int32) (σ : AM) : VX (QM eI G args s below z0 u0) G p l e s m args below meth c 1 z0 u0 6 (lpK (lpn F_Md_ringOfSize n) (T_Md_ringOfSize_2 v0R v1J v3I v5I s0I σ)) 39 [(0, .ref v0R), (1, .long v1J), (3, .int v3I), (5, .int v5I)] [.int s0I] σ := by
  unfold T_Md_ringOfSize_2
  refine x_iconst (v := (0 : Int32)) C d_Md_ringOfSize_39 (by decide) ?_
  exact IH.2.2.2 v0R v1J v3I v5I s0I ((0 : Int32)) (σ)
set_option maxRecDepth 20000 in
theorem s_Md_ringOfSize_3 {G : GX} {p : Program} {l : Launch} {e : Env} {s : State} {m : MethodId} {args : Array Value} {below : List Frame} {meth : Method} {c : Code} {z0 u0 n : Nat} (C : Cx G p s m args meth c prog_14_method_52_code 6 "BellPlateModel" ((some FieldType.int))) (IH : I_Md_ringOfSize G p l e s m args below meth c z0 u0 n) (v0R : Nat) (v1J : Int64) (v3I : Int32) (v5I : Int32) (s0I : Int32) (s1I : Int32) (σ : AM) : VX (QM eI G args s below z0 u0) G p l e s m args below meth c 1 z0 u0 6 (lpK (lpn F_Md_ringOfSize n) (T_Md_ringOfSize_3 v0R v1J v3I v5I s0I s1I σ)) 40 [(0, .ref v0R), (1, .long v1J), (3, .int v3I), (5, .int v5I)] [.int s1I, .int s0I] σ := by
  unfold T_Md_ringOfSize_3
  refine x_iadd C d_Md_ringOfSize_40 ?_
  refine x_letI (fun x1 _ => ?_)
  refine x_istore (lv' := [(4, .int x1), (0, .ref v0R), (1, .long v1J), (3, .int v3I), (5, .int v5I)]) C d_Md_ringOfSize_41 (by decide) rfl ?_
  refine x_iinc (v := v5I + (1 : Int32)) (lv' := [(5, .int (v5I + (1 : Int32))), (4, .int x1), (0, .ref v0R), (1, .long v1J), (3, .int v3I)]) C d_Md_ringOfSize_43 4 rfl rfl (by decide) rfl ?_
  refine x_goto (tgt := 6) C d_Md_ringOfSize_46 (by decide) ?_
  refine x_lv [2, 3, 4, 1, 0] rfl ?_
  exact IH.2.1 v0R v1J v3I x1 (v5I + (1 : Int32)) (σ)
theorem i_Md_ringOfSize {G : GX} {p : Program} {l : Launch} {e : Env} {s : State} {m : MethodId} {args : Array Value} {below : List Frame} {meth : Method} {c : Code} {z0 u0 : Nat} (C : Cx G p s m args meth c prog_14_method_52_code 6 "BellPlateModel" ((some FieldType.int))) (n : Nat) : I_Md_ringOfSize G p l e s m args below meth c z0 u0 n := by
  induction n with
  | zero => exact ⟨fun _ _ _ _ => x_none, fun _ _ _ _ _ _ => x_none, fun _ _ _ _ _ _ => x_none, fun _ _ _ _ _ _ _ => x_none⟩
  | succ n IH => exact ⟨fun v0R v1J v3I σ => s_Md_ringOfSize_0 C IH v0R v1J v3I σ, fun v0R v1J v3I v4I v5I σ => s_Md_ringOfSize_1 C IH v0R v1J v3I v4I v5I σ, fun v0R v1J v3I v5I s0I σ => s_Md_ringOfSize_2 C IH v0R v1J v3I v5I s0I σ, fun v0R v1J v3I v5I s0I s1I σ => s_Md_ringOfSize_3 C IH v0R v1J v3I v5I s0I s1I σ⟩
theorem c_Md_ringOfSize (G : GX) (l : Launch) (v0R : Nat) (v1J : Int64) (v3I : Int32) (σ : AM) : CT eI G l 1 y_Md_ringOfSize prog_14_method_52_code 6 ((some FieldType.int)) [.ref v0R, .long v1J, .int v3I] σ (M_Md_ringOfSize v0R v1J v3I σ) := by
  refine ct_of (by decide +kernel) (Nat.le_of_ble_eq_true rfl) (fun p e s m args below meth c C hin => ?_)
  refine x_lve (lv' := [(0, .ref v0R), (1, .long v1J), (3, .int v3I)]) rfl ?_
  intro r σ' h
  obtain ⟨n, hn⟩ := (lp_iff _ _ _).mp h
  exact (i_Md_ringOfSize C n).1 v0R v1J v3I σ r σ' hn
/-! BellPlateModel.fitsAll(J)Z -/
abbrev y_Md_fitsAll : MethodName := ⟨"BellPlateModel", "fitsAll", "(J)Z"⟩
theorem k_Md_fitsAll : y_Md_fitsAll.cls ≠ "java/lang/invoke/MethodHandle" ∧ y_Md_fitsAll.cls ≠ "java/lang/invoke/VarHandle" ∧ (parseMethodDescriptor y_Md_fitsAll.desc).map (fun d => d.parameters.length) = some 1 := by decide +kernel
theorem d_Md_fitsAll_0 : decode prog_14_method_53_code 0 = .ok (.aload_n 0, 1) := by decide +kernel
theorem d_Md_fitsAll_1 : decode prog_14_method_53_code 1 = .ok (.lload_n 1, 1) := by decide +kernel
theorem d_Md_fitsAll_2 : decode prog_14_method_53_code 2 = .ok (.invokevirtual 361, 3) := by decide +kernel
theorem d_Md_fitsAll_5 : decode prog_14_method_53_code 5 = .ok (.istore_n 3, 1) := by decide +kernel
theorem d_Md_fitsAll_6 : decode prog_14_method_53_code 6 = .ok (.iconst 0, 1) := by decide +kernel
theorem d_Md_fitsAll_7 : decode prog_14_method_53_code 7 = .ok (.istore 4, 2) := by decide +kernel
theorem d_Md_fitsAll_9 : decode prog_14_method_53_code 9 = .ok (.iload 4, 2) := by decide +kernel
theorem d_Md_fitsAll_11 : decode prog_14_method_53_code 11 = .ok (.aload_n 0, 1) := by decide +kernel
theorem d_Md_fitsAll_12 : decode prog_14_method_53_code 12 = .ok (.getfield 248, 3) := by decide +kernel
theorem d_Md_fitsAll_15 : decode prog_14_method_53_code 15 = .ok (.if_icmp .ge 41, 3) := by decide +kernel
theorem d_Md_fitsAll_18 : decode prog_14_method_53_code 18 = .ok (.iload_n 3, 1) := by decide +kernel
theorem d_Md_fitsAll_19 : decode prog_14_method_53_code 19 = .ok (.ifCond .eq 37, 3) := by decide +kernel
theorem d_Md_fitsAll_22 : decode prog_14_method_53_code 22 = .ok (.aload_n 0, 1) := by decide +kernel
theorem d_Md_fitsAll_23 : decode prog_14_method_53_code 23 = .ok (.lload_n 1, 1) := by decide +kernel
theorem d_Md_fitsAll_24 : decode prog_14_method_53_code 24 = .ok (.aload_n 0, 1) := by decide +kernel
theorem d_Md_fitsAll_25 : decode prog_14_method_53_code 25 = .ok (.getfield 110, 3) := by decide +kernel
theorem d_Md_fitsAll_28 : decode prog_14_method_53_code 28 = .ok (.iload 4, 2) := by decide +kernel
theorem d_Md_fitsAll_30 : decode prog_14_method_53_code 30 = .ok (.iaload, 1) := by decide +kernel
theorem d_Md_fitsAll_31 : decode prog_14_method_53_code 31 = .ok (.invokevirtual 365, 3) := by decide +kernel
theorem d_Md_fitsAll_34 : decode prog_14_method_53_code 34 = .ok (.aload_n 0, 1) := by decide +kernel
theorem d_Md_fitsAll_35 : decode prog_14_method_53_code 35 = .ok (.getfield 113, 3) := by decide +kernel
theorem d_Md_fitsAll_38 : decode prog_14_method_53_code 38 = .ok (.iload 4, 2) := by decide +kernel
theorem d_Md_fitsAll_40 : decode prog_14_method_53_code 40 = .ok (.iaload, 1) := by decide +kernel
theorem d_Md_fitsAll_41 : decode prog_14_method_53_code 41 = .ok (.if_icmp .ne 7, 3) := by decide +kernel
theorem d_Md_fitsAll_44 : decode prog_14_method_53_code 44 = .ok (.iconst 1, 1) := by decide +kernel
theorem d_Md_fitsAll_45 : decode prog_14_method_53_code 45 = .ok (.goto 4, 3) := by decide +kernel
theorem d_Md_fitsAll_48 : decode prog_14_method_53_code 48 = .ok (.iconst 0, 1) := by decide +kernel
theorem d_Md_fitsAll_49 : decode prog_14_method_53_code 49 = .ok (.istore_n 3, 1) := by decide +kernel
theorem d_Md_fitsAll_50 : decode prog_14_method_53_code 50 = .ok (.iinc 4 1, 3) := by decide +kernel
theorem d_Md_fitsAll_53 : decode prog_14_method_53_code 53 = .ok (.goto (-44), 3) := by decide +kernel
theorem d_Md_fitsAll_56 : decode prog_14_method_53_code 56 = .ok (.iload_n 3, 1) := by decide +kernel
theorem d_Md_fitsAll_57 : decode prog_14_method_53_code 57 = .ok (.ireturn, 1) := by decide +kernel
abbrev S_Md_fitsAll : Type := Nat × Nat × Int64 × Int32 × Int32 × Int32 × AM
noncomputable def T_Md_fitsAll_0 (v0R : Nat) (v1J : Int64) (σ : AM) : S_Md_fitsAll ⊕ Option (Int32 × AM) :=
  gdT (okO σ v0R 12) <| bndT (M_Md_fits v0R v1J σ) fun r1 σ2 => .inl (1, v0R, v1J, r1, (0 : Int32), 0, σ2)
noncomputable def T_Md_fitsAll_1 (v0R : Nat) (v1J : Int64) (v3I : Int32) (v4I : Int32) (σ : AM) : S_Md_fitsAll ⊕ Option (Int32 × AM) :=
  gdT (okO σ v0R 12) <| if v4I < (aI σ v0R 42) then (if v3I = 0 then (.inl (3, 0, 0, v3I, 0, 0, σ)) else (gdT (okO σ (aR σ v0R 43) 101) <| gdT (inB v4I (aN σ (aR σ v0R 43))) <| bndT (M_Md_ringOfSize v0R v1J (aI σ (aR σ v0R 43) v4I.toNatClampNeg) σ) fun r4 σ5 => gdT (okO σ5 v0R 12) <| gdT (okO σ5 (aR σ5 v0R 44) 101) <| gdT (inB v4I (aN σ5 (aR σ5 v0R 44))) <| if r4 = (aI σ5 (aR σ5 v0R 44) v4I.toNatClampNeg) then (.inl (2, v0R, v1J, 0, v4I, (1 : Int32), σ5)) else (.inl (2, v0R, v1J, 0, v4I, (0 : Int32), σ5)))) else (.inl (3, 0, 0, v3I, 0, 0, σ))
noncomputable def T_Md_fitsAll_2 (v0R : Nat) (v1J : Int64) (v4I : Int32) (s0I : Int32) (σ : AM) : S_Md_fitsAll ⊕ Option (Int32 × AM) :=
  .inl (1, v0R, v1J, s0I, v4I + (1 : Int32), 0, σ)
noncomputable def T_Md_fitsAll_3 (v3I : Int32) (σ : AM) : S_Md_fitsAll ⊕ Option (Int32 × AM) :=
  gdT (isB v3I) <| .inr (some (v3I, σ))
noncomputable def F_Md_fitsAll : S_Md_fitsAll → S_Md_fitsAll ⊕ Option (Int32 × AM) := fun s => match s.1 with
  | 0 => T_Md_fitsAll_0 (s.2.1) (s.2.2.1) (s.2.2.2.2.2.2)
  | 1 => T_Md_fitsAll_1 (s.2.1) (s.2.2.1) (s.2.2.2.1) (s.2.2.2.2.1) (s.2.2.2.2.2.2)
  | 2 => T_Md_fitsAll_2 (s.2.1) (s.2.2.1) (s.2.2.2.2.1) (s.2.2.2.2.2.1) (s.2.2.2.2.2.2)
  | _ => T_Md_fitsAll_3 (s.2.2.2.1) (s.2.2.2.2.2.2)
noncomputable def L_Md_fitsAll_0 (v0R : Nat) (v1J : Int64) (σ : AM) : Option (Int32 × AM) := lp F_Md_fitsAll (0, v0R, v1J, 0, 0, 0, σ)
noncomputable def L_Md_fitsAll_1 (v0R : Nat) (v1J : Int64) (v3I : Int32) (v4I : Int32) (σ : AM) : Option (Int32 × AM) := lp F_Md_fitsAll (1, v0R, v1J, v3I, v4I, 0, σ)
noncomputable def L_Md_fitsAll_2 (v0R : Nat) (v1J : Int64) (v4I : Int32) (s0I : Int32) (σ : AM) : Option (Int32 × AM) := lp F_Md_fitsAll (2, v0R, v1J, 0, v4I, s0I, σ)
noncomputable def L_Md_fitsAll_3 (v3I : Int32) (σ : AM) : Option (Int32 × AM) := lp F_Md_fitsAll (3, 0, 0, v3I, 0, 0, σ)
set_option maxRecDepth 20000 in
theorem E_Md_fitsAll_0 (v0R : Nat) (v1J : Int64) (σ : AM) : L_Md_fitsAll_0 v0R v1J σ = (gd (okO σ v0R 12) <| bnd (M_Md_fits v0R v1J σ) fun r1 σ2 => L_Md_fitsAll_1 v0R v1J r1 ((0 : Int32)) σ2) := by
  unfold L_Md_fitsAll_0
  rw [lp_eq]
  show lpK (lp F_Md_fitsAll) (T_Md_fitsAll_0 v0R v1J σ) = _
  unfold T_Md_fitsAll_0
  simp only [lpK_ite, lq_inl, lq_inr, lpK_bnd, lpK_gd, lq_let]
  try rfl
set_option maxRecDepth 20000 in
theorem E_Md_fitsAll_1 (v0R : Nat) (v1J : Int64) (v3I : Int32) (v4I : Int32) (σ : AM) : L_Md_fitsAll_1 v0R v1J v3I v4I σ = (gd (okO σ v0R 12) <| if v4I < (aI σ v0R 42) then (if v3I = 0 then (L_Md_fitsAll_3 v3I σ) else (gd (okO σ (aR σ v0R 43) 101) <| gd (inB v4I (aN σ (aR σ v0R 43))) <| bnd (M_Md_ringOfSize v0R v1J (aI σ (aR σ v0R 43) v4I.toNatClampNeg) σ) fun r4 σ5 => gd (okO σ5 v0R 12) <| gd (okO σ5 (aR σ5 v0R 44) 101) <| gd (inB v4I (aN σ5 (aR σ5 v0R 44))) <| if r4 = (aI σ5 (aR σ5 v0R 44) v4I.toNatClampNeg) then (L_Md_fitsAll_2 v0R v1J v4I ((1 : Int32)) σ5) else (L_Md_fitsAll_2 v0R v1J v4I ((0 : Int32)) σ5))) else (L_Md_fitsAll_3 v3I σ)) := by
  unfold L_Md_fitsAll_1
  rw [lp_eq]
  show lpK (lp F_Md_fitsAll) (T_Md_fitsAll_1 v0R v1J v3I v4I σ) = _
  unfold T_Md_fitsAll_1
  simp only [lpK_ite, lq_inl, lq_inr, lpK_bnd, lpK_gd, lq_let]
  try rfl
set_option maxRecDepth 20000 in
theorem E_Md_fitsAll_2 (v0R : Nat) (v1J : Int64) (v4I : Int32) (s0I : Int32) (σ : AM) : L_Md_fitsAll_2 v0R v1J v4I s0I σ = (L_Md_fitsAll_1 v0R v1J s0I (v4I + (1 : Int32)) σ) := by
  unfold L_Md_fitsAll_2
  rw [lp_eq]
  show lpK (lp F_Md_fitsAll) (T_Md_fitsAll_2 v0R v1J v4I s0I σ) = _
  unfold T_Md_fitsAll_2
  simp only [lpK_ite, lq_inl, lq_inr, lpK_bnd, lpK_gd, lq_let]
  try rfl
set_option maxRecDepth 20000 in
theorem E_Md_fitsAll_3 (v3I : Int32) (σ : AM) : L_Md_fitsAll_3 v3I σ = (gd (isB v3I) <| (some (v3I, σ))) := by
  unfold L_Md_fitsAll_3
  rw [lp_eq]
  show lpK (lp F_Md_fitsAll) (T_Md_fitsAll_3 v3I σ) = _
  unfold T_Md_fitsAll_3
  simp only [lpK_ite, lq_inl, lq_inr, lpK_bnd, lpK_gd, lq_let]
  try rfl
noncomputable def M_Md_fitsAll (v0R : Nat) (v1J : Int64) (σ : AM) : Option (Int32 × AM) := mw σ (L_Md_fitsAll_0 v0R v1J σ)
def I_Md_fitsAll (G : GX) (p : Program) (l : Launch) (e : Env) (s : State) (m : MethodId) (args : Array Value) (below : List Frame) (meth : Method) (c : Code) (z0 u0 n : Nat) : Prop :=
  (∀ (v0R : Nat) (v1J : Int64) (σ : AM), VX (QM eI G args s below z0 u0) G p l e s m args below meth c 2 z0 u0 5 (lpn F_Md_fitsAll n (0, v0R, v1J, 0, 0, 0, σ)) 0 [(0, .ref v0R), (1, .long v1J)] [] σ) ∧
  (∀ (v0R : Nat) (v1J : Int64) (v3I : Int32) (v4I : Int32) (σ : AM), VX (QM eI G args s below z0 u0) G p l e s m args below meth c 2 z0 u0 5 (lpn F_Md_fitsAll n (1, v0R, v1J, v3I, v4I, 0, σ)) 9 [(0, .ref v0R), (1, .long v1J), (3, .int v3I), (4, .int v4I)] [] σ) ∧
  (∀ (v0R : Nat) (v1J : Int64) (v4I : Int32) (s0I : Int32) (σ : AM), VX (QM eI G args s below z0 u0) G p l e s m args below meth c 2 z0 u0 5 (lpn F_Md_fitsAll n (2, v0R, v1J, 0, v4I, s0I, σ)) 49 [(0, .ref v0R), (1, .long v1J), (4, .int v4I)] [.int s0I] σ) ∧
  (∀ (v3I : Int32) (σ : AM), VX (QM eI G args s below z0 u0) G p l e s m args below meth c 2 z0 u0 5 (lpn F_Md_fitsAll n (3, 0, 0, v3I, 0, 0, σ)) 56 [(3, .int v3I)] [] σ)
set_option maxRecDepth 20000 in
theorem s_Md_fitsAll_0 {G : GX} {p : Program} {l : Launch} {e : Env} {s : State} {m : MethodId} {args : Array Value} {below : List Frame} {meth : Method} {c : Code} {z0 u0 n : Nat} (C : Cx G p s m args meth c prog_14_method_53_code 5 "BellPlateModel" ((some FieldType.boolean))) (IH : I_Md_fitsAll G p l e s m args below meth c z0 u0 n) (v0R : Nat) (v1J : Int64) (σ : AM) : VX (QM eI G args s below z0 u0) G p l e s m args below meth c 2 z0 u0 5 (lpK (lpn F_Md_fitsAll n) (T_Md_fitsAll_0 v0R v1J σ)) 0 [(0, .ref v0R), (1, .long v1J)] [] σ := by
  unfold T_Md_fitsAll_0
  refine x_aload_n C d_Md_fitsAll_0 0 rfl ?_
  refine x_lload_n C d_Md_fitsAll_1 1 rfl ?_
  refine x_gd (fun h3 => ?_)
  refine x_callVI (As := [.long v1J]) C (c_Md_fits G l v0R v1J σ) (okO_iff.mp h3) rfl w2225 w88 w2223 w2226 w134 k_Md_fits rfl (by decide) (by decide) rfl (Nat.le_of_ble_eq_true rfl) d_Md_fitsAll_2 (fun r1 σ2 => ?_)
  refine x_istore_n (lv' := [(3, .int r1), (0, .ref v0R), (1, .long v1J)]) C d_Md_fitsAll_5 (by decide) rfl rfl ?_
  refine x_iconst (v := (0 : Int32)) C d_Md_fitsAll_6 (by decide) ?_
  refine x_istore (lv' := [(4, .int (0 : Int32)), (3, .int r1), (0, .ref v0R), (1, .long v1J)]) C d_Md_fitsAll_7 (by decide) rfl ?_
  refine x_lv [2, 3, 1, 0] rfl ?_
  exact IH.2.1 v0R v1J r1 ((0 : Int32)) (σ2)
set_option maxRecDepth 20000 in
theorem s_Md_fitsAll_1 {G : GX} {p : Program} {l : Launch} {e : Env} {s : State} {m : MethodId} {args : Array Value} {below : List Frame} {meth : Method} {c : Code} {z0 u0 n : Nat} (C : Cx G p s m args meth c prog_14_method_53_code 5 "BellPlateModel" ((some FieldType.boolean))) (IH : I_Md_fitsAll G p l e s m args below meth c z0 u0 n) (v0R : Nat) (v1J : Int64) (v3I : Int32) (v4I : Int32) (σ : AM) : VX (QM eI G args s below z0 u0) G p l e s m args below meth c 2 z0 u0 5 (lpK (lpn F_Md_fitsAll n) (T_Md_fitsAll_1 v0R v1J v3I v4I σ)) 9 [(0, .ref v0R), (1, .long v1J), (3, .int v3I), (4, .int v4I)] [] σ := by
  unfold T_Md_fitsAll_1
  refine x_iload C d_Md_fitsAll_9 3 rfl ?_
  refine x_aload_n C d_Md_fitsAll_11 0 rfl ?_
  refine x_gd (fun h1 => ?_)
  refine x_getI (k := 42) C (okO_iff.mp h1) rfl j11_ok (by decide) rfl w1894 d_Md_fitsAll_12 ?_
  refine x_icmp_ge (tgt := 56) C d_Md_fitsAll_15 (by decide) (fun _ => ?_) (fun _ => ?_)
  · refine x_iload_n C d_Md_fitsAll_18 2 rfl ?_
    refine x_if_eq (tgt := 56) C d_Md_fitsAll_19 (by decide) (fun _ => ?_) (fun _ => ?_)
    · refine x_lv [2] rfl ?_
      exact IH.2.2.2 v3I (σ)
    · refine x_aload_n C d_Md_fitsAll_22 0 rfl ?_
      refine x_lload_n C d_Md_fitsAll_23 1 rfl ?_
      refine x_aload_n C d_Md_fitsAll_24 0 rfl ?_
      refine x_gd (fun h2 => ?_)
      refine x_getR (k := 43) (kv := 101) C (okO_iff.mp h1) rfl j11_ok (by decide) rfl (okO_iff.mp h2) (by decide) w1895 d_Md_fitsAll_25 ?_
      refine x_iload C d_Md_fitsAll_28 3 rfl ?_
      refine x_gd (fun h3 => ?_)
      refine x_aldI C (okO_iff.mp h2) (inB_iff.mp h3) d_Md_fitsAll_30 ?_
      refine x_callVI (As := [.long v1J, .int (aI σ (aR σ v0R 43) v4I.toNatClampNeg)]) C (c_Md_ringOfSize G l v0R v1J (aI σ (aR σ v0R 43) v4I.toNatClampNeg) σ) (okO_iff.mp h1) rfl w2229 w89 w2227 w2230 w134 k_Md_ringOfSize rfl (by decide) (by decide) rfl (Nat.le_of_ble_eq_true rfl) d_Md_fitsAll_31 (fun r4 σ5 => ?_)
      refine x_aload_n C d_Md_fitsAll_34 0 rfl ?_
      refine x_gd (fun h6 => ?_)
      refine x_gd (fun h7 => ?_)
      refine x_getR (k := 44) (kv := 101) C (okO_iff.mp h6) rfl j11_ok (by decide) rfl (okO_iff.mp h7) (by decide) w1896 d_Md_fitsAll_35 ?_
      refine x_iload C d_Md_fitsAll_38 3 rfl ?_
      refine x_gd (fun h8 => ?_)
      refine x_aldI C (okO_iff.mp h7) (inB_iff.mp h8) d_Md_fitsAll_40 ?_
      refine x_icmp_ne (tgt := 48) C d_Md_fitsAll_41 (by decide) (fun _ => ?_) (fun _ => ?_)
      · refine x_iconst (v := (1 : Int32)) C d_Md_fitsAll_44 (by decide) ?_
        refine x_goto (tgt := 49) C d_Md_fitsAll_45 (by decide) ?_
        refine x_lv [0, 1, 3] rfl ?_
        exact IH.2.2.1 v0R v1J v4I ((1 : Int32)) (σ5)
      · refine x_iconst (v := (0 : Int32)) C d_Md_fitsAll_48 (by decide) ?_
        refine x_lv [0, 1, 3] rfl ?_
        exact IH.2.2.1 v0R v1J v4I ((0 : Int32)) (σ5)
  · refine x_lv [2] rfl ?_
    exact IH.2.2.2 v3I (σ)
set_option maxRecDepth 20000 in
theorem s_Md_fitsAll_2 {G : GX} {p : Program} {l : Launch} {e : Env} {s : State} {m : MethodId} {args : Array Value} {below : List Frame} {meth : Method} {c : Code} {z0 u0 n : Nat} (C : Cx G p s m args meth c prog_14_method_53_code 5 "BellPlateModel" ((some FieldType.boolean))) (IH : I_Md_fitsAll G p l e s m args below meth c z0 u0 n) (v0R : Nat) (v1J : Int64) (v4I : Int32) (s0I : Int32) (σ : AM) : VX (QM eI G args s below z0 u0) G p l e s m args below meth c 2 z0 u0 5 (lpK (lpn F_Md_fitsAll n) (T_Md_fitsAll_2 v0R v1J v4I s0I σ)) 49 [(0, .ref v0R), (1, .long v1J), (4, .int v4I)] [.int s0I] σ := by
  unfold T_Md_fitsAll_2
  refine x_istore_n (lv' := [(3, .int s0I), (0, .ref v0R), (1, .long v1J), (4, .int v4I)]) C d_Md_fitsAll_49 (by decide) rfl rfl ?_
  refine x_iinc (v := v4I + (1 : Int32)) (lv' := [(4, .int (v4I + (1 : Int32))), (3, .int s0I), (0, .ref v0R), (1, .long v1J)]) C d_Md_fitsAll_50 3 rfl rfl (by decide) rfl ?_
  refine x_goto (tgt := 9) C d_Md_fitsAll_53 (by decide) ?_
  refine x_lv [2, 3, 1, 0] rfl ?_
  exact IH.2.1 v0R v1J s0I (v4I + (1 : Int32)) (σ)
set_option maxRecDepth 20000 in
theorem s_Md_fitsAll_3 {G : GX} {p : Program} {l : Launch} {e : Env} {s : State} {m : MethodId} {args : Array Value} {below : List Frame} {meth : Method} {c : Code} {z0 u0 n : Nat} (C : Cx G p s m args meth c prog_14_method_53_code 5 "BellPlateModel" ((some FieldType.boolean))) (IH : I_Md_fitsAll G p l e s m args below meth c z0 u0 n) (v3I : Int32) (σ : AM) : VX (QM eI G args s below z0 u0) G p l e s m args below meth c 2 z0 u0 5 (lpK (lpn F_Md_fitsAll n) (T_Md_fitsAll_3 v3I σ)) 56 [(3, .int v3I)] [] σ := by
  unfold T_Md_fitsAll_3
  refine x_iload_n C d_Md_fitsAll_56 0 rfl ?_
  refine x_gd (fun h1 => ?_)
  exact x_zret C (isB_narrow h1) d_Md_fitsAll_57
theorem i_Md_fitsAll {G : GX} {p : Program} {l : Launch} {e : Env} {s : State} {m : MethodId} {args : Array Value} {below : List Frame} {meth : Method} {c : Code} {z0 u0 : Nat} (C : Cx G p s m args meth c prog_14_method_53_code 5 "BellPlateModel" ((some FieldType.boolean))) (n : Nat) : I_Md_fitsAll G p l e s m args below meth c z0 u0 n := by
  induction n with
  | zero => exact ⟨fun _ _ _ => x_none, fun _ _ _ _ _ => x_none, fun _ _ _ _ _ => x_none, fun _ _ => x_none⟩
  | succ n IH => exact ⟨fun v0R v1J σ => s_Md_fitsAll_0 C IH v0R v1J σ, fun v0R v1J v3I v4I σ => s_Md_fitsAll_1 C IH v0R v1J v3I v4I σ, fun v0R v1J v4I s0I σ => s_Md_fitsAll_2 C IH v0R v1J v4I s0I σ, fun v3I σ => s_Md_fitsAll_3 C IH v3I σ⟩
theorem c_Md_fitsAll (G : GX) (l : Launch) (v0R : Nat) (v1J : Int64) (σ : AM) : CT eI G l 2 y_Md_fitsAll prog_14_method_53_code 5 ((some FieldType.boolean)) [.ref v0R, .long v1J] σ (M_Md_fitsAll v0R v1J σ) := by
  refine ct_of (by decide +kernel) (Nat.le_of_ble_eq_true rfl) (fun p e s m args below meth c C hin => ?_)
  refine x_lve (lv' := [(0, .ref v0R), (1, .long v1J)]) rfl ?_
  intro r σ' h
  obtain ⟨n, hn⟩ := (lp_iff _ _ _).mp h
  exact (i_Md_fitsAll C n).1 v0R v1J σ r σ' hn
/-! BellPlateModel.findLeft()V -/
abbrev y_Md_findLeft : MethodName := ⟨"BellPlateModel", "findLeft", "()V"⟩
theorem k_Md_findLeft : y_Md_findLeft.cls ≠ "java/lang/invoke/MethodHandle" ∧ y_Md_findLeft.cls ≠ "java/lang/invoke/VarHandle" ∧ (parseMethodDescriptor y_Md_findLeft.desc).map (fun d => d.parameters.length) = some 0 := by decide +kernel
theorem d_Md_findLeft_0 : decode prog_14_method_54_code 0 = .ok (.aload_n 0, 1) := by decide +kernel
theorem d_Md_findLeft_1 : decode prog_14_method_54_code 1 = .ok (.invokevirtual 369, 3) := by decide +kernel
theorem d_Md_findLeft_4 : decode prog_14_method_54_code 4 = .ok (.aload_n 0, 1) := by decide +kernel
theorem d_Md_findLeft_5 : decode prog_14_method_54_code 5 = .ok (.iconst 0, 1) := by decide +kernel
theorem d_Md_findLeft_6 : decode prog_14_method_54_code 6 = .ok (.putfield 372, 3) := by decide +kernel
theorem d_Md_findLeft_9 : decode prog_14_method_54_code 9 = .ok (.aload_n 0, 1) := by decide +kernel
theorem d_Md_findLeft_10 : decode prog_14_method_54_code 10 = .ok (.iconst 0, 1) := by decide +kernel
theorem d_Md_findLeft_11 : decode prog_14_method_54_code 11 = .ok (.putfield 375, 3) := by decide +kernel
theorem d_Md_findLeft_14 : decode prog_14_method_54_code 14 = .ok (.iconst 0, 1) := by decide +kernel
theorem d_Md_findLeft_15 : decode prog_14_method_54_code 15 = .ok (.istore_n 1, 1) := by decide +kernel
theorem d_Md_findLeft_16 : decode prog_14_method_54_code 16 = .ok (.iload_n 1, 1) := by decide +kernel
theorem d_Md_findLeft_17 : decode prog_14_method_54_code 17 = .ok (.aload_n 0, 1) := by decide +kernel
theorem d_Md_findLeft_18 : decode prog_14_method_54_code 18 = .ok (.getfield 316, 3) := by decide +kernel
theorem d_Md_findLeft_21 : decode prog_14_method_54_code 21 = .ok (.if_icmp .ge 57, 3) := by decide +kernel
theorem d_Md_findLeft_24 : decode prog_14_method_54_code 24 = .ok (.aload_n 0, 1) := by decide +kernel
theorem d_Md_findLeft_25 : decode prog_14_method_54_code 25 = .ok (.aload_n 0, 1) := by decide +kernel
theorem d_Md_findLeft_26 : decode prog_14_method_54_code 26 = .ok (.getfield 82, 3) := by decide +kernel
theorem d_Md_findLeft_29 : decode prog_14_method_54_code 29 = .ok (.iload_n 1, 1) := by decide +kernel
theorem d_Md_findLeft_30 : decode prog_14_method_54_code 30 = .ok (.laload, 1) := by decide +kernel
theorem d_Md_findLeft_31 : decode prog_14_method_54_code 31 = .ok (.invokevirtual 378, 3) := by decide +kernel
theorem d_Md_findLeft_34 : decode prog_14_method_54_code 34 = .ok (.ifCond .eq 38, 3) := by decide +kernel
theorem d_Md_findLeft_37 : decode prog_14_method_54_code 37 = .ok (.aload_n 0, 1) := by decide +kernel
theorem d_Md_findLeft_38 : decode prog_14_method_54_code 38 = .ok (.getfield 116, 3) := by decide +kernel
theorem d_Md_findLeft_41 : decode prog_14_method_54_code 41 = .ok (.aload_n 0, 1) := by decide +kernel
theorem d_Md_findLeft_42 : decode prog_14_method_54_code 42 = .ok (.getfield 372, 3) := by decide +kernel
theorem d_Md_findLeft_45 : decode prog_14_method_54_code 45 = .ok (.iload_n 1, 1) := by decide +kernel
theorem d_Md_findLeft_46 : decode prog_14_method_54_code 46 = .ok (.iastore, 1) := by decide +kernel
theorem d_Md_findLeft_47 : decode prog_14_method_54_code 47 = .ok (.aload_n 0, 1) := by decide +kernel
theorem d_Md_findLeft_48 : decode prog_14_method_54_code 48 = .ok (.dup, 1) := by decide +kernel
theorem d_Md_findLeft_49 : decode prog_14_method_54_code 49 = .ok (.getfield 372, 3) := by decide +kernel
theorem d_Md_findLeft_52 : decode prog_14_method_54_code 52 = .ok (.iconst 1, 1) := by decide +kernel
theorem d_Md_findLeft_53 : decode prog_14_method_54_code 53 = .ok (.iadd, 1) := by decide +kernel
theorem d_Md_findLeft_54 : decode prog_14_method_54_code 54 = .ok (.putfield 372, 3) := by decide +kernel
theorem d_Md_findLeft_57 : decode prog_14_method_54_code 57 = .ok (.aload_n 0, 1) := by decide +kernel
theorem d_Md_findLeft_58 : decode prog_14_method_54_code 58 = .ok (.dup, 1) := by decide +kernel
theorem d_Md_findLeft_59 : decode prog_14_method_54_code 59 = .ok (.getfield 375, 3) := by decide +kernel
theorem d_Md_findLeft_62 : decode prog_14_method_54_code 62 = .ok (.aload_n 0, 1) := by decide +kernel
theorem d_Md_findLeft_63 : decode prog_14_method_54_code 63 = .ok (.getfield 85, 3) := by decide +kernel
theorem d_Md_findLeft_66 : decode prog_14_method_54_code 66 = .ok (.iload_n 1, 1) := by decide +kernel
theorem d_Md_findLeft_67 : decode prog_14_method_54_code 67 = .ok (.iaload, 1) := by decide +kernel
theorem d_Md_findLeft_68 : decode prog_14_method_54_code 68 = .ok (.iadd, 1) := by decide +kernel
theorem d_Md_findLeft_69 : decode prog_14_method_54_code 69 = .ok (.putfield 375, 3) := by decide +kernel
theorem d_Md_findLeft_72 : decode prog_14_method_54_code 72 = .ok (.iinc 1 1, 3) := by decide +kernel
theorem d_Md_findLeft_75 : decode prog_14_method_54_code 75 = .ok (.goto (-59), 3) := by decide +kernel
theorem d_Md_findLeft_78 : decode prog_14_method_54_code 78 = .ok (.return_, 1) := by decide +kernel
abbrev S_Md_findLeft : Type := Nat × Nat × Int32 × AM
noncomputable def T_Md_findLeft_0 (v0R : Nat) (σ : AM) : S_Md_findLeft ⊕ Option (Unit × AM) :=
  gdT (okO σ v0R 12) <| bndT (M_Md_findMust v0R σ) fun _ σ2 => gdT (okO σ2 v0R 12) <| letT (sI σ2 v0R 46 (0 : Int32)) fun σ5 => letT (sI σ5 v0R 47 (0 : Int32)) fun σ7 => .inl (1, v0R, (0 : Int32), σ7)
noncomputable def T_Md_findLeft_1 (v0R : Nat) (v1I : Int32) (σ : AM) : S_Md_findLeft ⊕ Option (Unit × AM) :=
  gdT (okO σ v0R 12) <| if v1I < (aI σ v0R 29) then (gdT (okO σ (aR σ v0R 30) 102) <| gdT (inB v1I (aN σ (aR σ v0R 30))) <| bndT (M_Md_fitsAll v0R (aL σ (aR σ v0R 30) v1I.toNatClampNeg) σ) fun r4 σ5 => if r4 = 0 then (.inl (2, v0R, v1I, σ5)) else (gdT (okO σ5 v0R 12) <| gdT (okO σ5 (aR σ5 v0R 45) 101) <| gdT (inB (aI σ5 v0R 46) (aN σ5 (aR σ5 v0R 45))) <| letT (sI σ5 (aR σ5 v0R 45) (aI σ5 v0R 46).toNatClampNeg v1I) fun σ9 => letT (sI σ9 v0R 46 ((aI σ9 v0R 46) + (1 : Int32))) fun σ11 => gdT (okO σ11 (aR σ11 v0R 31) 101) <| gdT (inB v1I (aN σ11 (aR σ11 v0R 31))) <| letT (sI σ11 v0R 47 ((aI σ11 v0R 47) + (aI σ11 (aR σ11 v0R 31) v1I.toNatClampNeg))) fun σ15 => .inl (2, v0R, v1I, σ15))) else (.inr (some ((), σ)))
noncomputable def T_Md_findLeft_2 (v0R : Nat) (v1I : Int32) (σ : AM) : S_Md_findLeft ⊕ Option (Unit × AM) :=
  .inl (1, v0R, v1I + (1 : Int32), σ)
noncomputable def F_Md_findLeft : S_Md_findLeft → S_Md_findLeft ⊕ Option (Unit × AM) := fun s => match s.1 with
  | 0 => T_Md_findLeft_0 (s.2.1) (s.2.2.2)
  | 1 => T_Md_findLeft_1 (s.2.1) (s.2.2.1) (s.2.2.2)
  | _ => T_Md_findLeft_2 (s.2.1) (s.2.2.1) (s.2.2.2)
noncomputable def L_Md_findLeft_0 (v0R : Nat) (σ : AM) : Option (Unit × AM) := lp F_Md_findLeft (0, v0R, 0, σ)
noncomputable def L_Md_findLeft_1 (v0R : Nat) (v1I : Int32) (σ : AM) : Option (Unit × AM) := lp F_Md_findLeft (1, v0R, v1I, σ)
noncomputable def L_Md_findLeft_2 (v0R : Nat) (v1I : Int32) (σ : AM) : Option (Unit × AM) := lp F_Md_findLeft (2, v0R, v1I, σ)
set_option maxRecDepth 20000 in
theorem E_Md_findLeft_0 (v0R : Nat) (σ : AM) : L_Md_findLeft_0 v0R σ = (gd (okO σ v0R 12) <| bnd (M_Md_findMust v0R σ) fun _ σ2 => gd (okO σ2 v0R 12) <| letT (sI σ2 v0R 46 (0 : Int32)) fun σ5 => letT (sI σ5 v0R 47 (0 : Int32)) fun σ7 => L_Md_findLeft_1 v0R ((0 : Int32)) σ7) := by
  unfold L_Md_findLeft_0
  rw [lp_eq]
  show lpK (lp F_Md_findLeft) (T_Md_findLeft_0 v0R σ) = _
  unfold T_Md_findLeft_0
  simp only [lpK_ite, lq_inl, lq_inr, lpK_bnd, lpK_gd, lq_let]
  try rfl
set_option maxRecDepth 20000 in
theorem E_Md_findLeft_1 (v0R : Nat) (v1I : Int32) (σ : AM) : L_Md_findLeft_1 v0R v1I σ = (gd (okO σ v0R 12) <| if v1I < (aI σ v0R 29) then (gd (okO σ (aR σ v0R 30) 102) <| gd (inB v1I (aN σ (aR σ v0R 30))) <| bnd (M_Md_fitsAll v0R (aL σ (aR σ v0R 30) v1I.toNatClampNeg) σ) fun r4 σ5 => if r4 = 0 then (L_Md_findLeft_2 v0R v1I σ5) else (gd (okO σ5 v0R 12) <| gd (okO σ5 (aR σ5 v0R 45) 101) <| gd (inB (aI σ5 v0R 46) (aN σ5 (aR σ5 v0R 45))) <| letT (sI σ5 (aR σ5 v0R 45) (aI σ5 v0R 46).toNatClampNeg v1I) fun σ9 => letT (sI σ9 v0R 46 ((aI σ9 v0R 46) + (1 : Int32))) fun σ11 => gd (okO σ11 (aR σ11 v0R 31) 101) <| gd (inB v1I (aN σ11 (aR σ11 v0R 31))) <| letT (sI σ11 v0R 47 ((aI σ11 v0R 47) + (aI σ11 (aR σ11 v0R 31) v1I.toNatClampNeg))) fun σ15 => L_Md_findLeft_2 v0R v1I σ15)) else ((some ((), σ)))) := by
  unfold L_Md_findLeft_1
  rw [lp_eq]
  show lpK (lp F_Md_findLeft) (T_Md_findLeft_1 v0R v1I σ) = _
  unfold T_Md_findLeft_1
  simp only [lpK_ite, lq_inl, lq_inr, lpK_bnd, lpK_gd, lq_let]
  try rfl
set_option maxRecDepth 20000 in
theorem E_Md_findLeft_2 (v0R : Nat) (v1I : Int32) (σ : AM) : L_Md_findLeft_2 v0R v1I σ = (L_Md_findLeft_1 v0R (v1I + (1 : Int32)) σ) := by
  unfold L_Md_findLeft_2
  rw [lp_eq]
  show lpK (lp F_Md_findLeft) (T_Md_findLeft_2 v0R v1I σ) = _
  unfold T_Md_findLeft_2
  simp only [lpK_ite, lq_inl, lq_inr, lpK_bnd, lpK_gd, lq_let]
  try rfl
noncomputable def M_Md_findLeft (v0R : Nat) (σ : AM) : Option (Unit × AM) := mw σ (L_Md_findLeft_0 v0R σ)
def I_Md_findLeft (G : GX) (p : Program) (l : Launch) (e : Env) (s : State) (m : MethodId) (args : Array Value) (below : List Frame) (meth : Method) (c : Code) (z0 u0 n : Nat) : Prop :=
  (∀ (v0R : Nat) (σ : AM), VX (QM eV G args s below z0 u0) G p l e s m args below meth c 3 z0 u0 2 (lpn F_Md_findLeft n (0, v0R, 0, σ)) 0 [(0, .ref v0R)] [] σ) ∧
  (∀ (v0R : Nat) (v1I : Int32) (σ : AM), VX (QM eV G args s below z0 u0) G p l e s m args below meth c 3 z0 u0 2 (lpn F_Md_findLeft n (1, v0R, v1I, σ)) 16 [(0, .ref v0R), (1, .int v1I)] [] σ) ∧
  (∀ (v0R : Nat) (v1I : Int32) (σ : AM), VX (QM eV G args s below z0 u0) G p l e s m args below meth c 3 z0 u0 2 (lpn F_Md_findLeft n (2, v0R, v1I, σ)) 72 [(0, .ref v0R), (1, .int v1I)] [] σ)
set_option maxRecDepth 20000 in
theorem s_Md_findLeft_0 {G : GX} {p : Program} {l : Launch} {e : Env} {s : State} {m : MethodId} {args : Array Value} {below : List Frame} {meth : Method} {c : Code} {z0 u0 n : Nat} (C : Cx G p s m args meth c prog_14_method_54_code 2 "BellPlateModel" ((none))) (IH : I_Md_findLeft G p l e s m args below meth c z0 u0 n) (v0R : Nat) (σ : AM) : VX (QM eV G args s below z0 u0) G p l e s m args below meth c 3 z0 u0 2 (lpK (lpn F_Md_findLeft n) (T_Md_findLeft_0 v0R σ)) 0 [(0, .ref v0R)] [] σ := by
  unfold T_Md_findLeft_0
  refine x_aload_n C d_Md_findLeft_0 0 rfl ?_
  refine x_gd (fun h3 => ?_)
  refine x_callVV (As := []) C (c_Md_findMust G l v0R  σ) (okO_iff.mp h3) rfl w2217 w86 w2215 w2218 w134 k_Md_findMust rfl (by decide) (by decide) rfl (Nat.le_of_ble_eq_true rfl) d_Md_findLeft_1 (fun r1 σ2 => ?_)
  refine x_aload_n C d_Md_findLeft_4 0 rfl ?_
  refine x_iconst (v := (0 : Int32)) C d_Md_findLeft_5 (by decide) ?_
  refine x_gd (fun h4 => ?_)
  refine x_putI (k := 46) C (okO_iff.mp h4) rfl j11_ok y11_ok n11_ok (by decide) rfl rfl rfl rfl w1898 d_Md_findLeft_6 ?_
  refine x_letS (fun σ5 e6 => ?_)
  refine x_aload_n C d_Md_findLeft_9 0 rfl ?_
  refine x_iconst (v := (0 : Int32)) C d_Md_findLeft_10 (by decide) ?_
  refine x_putI (k := 47) C (by first | exact (okO_iff.mp h4) | (rw [e6]; exact (okO_iff.mp h4))) rfl j11_ok y11_ok n11_ok (by decide) rfl rfl rfl rfl w1899 d_Md_findLeft_11 ?_
  refine x_letS (fun σ7 e8 => ?_)
  refine x_iconst (v := (0 : Int32)) C d_Md_findLeft_14 (by decide) ?_
  refine x_istore_n (lv' := [(1, .int (0 : Int32)), (0, .ref v0R)]) C d_Md_findLeft_15 (by decide) rfl rfl ?_
  refine x_lv [1, 0] rfl ?_
  exact IH.2.1 v0R ((0 : Int32)) (σ7)
set_option maxRecDepth 20000 in
theorem s_Md_findLeft_1 {G : GX} {p : Program} {l : Launch} {e : Env} {s : State} {m : MethodId} {args : Array Value} {below : List Frame} {meth : Method} {c : Code} {z0 u0 n : Nat} (C : Cx G p s m args meth c prog_14_method_54_code 2 "BellPlateModel" ((none))) (IH : I_Md_findLeft G p l e s m args below meth c z0 u0 n) (v0R : Nat) (v1I : Int32) (σ : AM) : VX (QM eV G args s below z0 u0) G p l e s m args below meth c 3 z0 u0 2 (lpK (lpn F_Md_findLeft n) (T_Md_findLeft_1 v0R v1I σ)) 16 [(0, .ref v0R), (1, .int v1I)] [] σ := by
  unfold T_Md_findLeft_1
  refine x_iload_n C d_Md_findLeft_16 1 rfl ?_
  refine x_aload_n C d_Md_findLeft_17 0 rfl ?_
  refine x_gd (fun h1 => ?_)
  refine x_getI (k := 29) C (okO_iff.mp h1) rfl j11_ok (by decide) rfl w1881 d_Md_findLeft_18 ?_
  refine x_icmp_ge (tgt := 78) C d_Md_findLeft_21 (by decide) (fun _ => ?_) (fun _ => ?_)
  · refine x_aload_n C d_Md_findLeft_24 0 rfl ?_
    refine x_aload_n C d_Md_findLeft_25 0 rfl ?_
    refine x_gd (fun h2 => ?_)
    refine x_getR (k := 30) (kv := 102) C (okO_iff.mp h1) rfl j11_ok (by decide) rfl (okO_iff.mp h2) (by decide) w1882 d_Md_findLeft_26 ?_
    refine x_iload_n C d_Md_findLeft_29 1 rfl ?_
    refine x_gd (fun h3 => ?_)
    refine x_aldJ C (okO_iff.mp h2) (inB_iff.mp h3) d_Md_findLeft_30 ?_
    refine x_callVI (As := [.long (aL σ (aR σ v0R 30) v1I.toNatClampNeg)]) C (c_Md_fitsAll G l v0R (aL σ (aR σ v0R 30) v1I.toNatClampNeg) σ) (okO_iff.mp h1) rfl w2221 w87 w2219 w2222 w134 k_Md_fitsAll rfl (by decide) (by decide) rfl (Nat.le_of_ble_eq_true rfl) d_Md_findLeft_31 (fun r4 σ5 => ?_)
    refine x_if_eq (tgt := 72) C d_Md_findLeft_34 (by decide) (fun _ => ?_) (fun _ => ?_)
    · exact IH.2.2 v0R v1I (σ5)
    · refine x_aload_n C d_Md_findLeft_37 0 rfl ?_
      refine x_gd (fun h6 => ?_)
      refine x_gd (fun h7 => ?_)
      refine x_getR (k := 45) (kv := 101) C (okO_iff.mp h6) rfl j11_ok (by decide) rfl (okO_iff.mp h7) (by decide) w1897 d_Md_findLeft_38 ?_
      refine x_aload_n C d_Md_findLeft_41 0 rfl ?_
      refine x_getI (k := 46) C (okO_iff.mp h6) rfl j11_ok (by decide) rfl w1898 d_Md_findLeft_42 ?_
      refine x_iload_n C d_Md_findLeft_45 1 rfl ?_
      refine x_gd (fun h8 => ?_)
      refine x_astI C (okO_iff.mp h7) (inB_iff.mp h8) d_Md_findLeft_46 ?_
      refine x_letS (fun σ9 e10 => ?_)
      refine x_aload_n C d_Md_findLeft_47 0 rfl ?_
      refine x_dup C d_Md_findLeft_48 rfl ?_
      refine x_getI (k := 46) C (by first | exact (okO_iff.mp h6) | (rw [e10]; exact (okO_iff.mp h6))) rfl j11_ok (by decide) rfl w1898 d_Md_findLeft_49 ?_
      refine x_iconst (v := (1 : Int32)) C d_Md_findLeft_52 (by decide) ?_
      refine x_iadd C d_Md_findLeft_53 ?_
      refine x_putI (k := 46) C (by first | exact (okO_iff.mp h6) | (rw [e10]; exact (okO_iff.mp h6))) rfl j11_ok y11_ok n11_ok (by decide) rfl rfl rfl rfl w1898 d_Md_findLeft_54 ?_
      refine x_letS (fun σ11 e12 => ?_)
      refine x_aload_n C d_Md_findLeft_57 0 rfl ?_
      refine x_dup C d_Md_findLeft_58 rfl ?_
      refine x_getI (k := 47) C (by first | exact (okO_iff.mp h6) | (rw [e12, e10]; exact (okO_iff.mp h6))) rfl j11_ok (by decide) rfl w1899 d_Md_findLeft_59 ?_
      refine x_aload_n C d_Md_findLeft_62 0 rfl ?_
      refine x_gd (fun h13 => ?_)
      refine x_getR (k := 31) (kv := 101) C (by first | exact (okO_iff.mp h6) | (rw [e12, e10]; exact (okO_iff.mp h6))) rfl j11_ok (by decide) rfl (okO_iff.mp h13) (by decide) w1883 d_Md_findLeft_63 ?_
      refine x_iload_n C d_Md_findLeft_66 1 rfl ?_
      refine x_gd (fun h14 => ?_)
      refine x_aldI C (okO_iff.mp h13) (inB_iff.mp h14) d_Md_findLeft_67 ?_
      refine x_iadd C d_Md_findLeft_68 ?_
      refine x_putI (k := 47) C (by first | exact (okO_iff.mp h6) | (rw [e12, e10]; exact (okO_iff.mp h6))) rfl j11_ok y11_ok n11_ok (by decide) rfl rfl rfl rfl w1899 d_Md_findLeft_69 ?_
      refine x_letS (fun σ15 e16 => ?_)
      exact IH.2.2 v0R v1I (σ15)
  · exact x_vret C d_Md_findLeft_78
set_option maxRecDepth 20000 in
theorem s_Md_findLeft_2 {G : GX} {p : Program} {l : Launch} {e : Env} {s : State} {m : MethodId} {args : Array Value} {below : List Frame} {meth : Method} {c : Code} {z0 u0 n : Nat} (C : Cx G p s m args meth c prog_14_method_54_code 2 "BellPlateModel" ((none))) (IH : I_Md_findLeft G p l e s m args below meth c z0 u0 n) (v0R : Nat) (v1I : Int32) (σ : AM) : VX (QM eV G args s below z0 u0) G p l e s m args below meth c 3 z0 u0 2 (lpK (lpn F_Md_findLeft n) (T_Md_findLeft_2 v0R v1I σ)) 72 [(0, .ref v0R), (1, .int v1I)] [] σ := by
  unfold T_Md_findLeft_2
  refine x_iinc (v := v1I + (1 : Int32)) (lv' := [(1, .int (v1I + (1 : Int32))), (0, .ref v0R)]) C d_Md_findLeft_72 1 rfl rfl (by decide) rfl ?_
  refine x_goto (tgt := 16) C d_Md_findLeft_75 (by decide) ?_
  refine x_lv [1, 0] rfl ?_
  exact IH.2.1 v0R (v1I + (1 : Int32)) (σ)
theorem i_Md_findLeft {G : GX} {p : Program} {l : Launch} {e : Env} {s : State} {m : MethodId} {args : Array Value} {below : List Frame} {meth : Method} {c : Code} {z0 u0 : Nat} (C : Cx G p s m args meth c prog_14_method_54_code 2 "BellPlateModel" ((none))) (n : Nat) : I_Md_findLeft G p l e s m args below meth c z0 u0 n := by
  induction n with
  | zero => exact ⟨fun _ _ => x_none, fun _ _ _ => x_none, fun _ _ _ => x_none⟩
  | succ n IH => exact ⟨fun v0R σ => s_Md_findLeft_0 C IH v0R σ, fun v0R v1I σ => s_Md_findLeft_1 C IH v0R v1I σ, fun v0R v1I σ => s_Md_findLeft_2 C IH v0R v1I σ⟩
theorem c_Md_findLeft (G : GX) (l : Launch) (v0R : Nat) (σ : AM) : CT eV G l 3 y_Md_findLeft prog_14_method_54_code 2 (none) [.ref v0R] σ (M_Md_findLeft v0R σ) := by
  refine ct_of (by decide +kernel) (Nat.le_of_ble_eq_true rfl) (fun p e s m args below meth c C hin => ?_)
  refine x_lve (lv' := [(0, .ref v0R)]) rfl ?_
  intro r σ' h
  obtain ⟨n, hn⟩ := (lp_iff _ _ _).mp h
  exact (i_Md_findLeft C n).1 v0R σ r σ' hn
/-! BellPlateModel.isLeft(I)Z -/
abbrev y_Md_isLeft : MethodName := ⟨"BellPlateModel", "isLeft", "(I)Z"⟩
theorem k_Md_isLeft : y_Md_isLeft.cls ≠ "java/lang/invoke/MethodHandle" ∧ y_Md_isLeft.cls ≠ "java/lang/invoke/VarHandle" ∧ (parseMethodDescriptor y_Md_isLeft.desc).map (fun d => d.parameters.length) = some 1 := by decide +kernel
theorem d_Md_isLeft_0 : decode prog_14_method_56_code 0 = .ok (.aload_n 0, 1) := by decide +kernel
theorem d_Md_isLeft_1 : decode prog_14_method_56_code 1 = .ok (.getfield 78, 3) := by decide +kernel
theorem d_Md_isLeft_4 : decode prog_14_method_56_code 4 = .ok (.iload_n 1, 1) := by decide +kernel
theorem d_Md_isLeft_5 : decode prog_14_method_56_code 5 = .ok (.baload, 1) := by decide +kernel
theorem d_Md_isLeft_6 : decode prog_14_method_56_code 6 = .ok (.ifCond .eq 20, 3) := by decide +kernel
theorem d_Md_isLeft_9 : decode prog_14_method_56_code 9 = .ok (.aload_n 0, 1) := by decide +kernel
theorem d_Md_isLeft_10 : decode prog_14_method_56_code 10 = .ok (.aload_n 0, 1) := by decide +kernel
theorem d_Md_isLeft_11 : decode prog_14_method_56_code 11 = .ok (.getfield 75, 3) := by decide +kernel
theorem d_Md_isLeft_14 : decode prog_14_method_56_code 14 = .ok (.iload_n 1, 1) := by decide +kernel
theorem d_Md_isLeft_15 : decode prog_14_method_56_code 15 = .ok (.laload, 1) := by decide +kernel
theorem d_Md_isLeft_16 : decode prog_14_method_56_code 16 = .ok (.invokevirtual 378, 3) := by decide +kernel
theorem d_Md_isLeft_19 : decode prog_14_method_56_code 19 = .ok (.ifCond .eq 7, 3) := by decide +kernel
theorem d_Md_isLeft_22 : decode prog_14_method_56_code 22 = .ok (.iconst 1, 1) := by decide +kernel
theorem d_Md_isLeft_23 : decode prog_14_method_56_code 23 = .ok (.goto 4, 3) := by decide +kernel
theorem d_Md_isLeft_26 : decode prog_14_method_56_code 26 = .ok (.iconst 0, 1) := by decide +kernel
theorem d_Md_isLeft_27 : decode prog_14_method_56_code 27 = .ok (.ireturn, 1) := by decide +kernel
abbrev S_Md_isLeft : Type := Nat × Nat × Int32 × Int32 × AM
noncomputable def T_Md_isLeft_0 (v0R : Nat) (v1I : Int32) (σ : AM) : S_Md_isLeft ⊕ Option (Int32 × AM) :=
  gdT (okO σ v0R 12) <| gdT (okO σ (aR σ v0R 28) 103) <| gdT (inB v1I (aN σ (aR σ v0R 28))) <| if (aI σ (aR σ v0R 28) v1I.toNatClampNeg) = 0 then (.inl (1, 0, 0, 0, σ)) else (gdT (okO σ (aR σ v0R 27) 102) <| gdT (inB v1I (aN σ (aR σ v0R 27))) <| bndT (M_Md_fitsAll v0R (aL σ (aR σ v0R 27) v1I.toNatClampNeg) σ) fun r6 σ7 => if r6 = 0 then (.inl (1, 0, 0, 0, σ7)) else (.inl (2, 0, 0, (1 : Int32), σ7)))
noncomputable def T_Md_isLeft_1  (σ : AM) : S_Md_isLeft ⊕ Option (Int32 × AM) :=
  .inl (2, 0, 0, (0 : Int32), σ)
noncomputable def T_Md_isLeft_2 (s0I : Int32) (σ : AM) : S_Md_isLeft ⊕ Option (Int32 × AM) :=
  gdT (isB s0I) <| .inr (some (s0I, σ))
noncomputable def F_Md_isLeft : S_Md_isLeft → S_Md_isLeft ⊕ Option (Int32 × AM) := fun s => match s.1 with
  | 0 => T_Md_isLeft_0 (s.2.1) (s.2.2.1) (s.2.2.2.2)
  | 1 => T_Md_isLeft_1  (s.2.2.2.2)
  | _ => T_Md_isLeft_2 (s.2.2.2.1) (s.2.2.2.2)
noncomputable def L_Md_isLeft_0 (v0R : Nat) (v1I : Int32) (σ : AM) : Option (Int32 × AM) := lp F_Md_isLeft (0, v0R, v1I, 0, σ)
noncomputable def L_Md_isLeft_1  (σ : AM) : Option (Int32 × AM) := lp F_Md_isLeft (1, 0, 0, 0, σ)
noncomputable def L_Md_isLeft_2 (s0I : Int32) (σ : AM) : Option (Int32 × AM) := lp F_Md_isLeft (2, 0, 0, s0I, σ)
set_option maxRecDepth 20000 in
theorem E_Md_isLeft_0 (v0R : Nat) (v1I : Int32) (σ : AM) : L_Md_isLeft_0 v0R v1I σ = (gd (okO σ v0R 12) <| gd (okO σ (aR σ v0R 28) 103) <| gd (inB v1I (aN σ (aR σ v0R 28))) <| if (aI σ (aR σ v0R 28) v1I.toNatClampNeg) = 0 then (L_Md_isLeft_1 σ) else (gd (okO σ (aR σ v0R 27) 102) <| gd (inB v1I (aN σ (aR σ v0R 27))) <| bnd (M_Md_fitsAll v0R (aL σ (aR σ v0R 27) v1I.toNatClampNeg) σ) fun r6 σ7 => if r6 = 0 then (L_Md_isLeft_1 σ7) else (L_Md_isLeft_2 ((1 : Int32)) σ7))) := by
  unfold L_Md_isLeft_0
  rw [lp_eq]
  show lpK (lp F_Md_isLeft) (T_Md_isLeft_0 v0R v1I σ) = _
  unfold T_Md_isLeft_0
  simp only [lpK_ite, lq_inl, lq_inr, lpK_bnd, lpK_gd, lq_let]
  try rfl
set_option maxRecDepth 20000 in
theorem E_Md_isLeft_1  (σ : AM) : L_Md_isLeft_1  σ = (L_Md_isLeft_2 ((0 : Int32)) σ) := by
  unfold L_Md_isLeft_1
  rw [lp_eq]
  show lpK (lp F_Md_isLeft) (T_Md_isLeft_1  σ) = _
  unfold T_Md_isLeft_1
  simp only [lpK_ite, lq_inl, lq_inr, lpK_bnd, lpK_gd, lq_let]
  try rfl
set_option maxRecDepth 20000 in
theorem E_Md_isLeft_2 (s0I : Int32) (σ : AM) : L_Md_isLeft_2 s0I σ = (gd (isB s0I) <| (some (s0I, σ))) := by
  unfold L_Md_isLeft_2
  rw [lp_eq]
  show lpK (lp F_Md_isLeft) (T_Md_isLeft_2 s0I σ) = _
  unfold T_Md_isLeft_2
  simp only [lpK_ite, lq_inl, lq_inr, lpK_bnd, lpK_gd, lq_let]
  try rfl
noncomputable def M_Md_isLeft (v0R : Nat) (v1I : Int32) (σ : AM) : Option (Int32 × AM) := mw σ (L_Md_isLeft_0 v0R v1I σ)
def I_Md_isLeft (G : GX) (p : Program) (l : Launch) (e : Env) (s : State) (m : MethodId) (args : Array Value) (below : List Frame) (meth : Method) (c : Code) (z0 u0 n : Nat) : Prop :=
  (∀ (v0R : Nat) (v1I : Int32) (σ : AM), VX (QM eI G args s below z0 u0) G p l e s m args below meth c 3 z0 u0 2 (lpn F_Md_isLeft n (0, v0R, v1I, 0, σ)) 0 [(0, .ref v0R), (1, .int v1I)] [] σ) ∧
  (∀ (σ : AM), VX (QM eI G args s below z0 u0) G p l e s m args below meth c 3 z0 u0 2 (lpn F_Md_isLeft n (1, 0, 0, 0, σ)) 26 [] [] σ) ∧
  (∀ (s0I : Int32) (σ : AM), VX (QM eI G args s below z0 u0) G p l e s m args below meth c 3 z0 u0 2 (lpn F_Md_isLeft n (2, 0, 0, s0I, σ)) 27 [] [.int s0I] σ)
set_option maxRecDepth 20000 in
theorem s_Md_isLeft_0 {G : GX} {p : Program} {l : Launch} {e : Env} {s : State} {m : MethodId} {args : Array Value} {below : List Frame} {meth : Method} {c : Code} {z0 u0 n : Nat} (C : Cx G p s m args meth c prog_14_method_56_code 2 "BellPlateModel" ((some FieldType.boolean))) (IH : I_Md_isLeft G p l e s m args below meth c z0 u0 n) (v0R : Nat) (v1I : Int32) (σ : AM) : VX (QM eI G args s below z0 u0) G p l e s m args below meth c 3 z0 u0 2 (lpK (lpn F_Md_isLeft n) (T_Md_isLeft_0 v0R v1I σ)) 0 [(0, .ref v0R), (1, .int v1I)] [] σ := by
  unfold T_Md_isLeft_0
  refine x_aload_n C d_Md_isLeft_0 0 rfl ?_
  refine x_gd (fun h1 => ?_)
  refine x_gd (fun h2 => ?_)
  refine x_getR (k := 28) (kv := 103) C (okO_iff.mp h1) rfl j11_ok (by decide) rfl (okO_iff.mp h2) (by decide) w1880 d_Md_isLeft_1 ?_
  refine x_iload_n C d_Md_isLeft_4 1 rfl ?_
  refine x_gd (fun h3 => ?_)
  refine x_aldZ C (okO_iff.mp h2) (inB_iff.mp h3) d_Md_isLeft_5 ?_
  refine x_if_eq (tgt := 26) C d_Md_isLeft_6 (by decide) (fun _ => ?_) (fun _ => ?_)
  · refine x_lv [] rfl ?_
    exact IH.2.1  (σ)
  · refine x_aload_n C d_Md_isLeft_9 0 rfl ?_
    refine x_aload_n C d_Md_isLeft_10 0 rfl ?_
    refine x_gd (fun h4 => ?_)
    refine x_getR (k := 27) (kv := 102) C (okO_iff.mp h1) rfl j11_ok (by decide) rfl (okO_iff.mp h4) (by decide) w1879 d_Md_isLeft_11 ?_
    refine x_iload_n C d_Md_isLeft_14 1 rfl ?_
    refine x_gd (fun h5 => ?_)
    refine x_aldJ C (okO_iff.mp h4) (inB_iff.mp h5) d_Md_isLeft_15 ?_
    refine x_callVI (As := [.long (aL σ (aR σ v0R 27) v1I.toNatClampNeg)]) C (c_Md_fitsAll G l v0R (aL σ (aR σ v0R 27) v1I.toNatClampNeg) σ) (okO_iff.mp h1) rfl w2221 w87 w2219 w2222 w134 k_Md_fitsAll rfl (by decide) (by decide) rfl (Nat.le_of_ble_eq_true rfl) d_Md_isLeft_16 (fun r6 σ7 => ?_)
    refine x_if_eq (tgt := 26) C d_Md_isLeft_19 (by decide) (fun _ => ?_) (fun _ => ?_)
    · refine x_lv [] rfl ?_
      exact IH.2.1  (σ7)
    · refine x_iconst (v := (1 : Int32)) C d_Md_isLeft_22 (by decide) ?_
      refine x_goto (tgt := 27) C d_Md_isLeft_23 (by decide) ?_
      refine x_lv [] rfl ?_
      exact IH.2.2 ((1 : Int32)) (σ7)
set_option maxRecDepth 20000 in
theorem s_Md_isLeft_1 {G : GX} {p : Program} {l : Launch} {e : Env} {s : State} {m : MethodId} {args : Array Value} {below : List Frame} {meth : Method} {c : Code} {z0 u0 n : Nat} (C : Cx G p s m args meth c prog_14_method_56_code 2 "BellPlateModel" ((some FieldType.boolean))) (IH : I_Md_isLeft G p l e s m args below meth c z0 u0 n)  (σ : AM) : VX (QM eI G args s below z0 u0) G p l e s m args below meth c 3 z0 u0 2 (lpK (lpn F_Md_isLeft n) (T_Md_isLeft_1  σ)) 26 [] [] σ := by
  unfold T_Md_isLeft_1
  refine x_iconst (v := (0 : Int32)) C d_Md_isLeft_26 (by decide) ?_
  exact IH.2.2 ((0 : Int32)) (σ)
set_option maxRecDepth 20000 in
theorem s_Md_isLeft_2 {G : GX} {p : Program} {l : Launch} {e : Env} {s : State} {m : MethodId} {args : Array Value} {below : List Frame} {meth : Method} {c : Code} {z0 u0 n : Nat} (C : Cx G p s m args meth c prog_14_method_56_code 2 "BellPlateModel" ((some FieldType.boolean))) (IH : I_Md_isLeft G p l e s m args below meth c z0 u0 n) (s0I : Int32) (σ : AM) : VX (QM eI G args s below z0 u0) G p l e s m args below meth c 3 z0 u0 2 (lpK (lpn F_Md_isLeft n) (T_Md_isLeft_2 s0I σ)) 27 [] [.int s0I] σ := by
  unfold T_Md_isLeft_2
  refine x_gd (fun h1 => ?_)
  exact x_zret C (isB_narrow h1) d_Md_isLeft_27
theorem i_Md_isLeft {G : GX} {p : Program} {l : Launch} {e : Env} {s : State} {m : MethodId} {args : Array Value} {below : List Frame} {meth : Method} {c : Code} {z0 u0 : Nat} (C : Cx G p s m args meth c prog_14_method_56_code 2 "BellPlateModel" ((some FieldType.boolean))) (n : Nat) : I_Md_isLeft G p l e s m args below meth c z0 u0 n := by
  induction n with
  | zero => exact ⟨fun _ _ _ => x_none, fun _ => x_none, fun _ _ => x_none⟩
  | succ n IH => exact ⟨fun v0R v1I σ => s_Md_isLeft_0 C IH v0R v1I σ, fun σ => s_Md_isLeft_1 C IH σ, fun s0I σ => s_Md_isLeft_2 C IH s0I σ⟩
theorem c_Md_isLeft (G : GX) (l : Launch) (v0R : Nat) (v1I : Int32) (σ : AM) : CT eI G l 3 y_Md_isLeft prog_14_method_56_code 2 ((some FieldType.boolean)) [.ref v0R, .int v1I] σ (M_Md_isLeft v0R v1I σ) := by
  refine ct_of (by decide +kernel) (Nat.le_of_ble_eq_true rfl) (fun p e s m args below meth c C hin => ?_)
  refine x_lve (lv' := [(0, .ref v0R), (1, .int v1I)]) rfl ?_
  intro r σ' h
  obtain ⟨n, hn⟩ := (lp_iff _ _ _).mp h
  exact (i_Md_isLeft C n).1 v0R v1I σ r σ' hn
/-! BellPlateModel.left(I)I -/
abbrev y_Md_left : MethodName := ⟨"BellPlateModel", "left", "(I)I"⟩
theorem k_Md_left : y_Md_left.cls ≠ "java/lang/invoke/MethodHandle" ∧ y_Md_left.cls ≠ "java/lang/invoke/VarHandle" ∧ (parseMethodDescriptor y_Md_left.desc).map (fun d => d.parameters.length) = some 1 := by decide +kernel
theorem d_Md_left_0 : decode prog_14_method_57_code 0 = .ok (.aload_n 0, 1) := by decide +kernel
theorem d_Md_left_1 : decode prog_14_method_57_code 1 = .ok (.iconst 0, 1) := by decide +kernel
theorem d_Md_left_2 : decode prog_14_method_57_code 2 = .ok (.putfield 1, 3) := by decide +kernel
theorem d_Md_left_5 : decode prog_14_method_57_code 5 = .ok (.iload_n 1, 1) := by decide +kernel
theorem d_Md_left_6 : decode prog_14_method_57_code 6 = .ok (.iconst 0, 1) := by decide +kernel
theorem d_Md_left_7 : decode prog_14_method_57_code 7 = .ok (.iconst 2, 1) := by decide +kernel
theorem d_Md_left_8 : decode prog_14_method_57_code 8 = .ok (.invokestatic 350, 3) := by decide +kernel
theorem d_Md_left_11 : decode prog_14_method_57_code 11 = .ok (.ifCond .ne 5, 3) := by decide +kernel
theorem d_Md_left_14 : decode prog_14_method_57_code 14 = .ok (.iconst (-1), 1) := by decide +kernel
theorem d_Md_left_15 : decode prog_14_method_57_code 15 = .ok (.ireturn, 1) := by decide +kernel
theorem d_Md_left_16 : decode prog_14_method_57_code 16 = .ok (.aload_n 0, 1) := by decide +kernel
theorem d_Md_left_17 : decode prog_14_method_57_code 17 = .ok (.invokevirtual 381, 3) := by decide +kernel
theorem d_Md_left_20 : decode prog_14_method_57_code 20 = .ok (.iload_n 1, 1) := by decide +kernel
theorem d_Md_left_21 : decode prog_14_method_57_code 21 = .ok (.iconst 2, 1) := by decide +kernel
theorem d_Md_left_22 : decode prog_14_method_57_code 22 = .ok (.if_icmp .ge 19, 3) := by decide +kernel
theorem d_Md_left_25 : decode prog_14_method_57_code 25 = .ok (.iload_n 1, 1) := by decide +kernel
theorem d_Md_left_26 : decode prog_14_method_57_code 26 = .ok (.ifCond .ne 10, 3) := by decide +kernel
theorem d_Md_left_29 : decode prog_14_method_57_code 29 = .ok (.aload_n 0, 1) := by decide +kernel
theorem d_Md_left_30 : decode prog_14_method_57_code 30 = .ok (.getfield 375, 3) := by decide +kernel
theorem d_Md_left_33 : decode prog_14_method_57_code 33 = .ok (.goto 7, 3) := by decide +kernel
theorem d_Md_left_36 : decode prog_14_method_57_code 36 = .ok (.aload_n 0, 1) := by decide +kernel
theorem d_Md_left_37 : decode prog_14_method_57_code 37 = .ok (.getfield 372, 3) := by decide +kernel
theorem d_Md_left_40 : decode prog_14_method_57_code 40 = .ok (.ireturn, 1) := by decide +kernel
theorem d_Md_left_41 : decode prog_14_method_57_code 41 = .ok (.iconst 0, 1) := by decide +kernel
theorem d_Md_left_42 : decode prog_14_method_57_code 42 = .ok (.istore_n 2, 1) := by decide +kernel
theorem d_Md_left_43 : decode prog_14_method_57_code 43 = .ok (.iload_n 2, 1) := by decide +kernel
theorem d_Md_left_44 : decode prog_14_method_57_code 44 = .ok (.aload_n 0, 1) := by decide +kernel
theorem d_Md_left_45 : decode prog_14_method_57_code 45 = .ok (.getfield 313, 3) := by decide +kernel
theorem d_Md_left_48 : decode prog_14_method_57_code 48 = .ok (.if_icmp .ge 19, 3) := by decide +kernel
theorem d_Md_left_51 : decode prog_14_method_57_code 51 = .ok (.aload_n 0, 1) := by decide +kernel
theorem d_Md_left_52 : decode prog_14_method_57_code 52 = .ok (.iload_n 2, 1) := by decide +kernel
theorem d_Md_left_53 : decode prog_14_method_57_code 53 = .ok (.invokevirtual 384, 3) := by decide +kernel
theorem d_Md_left_56 : decode prog_14_method_57_code 56 = .ok (.ifCond .eq 5, 3) := by decide +kernel
theorem d_Md_left_59 : decode prog_14_method_57_code 59 = .ok (.iload_n 2, 1) := by decide +kernel
theorem d_Md_left_60 : decode prog_14_method_57_code 60 = .ok (.ireturn, 1) := by decide +kernel
theorem d_Md_left_61 : decode prog_14_method_57_code 61 = .ok (.iinc 2 1, 3) := by decide +kernel
theorem d_Md_left_64 : decode prog_14_method_57_code 64 = .ok (.goto (-21), 3) := by decide +kernel
theorem d_Md_left_67 : decode prog_14_method_57_code 67 = .ok (.iconst (-1), 1) := by decide +kernel
theorem d_Md_left_68 : decode prog_14_method_57_code 68 = .ok (.ireturn, 1) := by decide +kernel
abbrev S_Md_left : Type := Nat × Nat × Int32 × Int32 × Int32 × AM
noncomputable def T_Md_left_0 (v0R : Nat) (v1I : Int32) (σ : AM) : S_Md_left ⊕ Option (Int32 × AM) :=
  gdT (okO σ v0R 12) <| letT (sI σ v0R 0 (0 : Int32)) fun σ2 => bndT (M_Md_within v1I (0 : Int32) (2 : Int32) σ2) fun r4 σ5 => if r4 = 0 then (.inr (some (((-1) : Int32), σ5))) else (gdT (okO σ5 v0R 12) <| bndT (M_Md_findLeft v0R σ5) fun _ σ7 => if v1I < (2 : Int32) then (if v1I = 0 then (gdT (okO σ7 v0R 12) <| .inl (1, 0, 0, 0, aI σ7 v0R 47, σ7)) else (gdT (okO σ7 v0R 12) <| .inl (1, 0, 0, 0, aI σ7 v0R 46, σ7))) else (.inl (2, v0R, 0, (0 : Int32), 0, σ7)))
noncomputable def T_Md_left_1 (s0I : Int32) (σ : AM) : S_Md_left ⊕ Option (Int32 × AM) :=
  .inr (some (s0I, σ))
noncomputable def T_Md_left_2 (v0R : Nat) (v2I : Int32) (σ : AM) : S_Md_left ⊕ Option (Int32 × AM) :=
  gdT (okO σ v0R 12) <| if v2I < (aI σ v0R 26) then (bndT (M_Md_isLeft v0R v2I σ) fun r2 σ3 => if r2 = 0 then (.inl (2, v0R, 0, v2I + (1 : Int32), 0, σ3)) else (.inr (some (v2I, σ3)))) else (.inr (some (((-1) : Int32), σ)))
noncomputable def F_Md_left : S_Md_left → S_Md_left ⊕ Option (Int32 × AM) := fun s => match s.1 with
  | 0 => T_Md_left_0 (s.2.1) (s.2.2.1) (s.2.2.2.2.2)
  | 1 => T_Md_left_1 (s.2.2.2.2.1) (s.2.2.2.2.2)
  | _ => T_Md_left_2 (s.2.1) (s.2.2.2.1) (s.2.2.2.2.2)
noncomputable def L_Md_left_0 (v0R : Nat) (v1I : Int32) (σ : AM) : Option (Int32 × AM) := lp F_Md_left (0, v0R, v1I, 0, 0, σ)
noncomputable def L_Md_left_1 (s0I : Int32) (σ : AM) : Option (Int32 × AM) := lp F_Md_left (1, 0, 0, 0, s0I, σ)
noncomputable def L_Md_left_2 (v0R : Nat) (v2I : Int32) (σ : AM) : Option (Int32 × AM) := lp F_Md_left (2, v0R, 0, v2I, 0, σ)
set_option maxRecDepth 20000 in
theorem E_Md_left_0 (v0R : Nat) (v1I : Int32) (σ : AM) : L_Md_left_0 v0R v1I σ = (gd (okO σ v0R 12) <| letT (sI σ v0R 0 (0 : Int32)) fun σ2 => bnd (M_Md_within v1I (0 : Int32) (2 : Int32) σ2) fun r4 σ5 => if r4 = 0 then ((some (((-1) : Int32), σ5))) else (gd (okO σ5 v0R 12) <| bnd (M_Md_findLeft v0R σ5) fun _ σ7 => if v1I < (2 : Int32) then (if v1I = 0 then (gd (okO σ7 v0R 12) <| L_Md_left_1 (aI σ7 v0R 47) σ7) else (gd (okO σ7 v0R 12) <| L_Md_left_1 (aI σ7 v0R 46) σ7)) else (L_Md_left_2 v0R ((0 : Int32)) σ7))) := by
  unfold L_Md_left_0
  rw [lp_eq]
  show lpK (lp F_Md_left) (T_Md_left_0 v0R v1I σ) = _
  unfold T_Md_left_0
  simp only [lpK_ite, lq_inl, lq_inr, lpK_bnd, lpK_gd, lq_let]
  try rfl
set_option maxRecDepth 20000 in
theorem E_Md_left_1 (s0I : Int32) (σ : AM) : L_Md_left_1 s0I σ = ((some (s0I, σ))) := by
  unfold L_Md_left_1
  rw [lp_eq]
  show lpK (lp F_Md_left) (T_Md_left_1 s0I σ) = _
  unfold T_Md_left_1
  simp only [lpK_ite, lq_inl, lq_inr, lpK_bnd, lpK_gd, lq_let]
  try rfl
set_option maxRecDepth 20000 in
theorem E_Md_left_2 (v0R : Nat) (v2I : Int32) (σ : AM) : L_Md_left_2 v0R v2I σ = (gd (okO σ v0R 12) <| if v2I < (aI σ v0R 26) then (bnd (M_Md_isLeft v0R v2I σ) fun r2 σ3 => if r2 = 0 then (L_Md_left_2 v0R (v2I + (1 : Int32)) σ3) else ((some (v2I, σ3)))) else ((some (((-1) : Int32), σ)))) := by
  unfold L_Md_left_2
  rw [lp_eq]
  show lpK (lp F_Md_left) (T_Md_left_2 v0R v2I σ) = _
  unfold T_Md_left_2
  simp only [lpK_ite, lq_inl, lq_inr, lpK_bnd, lpK_gd, lq_let]
  try rfl
noncomputable def M_Md_left (v0R : Nat) (v1I : Int32) (σ : AM) : Option (Int32 × AM) := mw σ (L_Md_left_0 v0R v1I σ)
def I_Md_left (G : GX) (p : Program) (l : Launch) (e : Env) (s : State) (m : MethodId) (args : Array Value) (below : List Frame) (meth : Method) (c : Code) (z0 u0 n : Nat) : Prop :=
  (∀ (v0R : Nat) (v1I : Int32) (σ : AM), VX (QM eI G args s below z0 u0) G p l e s m args below meth c 4 z0 u0 3 (lpn F_Md_left n (0, v0R, v1I, 0, 0, σ)) 0 [(0, .ref v0R), (1, .int v1I)] [] σ) ∧
  (∀ (s0I : Int32) (σ : AM), VX (QM eI G args s below z0 u0) G p l e s m args below meth c 4 z0 u0 3 (lpn F_Md_left n (1, 0, 0, 0, s0I, σ)) 40 [] [.int s0I] σ) ∧
  (∀ (v0R : Nat) (v2I : Int32) (σ : AM), VX (QM eI G args s below z0 u0) G p l e s m args below meth c 4 z0 u0 3 (lpn F_Md_left n (2, v0R, 0, v2I, 0, σ)) 43 [(0, .ref v0R), (2, .int v2I)] [] σ)
set_option maxRecDepth 20000 in
theorem s_Md_left_0 {G : GX} {p : Program} {l : Launch} {e : Env} {s : State} {m : MethodId} {args : Array Value} {below : List Frame} {meth : Method} {c : Code} {z0 u0 n : Nat} (C : Cx G p s m args meth c prog_14_method_57_code 3 "BellPlateModel" ((some FieldType.int))) (IH : I_Md_left G p l e s m args below meth c z0 u0 n) (v0R : Nat) (v1I : Int32) (σ : AM) : VX (QM eI G args s below z0 u0) G p l e s m args below meth c 4 z0 u0 3 (lpK (lpn F_Md_left n) (T_Md_left_0 v0R v1I σ)) 0 [(0, .ref v0R), (1, .int v1I)] [] σ := by
  unfold T_Md_left_0
  refine x_aload_n C d_Md_left_0 0 rfl ?_
  refine x_iconst (v := (0 : Int32)) C d_Md_left_1 (by decide) ?_
  refine x_gd (fun h1 => ?_)
  refine x_putI (k := 0) C (okO_iff.mp h1) rfl j11_ok y11_ok n11_ok (by decide) rfl rfl rfl rfl w1852 d_Md_left_2 ?_
  refine x_letS (fun σ2 e3 => ?_)
  refine x_iload_n C d_Md_left_5 1 rfl ?_
  refine x_iconst (v := (0 : Int32)) C d_Md_left_6 (by decide) ?_
  refine x_iconst (v := (2 : Int32)) C d_Md_left_7 (by decide) ?_
  refine x_callSI (As := [.int v1I, .int (0 : Int32), .int (2 : Int32)]) C (c_Md_within G l v1I (0 : Int32) (2 : Int32) σ2) w2205 w2204 w2206 w134 k_Md_within rfl (by decide) (by decide) rfl (Nat.le_of_ble_eq_true rfl) d_Md_left_8 (fun r4 σ5 => ?_)
  refine x_if_ne (tgt := 16) C d_Md_left_11 (by decide) (fun _ => ?_) (fun _ => ?_)
  · refine x_iconst (v := ((-1) : Int32)) C d_Md_left_14 (by decide) ?_
    exact x_iret C d_Md_left_15
  · refine x_aload_n C d_Md_left_16 0 rfl ?_
    refine x_gd (fun h8 => ?_)
    refine x_callVV (As := []) C (c_Md_findLeft G l v0R  σ5) (okO_iff.mp h8) rfl w2213 w85 w2211 w2214 w134 k_Md_findLeft rfl (by decide) (by decide) rfl (Nat.le_of_ble_eq_true rfl) d_Md_left_17 (fun r6 σ7 => ?_)
    refine x_iload_n C d_Md_left_20 1 rfl ?_
    refine x_iconst (v := (2 : Int32)) C d_Md_left_21 (by decide) ?_
    refine x_icmp_ge (tgt := 41) C d_Md_left_22 (by decide) (fun _ => ?_) (fun _ => ?_)
    · refine x_iload_n C d_Md_left_25 1 rfl ?_
      refine x_if_ne (tgt := 36) C d_Md_left_26 (by decide) (fun _ => ?_) (fun _ => ?_)
      · refine x_aload_n C d_Md_left_29 0 rfl ?_
        refine x_gd (fun h9 => ?_)
        refine x_getI (k := 47) C (okO_iff.mp h9) rfl j11_ok (by decide) rfl w1899 d_Md_left_30 ?_
        refine x_goto (tgt := 40) C d_Md_left_33 (by decide) ?_
        refine x_lv [] rfl ?_
        exact IH.2.1 (aI σ7 v0R 47) (σ7)
      · refine x_aload_n C d_Md_left_36 0 rfl ?_
        refine x_gd (fun h10 => ?_)
        refine x_getI (k := 46) C (okO_iff.mp h10) rfl j11_ok (by decide) rfl w1898 d_Md_left_37 ?_
        refine x_lv [] rfl ?_
        exact IH.2.1 (aI σ7 v0R 46) (σ7)
    · refine x_iconst (v := (0 : Int32)) C d_Md_left_41 (by decide) ?_
      refine x_istore_n (lv' := [(2, .int (0 : Int32)), (0, .ref v0R), (1, .int v1I)]) C d_Md_left_42 (by decide) rfl rfl ?_
      refine x_lv [1, 0] rfl ?_
      exact IH.2.2 v0R ((0 : Int32)) (σ7)
set_option maxRecDepth 20000 in
theorem s_Md_left_1 {G : GX} {p : Program} {l : Launch} {e : Env} {s : State} {m : MethodId} {args : Array Value} {below : List Frame} {meth : Method} {c : Code} {z0 u0 n : Nat} (C : Cx G p s m args meth c prog_14_method_57_code 3 "BellPlateModel" ((some FieldType.int))) (IH : I_Md_left G p l e s m args below meth c z0 u0 n) (s0I : Int32) (σ : AM) : VX (QM eI G args s below z0 u0) G p l e s m args below meth c 4 z0 u0 3 (lpK (lpn F_Md_left n) (T_Md_left_1 s0I σ)) 40 [] [.int s0I] σ := by
  unfold T_Md_left_1
  exact x_iret C d_Md_left_40
set_option maxRecDepth 20000 in
theorem s_Md_left_2 {G : GX} {p : Program} {l : Launch} {e : Env} {s : State} {m : MethodId} {args : Array Value} {below : List Frame} {meth : Method} {c : Code} {z0 u0 n : Nat} (C : Cx G p s m args meth c prog_14_method_57_code 3 "BellPlateModel" ((some FieldType.int))) (IH : I_Md_left G p l e s m args below meth c z0 u0 n) (v0R : Nat) (v2I : Int32) (σ : AM) : VX (QM eI G args s below z0 u0) G p l e s m args below meth c 4 z0 u0 3 (lpK (lpn F_Md_left n) (T_Md_left_2 v0R v2I σ)) 43 [(0, .ref v0R), (2, .int v2I)] [] σ := by
  unfold T_Md_left_2
  refine x_iload_n C d_Md_left_43 1 rfl ?_
  refine x_aload_n C d_Md_left_44 0 rfl ?_
  refine x_gd (fun h1 => ?_)
  refine x_getI (k := 26) C (okO_iff.mp h1) rfl j11_ok (by decide) rfl w1878 d_Md_left_45 ?_
  refine x_icmp_ge (tgt := 67) C d_Md_left_48 (by decide) (fun _ => ?_) (fun _ => ?_)
  · refine x_aload_n C d_Md_left_51 0 rfl ?_
    refine x_iload_n C d_Md_left_52 1 rfl ?_
    refine x_callVI (As := [.int v2I]) C (c_Md_isLeft G l v0R v2I σ) (okO_iff.mp h1) rfl w2239 w90 w2237 w2240 w134 k_Md_isLeft rfl (by decide) (by decide) rfl (Nat.le_of_ble_eq_true rfl) d_Md_left_53 (fun r2 σ3 => ?_)
    refine x_if_eq (tgt := 61) C d_Md_left_56 (by decide) (fun _ => ?_) (fun _ => ?_)
    · refine x_iinc (v := v2I + (1 : Int32)) (lv' := [(2, .int (v2I + (1 : Int32))), (0, .ref v0R)]) C d_Md_left_61 1 rfl rfl (by decide) rfl ?_
      refine x_goto (tgt := 43) C d_Md_left_64 (by decide) ?_
      refine x_lv [1, 0] rfl ?_
      exact IH.2.2 v0R (v2I + (1 : Int32)) (σ3)
    · refine x_iload_n C d_Md_left_59 1 rfl ?_
      exact x_iret C d_Md_left_60
  · refine x_iconst (v := ((-1) : Int32)) C d_Md_left_67 (by decide) ?_
    exact x_iret C d_Md_left_68
theorem i_Md_left {G : GX} {p : Program} {l : Launch} {e : Env} {s : State} {m : MethodId} {args : Array Value} {below : List Frame} {meth : Method} {c : Code} {z0 u0 : Nat} (C : Cx G p s m args meth c prog_14_method_57_code 3 "BellPlateModel" ((some FieldType.int))) (n : Nat) : I_Md_left G p l e s m args below meth c z0 u0 n := by
  induction n with
  | zero => exact ⟨fun _ _ _ => x_none, fun _ _ => x_none, fun _ _ _ => x_none⟩
  | succ n IH => exact ⟨fun v0R v1I σ => s_Md_left_0 C IH v0R v1I σ, fun s0I σ => s_Md_left_1 C IH s0I σ, fun v0R v2I σ => s_Md_left_2 C IH v0R v2I σ⟩
theorem c_Md_left (G : GX) (l : Launch) (v0R : Nat) (v1I : Int32) (σ : AM) : CT eI G l 4 y_Md_left prog_14_method_57_code 3 ((some FieldType.int)) [.ref v0R, .int v1I] σ (M_Md_left v0R v1I σ) := by
  refine ct_of (by decide +kernel) (Nat.le_of_ble_eq_true rfl) (fun p e s m args below meth c C hin => ?_)
  refine x_lve (lv' := [(0, .ref v0R), (1, .int v1I)]) rfl ?_
  intro r σ' h
  obtain ⟨n, hn⟩ := (lp_iff _ _ _).mp h
  exact (i_Md_left C n).1 v0R v1I σ r σ' hn
/-! BellPlateModel.sureOf(II)I -/
abbrev y_Md_sureOf : MethodName := ⟨"BellPlateModel", "sureOf", "(II)I"⟩
theorem k_Md_sureOf : y_Md_sureOf.cls ≠ "java/lang/invoke/MethodHandle" ∧ y_Md_sureOf.cls ≠ "java/lang/invoke/VarHandle" ∧ (parseMethodDescriptor y_Md_sureOf.desc).map (fun d => d.parameters.length) = some 2 := by decide +kernel
theorem d_Md_sureOf_0 : decode prog_14_method_58_code 0 = .ok (.iload_n 1, 1) := by decide +kernel
theorem d_Md_sureOf_1 : decode prog_14_method_58_code 1 = .ok (.ifCond .ne 7, 3) := by decide +kernel
theorem d_Md_sureOf_4 : decode prog_14_method_58_code 4 = .ok (.iconst (-1), 1) := by decide +kernel
theorem d_Md_sureOf_5 : decode prog_14_method_58_code 5 = .ok (.goto 21, 3) := by decide +kernel
theorem d_Md_sureOf_8 : decode prog_14_method_58_code 8 = .ok (.iload_n 0, 1) := by decide +kernel
theorem d_Md_sureOf_9 : decode prog_14_method_58_code 9 = .ok (.iload_n 1, 1) := by decide +kernel
theorem d_Md_sureOf_10 : decode prog_14_method_58_code 10 = .ok (.if_icmp .ne 7, 3) := by decide +kernel
theorem d_Md_sureOf_13 : decode prog_14_method_58_code 13 = .ok (.iconst 1, 1) := by decide +kernel
theorem d_Md_sureOf_14 : decode prog_14_method_58_code 14 = .ok (.goto 12, 3) := by decide +kernel
theorem d_Md_sureOf_17 : decode prog_14_method_58_code 17 = .ok (.iload_n 0, 1) := by decide +kernel
theorem d_Md_sureOf_18 : decode prog_14_method_58_code 18 = .ok (.ifCond .ne 7, 3) := by decide +kernel
theorem d_Md_sureOf_21 : decode prog_14_method_58_code 21 = .ok (.iconst 0, 1) := by decide +kernel
theorem d_Md_sureOf_22 : decode prog_14_method_58_code 22 = .ok (.goto 4, 3) := by decide +kernel
theorem d_Md_sureOf_25 : decode prog_14_method_58_code 25 = .ok (.iconst 2, 1) := by decide +kernel
theorem d_Md_sureOf_26 : decode prog_14_method_58_code 26 = .ok (.ireturn, 1) := by decide +kernel
abbrev S_Md_sureOf : Type := Nat × Int32 × Int32 × Int32 × AM
noncomputable def T_Md_sureOf_0 (v0I : Int32) (v1I : Int32) (σ : AM) : S_Md_sureOf ⊕ Option (Int32 × AM) :=
  if v1I = 0 then (.inl (1, 0, 0, ((-1) : Int32), σ)) else (if v0I = v1I then (.inl (1, 0, 0, (1 : Int32), σ)) else (if v0I = 0 then (.inl (1, 0, 0, (0 : Int32), σ)) else (.inl (1, 0, 0, (2 : Int32), σ))))
noncomputable def T_Md_sureOf_1 (s0I : Int32) (σ : AM) : S_Md_sureOf ⊕ Option (Int32 × AM) :=
  .inr (some (s0I, σ))
noncomputable def F_Md_sureOf : S_Md_sureOf → S_Md_sureOf ⊕ Option (Int32 × AM) := fun s => match s.1 with
  | 0 => T_Md_sureOf_0 (s.2.1) (s.2.2.1) (s.2.2.2.2)
  | _ => T_Md_sureOf_1 (s.2.2.2.1) (s.2.2.2.2)
noncomputable def L_Md_sureOf_0 (v0I : Int32) (v1I : Int32) (σ : AM) : Option (Int32 × AM) := lp F_Md_sureOf (0, v0I, v1I, 0, σ)
noncomputable def L_Md_sureOf_1 (s0I : Int32) (σ : AM) : Option (Int32 × AM) := lp F_Md_sureOf (1, 0, 0, s0I, σ)
set_option maxRecDepth 20000 in
theorem E_Md_sureOf_0 (v0I : Int32) (v1I : Int32) (σ : AM) : L_Md_sureOf_0 v0I v1I σ = (if v1I = 0 then (L_Md_sureOf_1 (((-1) : Int32)) σ) else (if v0I = v1I then (L_Md_sureOf_1 ((1 : Int32)) σ) else (if v0I = 0 then (L_Md_sureOf_1 ((0 : Int32)) σ) else (L_Md_sureOf_1 ((2 : Int32)) σ)))) := by
  unfold L_Md_sureOf_0
  rw [lp_eq]
  show lpK (lp F_Md_sureOf) (T_Md_sureOf_0 v0I v1I σ) = _
  unfold T_Md_sureOf_0
  simp only [lpK_ite, lq_inl, lq_inr, lpK_bnd, lpK_gd, lq_let]
  try rfl
set_option maxRecDepth 20000 in
theorem E_Md_sureOf_1 (s0I : Int32) (σ : AM) : L_Md_sureOf_1 s0I σ = ((some (s0I, σ))) := by
  unfold L_Md_sureOf_1
  rw [lp_eq]
  show lpK (lp F_Md_sureOf) (T_Md_sureOf_1 s0I σ) = _
  unfold T_Md_sureOf_1
  simp only [lpK_ite, lq_inl, lq_inr, lpK_bnd, lpK_gd, lq_let]
  try rfl
noncomputable def M_Md_sureOf (v0I : Int32) (v1I : Int32) (σ : AM) : Option (Int32 × AM) := mw σ (L_Md_sureOf_0 v0I v1I σ)
def I_Md_sureOf (G : GX) (p : Program) (l : Launch) (e : Env) (s : State) (m : MethodId) (args : Array Value) (below : List Frame) (meth : Method) (c : Code) (z0 u0 n : Nat) : Prop :=
  (∀ (v0I : Int32) (v1I : Int32) (σ : AM), VX (QM eI G args s below z0 u0) G p l e s m args below meth c 0 z0 u0 2 (lpn F_Md_sureOf n (0, v0I, v1I, 0, σ)) 0 [(0, .int v0I), (1, .int v1I)] [] σ) ∧
  (∀ (s0I : Int32) (σ : AM), VX (QM eI G args s below z0 u0) G p l e s m args below meth c 0 z0 u0 2 (lpn F_Md_sureOf n (1, 0, 0, s0I, σ)) 26 [] [.int s0I] σ)
set_option maxRecDepth 20000 in
theorem s_Md_sureOf_0 {G : GX} {p : Program} {l : Launch} {e : Env} {s : State} {m : MethodId} {args : Array Value} {below : List Frame} {meth : Method} {c : Code} {z0 u0 n : Nat} (C : Cx G p s m args meth c prog_14_method_58_code 2 "BellPlateModel" ((some FieldType.int))) (IH : I_Md_sureOf G p l e s m args below meth c z0 u0 n) (v0I : Int32) (v1I : Int32) (σ : AM) : VX (QM eI G args s below z0 u0) G p l e s m args below meth c 0 z0 u0 2 (lpK (lpn F_Md_sureOf n) (T_Md_sureOf_0 v0I v1I σ)) 0 [(0, .int v0I), (1, .int v1I)] [] σ := by
  unfold T_Md_sureOf_0
  refine x_iload_n C d_Md_sureOf_0 1 rfl ?_
  refine x_if_ne (tgt := 8) C d_Md_sureOf_1 (by decide) (fun _ => ?_) (fun _ => ?_)
  · refine x_iconst (v := ((-1) : Int32)) C d_Md_sureOf_4 (by decide) ?_
    refine x_goto (tgt := 26) C d_Md_sureOf_5 (by decide) ?_
    refine x_lv [] rfl ?_
    exact IH.2 (((-1) : Int32)) (σ)
  · refine x_iload_n C d_Md_sureOf_8 0 rfl ?_
    refine x_iload_n C d_Md_sureOf_9 1 rfl ?_
    refine x_icmp_ne (tgt := 17) C d_Md_sureOf_10 (by decide) (fun _ => ?_) (fun _ => ?_)
    · refine x_iconst (v := (1 : Int32)) C d_Md_sureOf_13 (by decide) ?_
      refine x_goto (tgt := 26) C d_Md_sureOf_14 (by decide) ?_
      refine x_lv [] rfl ?_
      exact IH.2 ((1 : Int32)) (σ)
    · refine x_iload_n C d_Md_sureOf_17 0 rfl ?_
      refine x_if_ne (tgt := 25) C d_Md_sureOf_18 (by decide) (fun _ => ?_) (fun _ => ?_)
      · refine x_iconst (v := (0 : Int32)) C d_Md_sureOf_21 (by decide) ?_
        refine x_goto (tgt := 26) C d_Md_sureOf_22 (by decide) ?_
        refine x_lv [] rfl ?_
        exact IH.2 ((0 : Int32)) (σ)
      · refine x_iconst (v := (2 : Int32)) C d_Md_sureOf_25 (by decide) ?_
        refine x_lv [] rfl ?_
        exact IH.2 ((2 : Int32)) (σ)
set_option maxRecDepth 20000 in
theorem s_Md_sureOf_1 {G : GX} {p : Program} {l : Launch} {e : Env} {s : State} {m : MethodId} {args : Array Value} {below : List Frame} {meth : Method} {c : Code} {z0 u0 n : Nat} (C : Cx G p s m args meth c prog_14_method_58_code 2 "BellPlateModel" ((some FieldType.int))) (IH : I_Md_sureOf G p l e s m args below meth c z0 u0 n) (s0I : Int32) (σ : AM) : VX (QM eI G args s below z0 u0) G p l e s m args below meth c 0 z0 u0 2 (lpK (lpn F_Md_sureOf n) (T_Md_sureOf_1 s0I σ)) 26 [] [.int s0I] σ := by
  unfold T_Md_sureOf_1
  exact x_iret C d_Md_sureOf_26
theorem i_Md_sureOf {G : GX} {p : Program} {l : Launch} {e : Env} {s : State} {m : MethodId} {args : Array Value} {below : List Frame} {meth : Method} {c : Code} {z0 u0 : Nat} (C : Cx G p s m args meth c prog_14_method_58_code 2 "BellPlateModel" ((some FieldType.int))) (n : Nat) : I_Md_sureOf G p l e s m args below meth c z0 u0 n := by
  induction n with
  | zero => exact ⟨fun _ _ _ => x_none, fun _ _ => x_none⟩
  | succ n IH => exact ⟨fun v0I v1I σ => s_Md_sureOf_0 C IH v0I v1I σ, fun s0I σ => s_Md_sureOf_1 C IH s0I σ⟩
theorem c_Md_sureOf (G : GX) (l : Launch) (v0I : Int32) (v1I : Int32) (σ : AM) : CT eI G l 0 y_Md_sureOf prog_14_method_58_code 2 ((some FieldType.int)) [.int v0I, .int v1I] σ (M_Md_sureOf v0I v1I σ) := by
  refine ct_of (by decide +kernel) (Nat.le_of_ble_eq_true rfl) (fun p e s m args below meth c C hin => ?_)
  refine x_lve (lv' := [(0, .int v0I), (1, .int v1I)]) rfl ?_
  intro r σ' h
  obtain ⟨n, hn⟩ := (lp_iff _ _ _).mp h
  exact (i_Md_sureOf C n).1 v0I v1I σ r σ' hn
/-! BellPlateModel.ringing(I)I -/
abbrev y_Md_ringing : MethodName := ⟨"BellPlateModel", "ringing", "(I)I"⟩
theorem k_Md_ringing : y_Md_ringing.cls ≠ "java/lang/invoke/MethodHandle" ∧ y_Md_ringing.cls ≠ "java/lang/invoke/VarHandle" ∧ (parseMethodDescriptor y_Md_ringing.desc).map (fun d => d.parameters.length) = some 1 := by decide +kernel
theorem d_Md_ringing_0 : decode prog_14_method_59_code 0 = .ok (.iconst 0, 1) := by decide +kernel
theorem d_Md_ringing_1 : decode prog_14_method_59_code 1 = .ok (.istore_n 2, 1) := by decide +kernel
theorem d_Md_ringing_2 : decode prog_14_method_59_code 2 = .ok (.iconst 0, 1) := by decide +kernel
theorem d_Md_ringing_3 : decode prog_14_method_59_code 3 = .ok (.istore_n 3, 1) := by decide +kernel
theorem d_Md_ringing_4 : decode prog_14_method_59_code 4 = .ok (.iload_n 3, 1) := by decide +kernel
theorem d_Md_ringing_5 : decode prog_14_method_59_code 5 = .ok (.aload_n 0, 1) := by decide +kernel
theorem d_Md_ringing_6 : decode prog_14_method_59_code 6 = .ok (.getfield 372, 3) := by decide +kernel
theorem d_Md_ringing_9 : decode prog_14_method_59_code 9 = .ok (.if_icmp .ge 35, 3) := by decide +kernel
theorem d_Md_ringing_12 : decode prog_14_method_59_code 12 = .ok (.iload_n 2, 1) := by decide +kernel
theorem d_Md_ringing_13 : decode prog_14_method_59_code 13 = .ok (.aload_n 0, 1) := by decide +kernel
theorem d_Md_ringing_14 : decode prog_14_method_59_code 14 = .ok (.getfield 82, 3) := by decide +kernel
theorem d_Md_ringing_17 : decode prog_14_method_59_code 17 = .ok (.aload_n 0, 1) := by decide +kernel
theorem d_Md_ringing_18 : decode prog_14_method_59_code 18 = .ok (.getfield 116, 3) := by decide +kernel
theorem d_Md_ringing_21 : decode prog_14_method_59_code 21 = .ok (.iload_n 3, 1) := by decide +kernel
theorem d_Md_ringing_22 : decode prog_14_method_59_code 22 = .ok (.iaload, 1) := by decide +kernel
theorem d_Md_ringing_23 : decode prog_14_method_59_code 23 = .ok (.laload, 1) := by decide +kernel
theorem d_Md_ringing_24 : decode prog_14_method_59_code 24 = .ok (.iload_n 1, 1) := by decide +kernel
theorem d_Md_ringing_25 : decode prog_14_method_59_code 25 = .ok (.invokestatic 357, 3) := by decide +kernel
theorem d_Md_ringing_28 : decode prog_14_method_59_code 28 = .ok (.ifCond .eq 7, 3) := by decide +kernel
theorem d_Md_ringing_31 : decode prog_14_method_59_code 31 = .ok (.iconst 1, 1) := by decide +kernel
theorem d_Md_ringing_32 : decode prog_14_method_59_code 32 = .ok (.goto 4, 3) := by decide +kernel
theorem d_Md_ringing_35 : decode prog_14_method_59_code 35 = .ok (.iconst 0, 1) := by decide +kernel
theorem d_Md_ringing_36 : decode prog_14_method_59_code 36 = .ok (.iadd, 1) := by decide +kernel
theorem d_Md_ringing_37 : decode prog_14_method_59_code 37 = .ok (.istore_n 2, 1) := by decide +kernel
theorem d_Md_ringing_38 : decode prog_14_method_59_code 38 = .ok (.iinc 3 1, 3) := by decide +kernel
theorem d_Md_ringing_41 : decode prog_14_method_59_code 41 = .ok (.goto (-37), 3) := by decide +kernel
theorem d_Md_ringing_44 : decode prog_14_method_59_code 44 = .ok (.iload_n 2, 1) := by decide +kernel
theorem d_Md_ringing_45 : decode prog_14_method_59_code 45 = .ok (.ireturn, 1) := by decide +kernel
abbrev S_Md_ringing : Type := Nat × Nat × Int32 × Int32 × Int32 × Int32 × Int32 × AM
noncomputable def T_Md_ringing_0 (v0R : Nat) (v1I : Int32) (σ : AM) : S_Md_ringing ⊕ Option (Int32 × AM) :=
  .inl (1, v0R, v1I, (0 : Int32), (0 : Int32), 0, 0, σ)
noncomputable def T_Md_ringing_1 (v0R : Nat) (v1I : Int32) (v2I : Int32) (v3I : Int32) (σ : AM) : S_Md_ringing ⊕ Option (Int32 × AM) :=
  gdT (okO σ v0R 12) <| if v3I < (aI σ v0R 46) then (gdT (okO σ (aR σ v0R 30) 102) <| gdT (okO σ (aR σ v0R 45) 101) <| gdT (inB v3I (aN σ (aR σ v0R 45))) <| gdT (inB (aI σ (aR σ v0R 45) v3I.toNatClampNeg) (aN σ (aR σ v0R 30))) <| bndT (M_Md_doesRing (aL σ (aR σ v0R 30) (aI σ (aR σ v0R 45) v3I.toNatClampNeg).toNatClampNeg) v1I σ) fun r6 σ7 => if r6 = 0 then (.inl (2, v0R, v1I, 0, v3I, v2I, (0 : Int32), σ7)) else (.inl (2, v0R, v1I, 0, v3I, v2I, (1 : Int32), σ7))) else (.inr (some (v2I, σ)))
noncomputable def T_Md_ringing_2 (v0R : Nat) (v1I : Int32) (v3I : Int32) (s0I : Int32) (s1I : Int32) (σ : AM) : S_Md_ringing ⊕ Option (Int32 × AM) :=
  letT (s0I + s1I) fun x1 => .inl (1, v0R, v1I, x1, v3I + (1 : Int32), 0, 0, σ)
noncomputable def F_Md_ringing : S_Md_ringing → S_Md_ringing ⊕ Option (Int32 × AM) := fun s => match s.1 with
  | 0 => T_Md_ringing_0 (s.2.1) (s.2.2.1) (s.2.2.2.2.2.2.2)
  | 1 => T_Md_ringing_1 (s.2.1) (s.2.2.1) (s.2.2.2.1) (s.2.2.2.2.1) (s.2.2.2.2.2.2.2)
  | _ => T_Md_ringing_2 (s.2.1) (s.2.2.1) (s.2.2.2.2.1) (s.2.2.2.2.2.1) (s.2.2.2.2.2.2.1) (s.2.2.2.2.2.2.2)
noncomputable def L_Md_ringing_0 (v0R : Nat) (v1I : Int32) (σ : AM) : Option (Int32 × AM) := lp F_Md_ringing (0, v0R, v1I, 0, 0, 0, 0, σ)
noncomputable def L_Md_ringing_1 (v0R : Nat) (v1I : Int32) (v2I : Int32) (v3I : Int32) (σ : AM) : Option (Int32 × AM) := lp F_Md_ringing (1, v0R, v1I, v2I, v3I, 0, 0, σ)
noncomputable def L_Md_ringing_2 (v0R : Nat) (v1I : Int32) (v3I : Int32) (s0I : Int32) (s1I : Int32) (σ : AM) : Option (Int32 × AM) := lp F_Md_ringing (2, v0R, v1I, 0, v3I, s0I, s1I, σ)
set_option maxRecDepth 20000 in
theorem E_Md_ringing_0 (v0R : Nat) (v1I : Int32) (σ : AM) : L_Md_ringing_0 v0R v1I σ = (L_Md_ringing_1 v0R v1I ((0 : Int32)) ((0 : Int32)) σ) := by
  unfold L_Md_ringing_0
  rw [lp_eq]
  show lpK (lp F_Md_ringing) (T_Md_ringing_0 v0R v1I σ) = _
  unfold T_Md_ringing_0
  simp only [lpK_ite, lq_inl, lq_inr, lpK_bnd, lpK_gd, lq_let]
  try rfl
set_option maxRecDepth 20000 in
theorem E_Md_ringing_1 (v0R : Nat) (v1I : Int32) (v2I : Int32) (v3I : Int32) (σ : AM) : L_Md_ringing_1 v0R v1I v2I v3I σ = (gd (okO σ v0R 12) <| if v3I < (aI σ v0R 46) then (gd (okO σ (aR σ v0R 30) 102) <| gd (okO σ (aR σ v0R 45) 101) <| gd (inB v3I (aN σ (aR σ v0R 45))) <| gd (inB (aI σ (aR σ v0R 45) v3I.toNatClampNeg) (aN σ (aR σ v0R 30))) <| bnd (M_Md_doesRing (aL σ (aR σ v0R 30) (aI σ (aR σ v0R 45) v3I.toNatClampNeg).toNatClampNeg) v1I σ) fun r6 σ7 => if r6 = 0 then (L_Md_ringing_2 v0R v1I v3I v2I ((0 : Int32)) σ7) else (L_Md_ringing_2 v0R v1I v3I v2I ((1 : Int32)) σ7)) else ((some (v2I, σ)))) := by
  unfold L_Md_ringing_1
  rw [lp_eq]
  show lpK (lp F_Md_ringing) (T_Md_ringing_1 v0R v1I v2I v3I σ) = _
  unfold T_Md_ringing_1
  simp only [lpK_ite, lq_inl, lq_inr, lpK_bnd, lpK_gd, lq_let]
  try rfl
set_option maxRecDepth 20000 in
theorem E_Md_ringing_2 (v0R : Nat) (v1I : Int32) (v3I : Int32) (s0I : Int32) (s1I : Int32) (σ : AM) : L_Md_ringing_2 v0R v1I v3I s0I s1I σ = (letT (s0I + s1I) fun x1 => L_Md_ringing_1 v0R v1I x1 (v3I + (1 : Int32)) σ) := by
  unfold L_Md_ringing_2
  rw [lp_eq]
  show lpK (lp F_Md_ringing) (T_Md_ringing_2 v0R v1I v3I s0I s1I σ) = _
  unfold T_Md_ringing_2
  simp only [lpK_ite, lq_inl, lq_inr, lpK_bnd, lpK_gd, lq_let]
  try rfl
noncomputable def M_Md_ringing (v0R : Nat) (v1I : Int32) (σ : AM) : Option (Int32 × AM) := mw σ (L_Md_ringing_0 v0R v1I σ)
def I_Md_ringing (G : GX) (p : Program) (l : Launch) (e : Env) (s : State) (m : MethodId) (args : Array Value) (below : List Frame) (meth : Method) (c : Code) (z0 u0 n : Nat) : Prop :=
  (∀ (v0R : Nat) (v1I : Int32) (σ : AM), VX (QM eI G args s below z0 u0) G p l e s m args below meth c 1 z0 u0 4 (lpn F_Md_ringing n (0, v0R, v1I, 0, 0, 0, 0, σ)) 0 [(0, .ref v0R), (1, .int v1I)] [] σ) ∧
  (∀ (v0R : Nat) (v1I : Int32) (v2I : Int32) (v3I : Int32) (σ : AM), VX (QM eI G args s below z0 u0) G p l e s m args below meth c 1 z0 u0 4 (lpn F_Md_ringing n (1, v0R, v1I, v2I, v3I, 0, 0, σ)) 4 [(0, .ref v0R), (1, .int v1I), (2, .int v2I), (3, .int v3I)] [] σ) ∧
  (∀ (v0R : Nat) (v1I : Int32) (v3I : Int32) (s0I : Int32) (s1I : Int32) (σ : AM), VX (QM eI G args s below z0 u0) G p l e s m args below meth c 1 z0 u0 4 (lpn F_Md_ringing n (2, v0R, v1I, 0, v3I, s0I, s1I, σ)) 36 [(0, .ref v0R), (1, .int v1I), (3, .int v3I)] [.int s1I, .int s0I] σ)
set_option maxRecDepth 20000 in
theorem s_Md_ringing_0 {G : GX} {p : Program} {l : Launch} {e : Env} {s : State} {m : MethodId} {args : Array Value} {below : List Frame} {meth : Method} {c : Code} {z0 u0 n : Nat} (C : Cx G p s m args meth c prog_14_method_59_code 4 "BellPlateModel" ((some FieldType.int))) (IH : I_Md_ringing G p l e s m args below meth c z0 u0 n) (v0R : Nat) (v1I : Int32) (σ : AM) : VX (QM eI G args s below z0 u0) G p l e s m args below meth c 1 z0 u0 4 (lpK (lpn F_Md_ringing n) (T_Md_ringing_0 v0R v1I σ)) 0 [(0, .ref v0R), (1, .int v1I)] [] σ := by
  unfold T_Md_ringing_0
  refine x_iconst (v := (0 : Int32)) C d_Md_ringing_0 (by decide) ?_
  refine x_istore_n (lv' := [(2, .int (0 : Int32)), (0, .ref v0R), (1, .int v1I)]) C d_Md_ringing_1 (by decide) rfl rfl ?_
  refine x_iconst (v := (0 : Int32)) C d_Md_ringing_2 (by decide) ?_
  refine x_istore_n (lv' := [(3, .int (0 : Int32)), (2, .int (0 : Int32)), (0, .ref v0R), (1, .int v1I)]) C d_Md_ringing_3 (by decide) rfl rfl ?_
  refine x_lv [2, 3, 1, 0] rfl ?_
  exact IH.2.1 v0R v1I ((0 : Int32)) ((0 : Int32)) (σ)
set_option maxRecDepth 20000 in
theorem s_Md_ringing_1 {G : GX} {p : Program} {l : Launch} {e : Env} {s : State} {m : MethodId} {args : Array Value} {below : List Frame} {meth : Method} {c : Code} {z0 u0 n : Nat} (C : Cx G p s m args meth c prog_14_method_59_code 4 "BellPlateModel" ((some FieldType.int))) (IH : I_Md_ringing G p l e s m args below meth c z0 u0 n) (v0R : Nat) (v1I : Int32) (v2I : Int32) (v3I : Int32) (σ : AM) : VX (QM eI G args s below z0 u0) G p l e s m args below meth c 1 z0 u0 4 (lpK (lpn F_Md_ringing n) (T_Md_ringing_1 v0R v1I v2I v3I σ)) 4 [(0, .ref v0R), (1, .int v1I), (2, .int v2I), (3, .int v3I)] [] σ := by
  unfold T_Md_ringing_1
  refine x_iload_n C d_Md_ringing_4 3 rfl ?_
  refine x_aload_n C d_Md_ringing_5 0 rfl ?_
  refine x_gd (fun h1 => ?_)
  refine x_getI (k := 46) C (okO_iff.mp h1) rfl j11_ok (by decide) rfl w1898 d_Md_ringing_6 ?_
  refine x_icmp_ge (tgt := 44) C d_Md_ringing_9 (by decide) (fun _ => ?_) (fun _ => ?_)
  · refine x_iload_n C d_Md_ringing_12 2 rfl ?_
    refine x_aload_n C d_Md_ringing_13 0 rfl ?_
    refine x_gd (fun h2 => ?_)
    refine x_getR (k := 30) (kv := 102) C (okO_iff.mp h1) rfl j11_ok (by decide) rfl (okO_iff.mp h2) (by decide) w1882 d_Md_ringing_14 ?_
    refine x_aload_n C d_Md_ringing_17 0 rfl ?_
    refine x_gd (fun h3 => ?_)
    refine x_getR (k := 45) (kv := 101) C (okO_iff.mp h1) rfl j11_ok (by decide) rfl (okO_iff.mp h3) (by decide) w1897 d_Md_ringing_18 ?_
    refine x_iload_n C d_Md_ringing_21 3 rfl ?_
    refine x_gd (fun h4 => ?_)
    refine x_aldI C (okO_iff.mp h3) (inB_iff.mp h4) d_Md_ringing_22 ?_
    refine x_gd (fun h5 => ?_)
    refine x_aldJ C (okO_iff.mp h2) (inB_iff.mp h5) d_Md_ringing_23 ?_
    refine x_iload_n C d_Md_ringing_24 1 rfl ?_
    refine x_callSI (As := [.long (aL σ (aR σ v0R 30) (aI σ (aR σ v0R 45) v3I.toNatClampNeg).toNatClampNeg), .int v1I]) C (c_Md_doesRing G l (aL σ (aR σ v0R 30) (aI σ (aR σ v0R 45) v3I.toNatClampNeg).toNatClampNeg) v1I σ) w2235 w2234 w2236 w134 k_Md_doesRing rfl (by decide) (by decide) rfl (Nat.le_of_ble_eq_true rfl) d_Md_ringing_25 (fun r6 σ7 => ?_)
    refine x_if_eq (tgt := 35) C d_Md_ringing_28 (by decide) (fun _ => ?_) (fun _ => ?_)
    · refine x_iconst (v := (0 : Int32)) C d_Md_ringing_35 (by decide) ?_
      refine x_lv [0, 1, 3] rfl ?_
      exact IH.2.2 v0R v1I v3I v2I ((0 : Int32)) (σ7)
    · refine x_iconst (v := (1 : Int32)) C d_Md_ringing_31 (by decide) ?_
      refine x_goto (tgt := 36) C d_Md_ringing_32 (by decide) ?_
      refine x_lv [0, 1, 3] rfl ?_
      exact IH.2.2 v0R v1I v3I v2I ((1 : Int32)) (σ7)
  · refine x_iload_n C d_Md_ringing_44 2 rfl ?_
    exact x_iret C d_Md_ringing_45
set_option maxRecDepth 20000 in
theorem s_Md_ringing_2 {G : GX} {p : Program} {l : Launch} {e : Env} {s : State} {m : MethodId} {args : Array Value} {below : List Frame} {meth : Method} {c : Code} {z0 u0 n : Nat} (C : Cx G p s m args meth c prog_14_method_59_code 4 "BellPlateModel" ((some FieldType.int))) (IH : I_Md_ringing G p l e s m args below meth c z0 u0 n) (v0R : Nat) (v1I : Int32) (v3I : Int32) (s0I : Int32) (s1I : Int32) (σ : AM) : VX (QM eI G args s below z0 u0) G p l e s m args below meth c 1 z0 u0 4 (lpK (lpn F_Md_ringing n) (T_Md_ringing_2 v0R v1I v3I s0I s1I σ)) 36 [(0, .ref v0R), (1, .int v1I), (3, .int v3I)] [.int s1I, .int s0I] σ := by
  unfold T_Md_ringing_2
  refine x_iadd C d_Md_ringing_36 ?_
  refine x_letI (fun x1 _ => ?_)
  refine x_istore_n (lv' := [(2, .int x1), (0, .ref v0R), (1, .int v1I), (3, .int v3I)]) C d_Md_ringing_37 (by decide) rfl rfl ?_
  refine x_iinc (v := v3I + (1 : Int32)) (lv' := [(3, .int (v3I + (1 : Int32))), (2, .int x1), (0, .ref v0R), (1, .int v1I)]) C d_Md_ringing_38 3 rfl rfl (by decide) rfl ?_
  refine x_goto (tgt := 4) C d_Md_ringing_41 (by decide) ?_
  refine x_lv [2, 3, 1, 0] rfl ?_
  exact IH.2.1 v0R v1I x1 (v3I + (1 : Int32)) (σ)
theorem i_Md_ringing {G : GX} {p : Program} {l : Launch} {e : Env} {s : State} {m : MethodId} {args : Array Value} {below : List Frame} {meth : Method} {c : Code} {z0 u0 : Nat} (C : Cx G p s m args meth c prog_14_method_59_code 4 "BellPlateModel" ((some FieldType.int))) (n : Nat) : I_Md_ringing G p l e s m args below meth c z0 u0 n := by
  induction n with
  | zero => exact ⟨fun _ _ _ => x_none, fun _ _ _ _ _ => x_none, fun _ _ _ _ _ _ => x_none⟩
  | succ n IH => exact ⟨fun v0R v1I σ => s_Md_ringing_0 C IH v0R v1I σ, fun v0R v1I v2I v3I σ => s_Md_ringing_1 C IH v0R v1I v2I v3I σ, fun v0R v1I v3I s0I s1I σ => s_Md_ringing_2 C IH v0R v1I v3I s0I s1I σ⟩
theorem c_Md_ringing (G : GX) (l : Launch) (v0R : Nat) (v1I : Int32) (σ : AM) : CT eI G l 1 y_Md_ringing prog_14_method_59_code 4 ((some FieldType.int)) [.ref v0R, .int v1I] σ (M_Md_ringing v0R v1I σ) := by
  refine ct_of (by decide +kernel) (Nat.le_of_ble_eq_true rfl) (fun p e s m args below meth c C hin => ?_)
  refine x_lve (lv' := [(0, .ref v0R), (1, .int v1I)]) rfl ?_
  intro r σ' h
  obtain ⟨n, hn⟩ := (lp_iff _ _ _).mp h
  exact (i_Md_ringing C n).1 v0R v1I σ r σ' hn
/-! BellPlateModel.sure(I)I -/
abbrev y_Md_sure : MethodName := ⟨"BellPlateModel", "sure", "(I)I"⟩
theorem k_Md_sure : y_Md_sure.cls ≠ "java/lang/invoke/MethodHandle" ∧ y_Md_sure.cls ≠ "java/lang/invoke/VarHandle" ∧ (parseMethodDescriptor y_Md_sure.desc).map (fun d => d.parameters.length) = some 1 := by decide +kernel
theorem d_Md_sure_0 : decode prog_14_method_60_code 0 = .ok (.aload_n 0, 1) := by decide +kernel
theorem d_Md_sure_1 : decode prog_14_method_60_code 1 = .ok (.iconst 0, 1) := by decide +kernel
theorem d_Md_sure_2 : decode prog_14_method_60_code 2 = .ok (.putfield 1, 3) := by decide +kernel
theorem d_Md_sure_5 : decode prog_14_method_60_code 5 = .ok (.aload_n 0, 1) := by decide +kernel
theorem d_Md_sure_6 : decode prog_14_method_60_code 6 = .ok (.iload_n 1, 1) := by decide +kernel
theorem d_Md_sure_7 : decode prog_14_method_60_code 7 = .ok (.invokevirtual 340, 3) := by decide +kernel
theorem d_Md_sure_10 : decode prog_14_method_60_code 10 = .ok (.ifCond .ne 5, 3) := by decide +kernel
theorem d_Md_sure_13 : decode prog_14_method_60_code 13 = .ok (.iconst (-1), 1) := by decide +kernel
theorem d_Md_sure_14 : decode prog_14_method_60_code 14 = .ok (.ireturn, 1) := by decide +kernel
theorem d_Md_sure_15 : decode prog_14_method_60_code 15 = .ok (.aload_n 0, 1) := by decide +kernel
theorem d_Md_sure_16 : decode prog_14_method_60_code 16 = .ok (.invokevirtual 381, 3) := by decide +kernel
theorem d_Md_sure_19 : decode prog_14_method_60_code 19 = .ok (.aload_n 0, 1) := by decide +kernel
theorem d_Md_sure_20 : decode prog_14_method_60_code 20 = .ok (.iload_n 1, 1) := by decide +kernel
theorem d_Md_sure_21 : decode prog_14_method_60_code 21 = .ok (.invokevirtual 387, 3) := by decide +kernel
theorem d_Md_sure_24 : decode prog_14_method_60_code 24 = .ok (.aload_n 0, 1) := by decide +kernel
theorem d_Md_sure_25 : decode prog_14_method_60_code 25 = .ok (.getfield 372, 3) := by decide +kernel
theorem d_Md_sure_28 : decode prog_14_method_60_code 28 = .ok (.invokestatic 390, 3) := by decide +kernel
theorem d_Md_sure_31 : decode prog_14_method_60_code 31 = .ok (.ireturn, 1) := by decide +kernel
abbrev S_Md_sure : Type := Nat × Nat × Int32 × AM
noncomputable def T_Md_sure_0 (v0R : Nat) (v1I : Int32) (σ : AM) : S_Md_sure ⊕ Option (Int32 × AM) :=
  gdT (okO σ v0R 12) <| letT (sI σ v0R 0 (0 : Int32)) fun σ2 => bndT (M_Md_isSet v0R v1I σ2) fun r4 σ5 => if r4 = 0 then (.inr (some (((-1) : Int32), σ5))) else (gdT (okO σ5 v0R 12) <| bndT (M_Md_findLeft v0R σ5) fun _ σ7 => gdT (okO σ7 v0R 12) <| bndT (M_Md_ringing v0R v1I σ7) fun r9 σ10 => gdT (okO σ10 v0R 12) <| bndT (M_Md_sureOf r9 (aI σ10 v0R 46) σ10) fun r13 σ14 => .inr (some (r13, σ14)))
noncomputable def F_Md_sure : S_Md_sure → S_Md_sure ⊕ Option (Int32 × AM) := fun s => match s.1 with
  | _ => T_Md_sure_0 (s.2.1) (s.2.2.1) (s.2.2.2)
noncomputable def L_Md_sure_0 (v0R : Nat) (v1I : Int32) (σ : AM) : Option (Int32 × AM) := lp F_Md_sure (0, v0R, v1I, σ)
set_option maxRecDepth 20000 in
theorem E_Md_sure_0 (v0R : Nat) (v1I : Int32) (σ : AM) : L_Md_sure_0 v0R v1I σ = (gd (okO σ v0R 12) <| letT (sI σ v0R 0 (0 : Int32)) fun σ2 => bnd (M_Md_isSet v0R v1I σ2) fun r4 σ5 => if r4 = 0 then ((some (((-1) : Int32), σ5))) else (gd (okO σ5 v0R 12) <| bnd (M_Md_findLeft v0R σ5) fun _ σ7 => gd (okO σ7 v0R 12) <| bnd (M_Md_ringing v0R v1I σ7) fun r9 σ10 => gd (okO σ10 v0R 12) <| bnd (M_Md_sureOf r9 (aI σ10 v0R 46) σ10) fun r13 σ14 => (some (r13, σ14)))) := by
  unfold L_Md_sure_0
  rw [lp_eq]
  show lpK (lp F_Md_sure) (T_Md_sure_0 v0R v1I σ) = _
  unfold T_Md_sure_0
  simp only [lpK_ite, lq_inl, lq_inr, lpK_bnd, lpK_gd, lq_let]
  try rfl
noncomputable def M_Md_sure (v0R : Nat) (v1I : Int32) (σ : AM) : Option (Int32 × AM) := mw σ (L_Md_sure_0 v0R v1I σ)
def I_Md_sure (G : GX) (p : Program) (l : Launch) (e : Env) (s : State) (m : MethodId) (args : Array Value) (below : List Frame) (meth : Method) (c : Code) (z0 u0 n : Nat) : Prop :=
  (∀ (v0R : Nat) (v1I : Int32) (σ : AM), VX (QM eI G args s below z0 u0) G p l e s m args below meth c 4 z0 u0 2 (lpn F_Md_sure n (0, v0R, v1I, σ)) 0 [(0, .ref v0R), (1, .int v1I)] [] σ)
set_option maxRecDepth 20000 in
theorem s_Md_sure_0 {G : GX} {p : Program} {l : Launch} {e : Env} {s : State} {m : MethodId} {args : Array Value} {below : List Frame} {meth : Method} {c : Code} {z0 u0 n : Nat} (C : Cx G p s m args meth c prog_14_method_60_code 2 "BellPlateModel" ((some FieldType.int))) (IH : I_Md_sure G p l e s m args below meth c z0 u0 n) (v0R : Nat) (v1I : Int32) (σ : AM) : VX (QM eI G args s below z0 u0) G p l e s m args below meth c 4 z0 u0 2 (lpK (lpn F_Md_sure n) (T_Md_sure_0 v0R v1I σ)) 0 [(0, .ref v0R), (1, .int v1I)] [] σ := by
  unfold T_Md_sure_0
  refine x_aload_n C d_Md_sure_0 0 rfl ?_
  refine x_iconst (v := (0 : Int32)) C d_Md_sure_1 (by decide) ?_
  refine x_gd (fun h1 => ?_)
  refine x_putI (k := 0) C (okO_iff.mp h1) rfl j11_ok y11_ok n11_ok (by decide) rfl rfl rfl rfl w1852 d_Md_sure_2 ?_
  refine x_letS (fun σ2 e3 => ?_)
  refine x_aload_n C d_Md_sure_5 0 rfl ?_
  refine x_iload_n C d_Md_sure_6 1 rfl ?_
  refine x_callVI (As := [.int v1I]) C (c_Md_isSet G l v0R v1I σ2) (by first | exact (okO_iff.mp h1) | (rw [e3]; exact (okO_iff.mp h1))) rfl w2194 w84 w2192 w2195 w134 k_Md_isSet rfl (by decide) (by decide) rfl (Nat.le_of_ble_eq_true rfl) d_Md_sure_7 (fun r4 σ5 => ?_)
  refine x_if_ne (tgt := 15) C d_Md_sure_10 (by decide) (fun _ => ?_) (fun _ => ?_)
  · refine x_iconst (v := ((-1) : Int32)) C d_Md_sure_13 (by decide) ?_
    exact x_iret C d_Md_sure_14
  · refine x_aload_n C d_Md_sure_15 0 rfl ?_
    refine x_gd (fun h8 => ?_)
    refine x_callVV (As := []) C (c_Md_findLeft G l v0R  σ5) (okO_iff.mp h8) rfl w2213 w85 w2211 w2214 w134 k_Md_findLeft rfl (by decide) (by decide) rfl (Nat.le_of_ble_eq_true rfl) d_Md_sure_16 (fun r6 σ7 => ?_)
    refine x_aload_n C d_Md_sure_19 0 rfl ?_
    refine x_iload_n C d_Md_sure_20 1 rfl ?_
    refine x_gd (fun h11 => ?_)
    refine x_callVI (As := [.int v1I]) C (c_Md_ringing G l v0R v1I σ7) (okO_iff.mp h11) rfl w2247 w91 w2245 w2248 w134 k_Md_ringing rfl (by decide) (by decide) rfl (Nat.le_of_ble_eq_true rfl) d_Md_sure_21 (fun r9 σ10 => ?_)
    refine x_aload_n C d_Md_sure_24 0 rfl ?_
    refine x_gd (fun h12 => ?_)
    refine x_getI (k := 46) C (okO_iff.mp h12) rfl j11_ok (by decide) rfl w1898 d_Md_sure_25 ?_
    refine x_callSI (As := [.int r9, .int (aI σ10 v0R 46)]) C (c_Md_sureOf G l r9 (aI σ10 v0R 46) σ10) w2250 w2249 w2251 w134 k_Md_sureOf rfl (by decide) (by decide) rfl (Nat.le_of_ble_eq_true rfl) d_Md_sure_28 (fun r13 σ14 => ?_)
    exact x_iret C d_Md_sure_31
theorem i_Md_sure {G : GX} {p : Program} {l : Launch} {e : Env} {s : State} {m : MethodId} {args : Array Value} {below : List Frame} {meth : Method} {c : Code} {z0 u0 : Nat} (C : Cx G p s m args meth c prog_14_method_60_code 2 "BellPlateModel" ((some FieldType.int))) (n : Nat) : I_Md_sure G p l e s m args below meth c z0 u0 n := by
  induction n with
  | zero => exact fun _ _ _ => x_none
  | succ n IH => exact fun v0R v1I σ => s_Md_sure_0 C IH v0R v1I σ
theorem c_Md_sure (G : GX) (l : Launch) (v0R : Nat) (v1I : Int32) (σ : AM) : CT eI G l 4 y_Md_sure prog_14_method_60_code 2 ((some FieldType.int)) [.ref v0R, .int v1I] σ (M_Md_sure v0R v1I σ) := by
  refine ct_of (by decide +kernel) (Nat.le_of_ble_eq_true rfl) (fun p e s m args below meth c C hin => ?_)
  refine x_lve (lv' := [(0, .ref v0R), (1, .int v1I)]) rfl ?_
  intro r σ' h
  obtain ⟨n, hn⟩ := (lp_iff _ _ _).mp h
  exact (i_Md_sure C n) v0R v1I σ r σ' hn
/-! BellPlateModel.doesMatter(JI)Z -/
abbrev y_Md_doesMatter : MethodName := ⟨"BellPlateModel", "doesMatter", "(JI)Z"⟩
theorem k_Md_doesMatter : y_Md_doesMatter.cls ≠ "java/lang/invoke/MethodHandle" ∧ y_Md_doesMatter.cls ≠ "java/lang/invoke/VarHandle" ∧ (parseMethodDescriptor y_Md_doesMatter.desc).map (fun d => d.parameters.length) = some 2 := by decide +kernel
theorem d_Md_doesMatter_0 : decode prog_14_method_61_code 0 = .ok (.iconst 0, 1) := by decide +kernel
theorem d_Md_doesMatter_1 : decode prog_14_method_61_code 1 = .ok (.istore 4, 2) := by decide +kernel
theorem d_Md_doesMatter_3 : decode prog_14_method_61_code 3 = .ok (.iconst 0, 1) := by decide +kernel
theorem d_Md_doesMatter_4 : decode prog_14_method_61_code 4 = .ok (.istore 5, 2) := by decide +kernel
theorem d_Md_doesMatter_6 : decode prog_14_method_61_code 6 = .ok (.iload 5, 2) := by decide +kernel
theorem d_Md_doesMatter_8 : decode prog_14_method_61_code 8 = .ok (.aload_n 0, 1) := by decide +kernel
theorem d_Md_doesMatter_9 : decode prog_14_method_61_code 9 = .ok (.invokevirtual 306, 3) := by decide +kernel
theorem d_Md_doesMatter_12 : decode prog_14_method_61_code 12 = .ok (.if_icmp .ge 52, 3) := by decide +kernel
theorem d_Md_doesMatter_15 : decode prog_14_method_61_code 15 = .ok (.iload 4, 2) := by decide +kernel
theorem d_Md_doesMatter_17 : decode prog_14_method_61_code 17 = .ok (.ifCond .ne 34, 3) := by decide +kernel
theorem d_Md_doesMatter_20 : decode prog_14_method_61_code 20 = .ok (.iload 5, 2) := by decide +kernel
theorem d_Md_doesMatter_22 : decode prog_14_method_61_code 22 = .ok (.iload_n 3, 1) := by decide +kernel
theorem d_Md_doesMatter_23 : decode prog_14_method_61_code 23 = .ok (.ishr, 1) := by decide +kernel
theorem d_Md_doesMatter_24 : decode prog_14_method_61_code 24 = .ok (.iconst 1, 1) := by decide +kernel
theorem d_Md_doesMatter_25 : decode prog_14_method_61_code 25 = .ok (.iand, 1) := by decide +kernel
theorem d_Md_doesMatter_26 : decode prog_14_method_61_code 26 = .ok (.ifCond .ne 29, 3) := by decide +kernel
theorem d_Md_doesMatter_29 : decode prog_14_method_61_code 29 = .ok (.lload_n 1, 1) := by decide +kernel
theorem d_Md_doesMatter_30 : decode prog_14_method_61_code 30 = .ok (.iload 5, 2) := by decide +kernel
theorem d_Md_doesMatter_32 : decode prog_14_method_61_code 32 = .ok (.iconst 1, 1) := by decide +kernel
theorem d_Md_doesMatter_33 : decode prog_14_method_61_code 33 = .ok (.iload_n 3, 1) := by decide +kernel
theorem d_Md_doesMatter_34 : decode prog_14_method_61_code 34 = .ok (.ishl, 1) := by decide +kernel
theorem d_Md_doesMatter_35 : decode prog_14_method_61_code 35 = .ok (.ior, 1) := by decide +kernel
theorem d_Md_doesMatter_36 : decode prog_14_method_61_code 36 = .ok (.invokestatic 357, 3) := by decide +kernel
theorem d_Md_doesMatter_39 : decode prog_14_method_61_code 39 = .ok (.ifCond .eq 16, 3) := by decide +kernel
theorem d_Md_doesMatter_42 : decode prog_14_method_61_code 42 = .ok (.lload_n 1, 1) := by decide +kernel
theorem d_Md_doesMatter_43 : decode prog_14_method_61_code 43 = .ok (.iload 5, 2) := by decide +kernel
theorem d_Md_doesMatter_45 : decode prog_14_method_61_code 45 = .ok (.invokestatic 357, 3) := by decide +kernel
theorem d_Md_doesMatter_48 : decode prog_14_method_61_code 48 = .ok (.ifCond .ne 7, 3) := by decide +kernel
theorem d_Md_doesMatter_51 : decode prog_14_method_61_code 51 = .ok (.iconst 1, 1) := by decide +kernel
theorem d_Md_doesMatter_52 : decode prog_14_method_61_code 52 = .ok (.goto 4, 3) := by decide +kernel
theorem d_Md_doesMatter_55 : decode prog_14_method_61_code 55 = .ok (.iconst 0, 1) := by decide +kernel
theorem d_Md_doesMatter_56 : decode prog_14_method_61_code 56 = .ok (.istore 4, 2) := by decide +kernel
theorem d_Md_doesMatter_58 : decode prog_14_method_61_code 58 = .ok (.iinc 5 1, 3) := by decide +kernel
theorem d_Md_doesMatter_61 : decode prog_14_method_61_code 61 = .ok (.goto (-55), 3) := by decide +kernel
theorem d_Md_doesMatter_64 : decode prog_14_method_61_code 64 = .ok (.iload 4, 2) := by decide +kernel
theorem d_Md_doesMatter_66 : decode prog_14_method_61_code 66 = .ok (.ireturn, 1) := by decide +kernel
abbrev S_Md_doesMatter : Type := Nat × Nat × Int64 × Int32 × Int32 × Int32 × Int32 × AM
noncomputable def T_Md_doesMatter_0 (v0R : Nat) (v1J : Int64) (v3I : Int32) (σ : AM) : S_Md_doesMatter ⊕ Option (Int32 × AM) :=
  .inl (1, v0R, v1J, v3I, (0 : Int32), (0 : Int32), 0, σ)
noncomputable def T_Md_doesMatter_1 (v0R : Nat) (v1J : Int64) (v3I : Int32) (v4I : Int32) (v5I : Int32) (σ : AM) : S_Md_doesMatter ⊕ Option (Int32 × AM) :=
  gdT (okO σ v0R 12) <| bndT (M_Md_sets v0R σ) fun r1 σ2 => if v5I < r1 then (if v4I = 0 then (if ((v5I >>> (v3I &&& 31)) &&& (1 : Int32)) = 0 then (bndT (M_Md_doesRing v1J (v5I ||| ((1 : Int32) <<< (v3I &&& 31))) σ2) fun r4 σ5 => if r4 = 0 then (.inl (3, v0R, v1J, v3I, 0, v5I, 0, σ5)) else (bndT (M_Md_doesRing v1J v5I σ5) fun r6 σ7 => if r6 = 0 then (.inl (2, v0R, v1J, v3I, 0, v5I, 0, σ7)) else (.inl (3, v0R, v1J, v3I, 0, v5I, 0, σ7)))) else (.inl (3, v0R, v1J, v3I, 0, v5I, 0, σ2))) else (.inl (2, v0R, v1J, v3I, 0, v5I, 0, σ2))) else (gdT (isB v4I) <| .inr (some (v4I, σ2)))
noncomputable def T_Md_doesMatter_2 (v0R : Nat) (v1J : Int64) (v3I : Int32) (v5I : Int32) (σ : AM) : S_Md_doesMatter ⊕ Option (Int32 × AM) :=
  .inl (4, v0R, v1J, v3I, 0, v5I, (1 : Int32), σ)
noncomputable def T_Md_doesMatter_3 (v0R : Nat) (v1J : Int64) (v3I : Int32) (v5I : Int32) (σ : AM) : S_Md_doesMatter ⊕ Option (Int32 × AM) :=
  .inl (4, v0R, v1J, v3I, 0, v5I, (0 : Int32), σ)
noncomputable def T_Md_doesMatter_4 (v0R : Nat) (v1J : Int64) (v3I : Int32) (v5I : Int32) (s0I : Int32) (σ : AM) : S_Md_doesMatter ⊕ Option (Int32 × AM) :=
  .inl (1, v0R, v1J, v3I, s0I, v5I + (1 : Int32), 0, σ)
noncomputable def F_Md_doesMatter : S_Md_doesMatter → S_Md_doesMatter ⊕ Option (Int32 × AM) := fun s => match s.1 with
  | 0 => T_Md_doesMatter_0 (s.2.1) (s.2.2.1) (s.2.2.2.1) (s.2.2.2.2.2.2.2)
  | 1 => T_Md_doesMatter_1 (s.2.1) (s.2.2.1) (s.2.2.2.1) (s.2.2.2.2.1) (s.2.2.2.2.2.1) (s.2.2.2.2.2.2.2)
  | 2 => T_Md_doesMatter_2 (s.2.1) (s.2.2.1) (s.2.2.2.1) (s.2.2.2.2.2.1) (s.2.2.2.2.2.2.2)
  | 3 => T_Md_doesMatter_3 (s.2.1) (s.2.2.1) (s.2.2.2.1) (s.2.2.2.2.2.1) (s.2.2.2.2.2.2.2)
  | _ => T_Md_doesMatter_4 (s.2.1) (s.2.2.1) (s.2.2.2.1) (s.2.2.2.2.2.1) (s.2.2.2.2.2.2.1) (s.2.2.2.2.2.2.2)
noncomputable def L_Md_doesMatter_0 (v0R : Nat) (v1J : Int64) (v3I : Int32) (σ : AM) : Option (Int32 × AM) := lp F_Md_doesMatter (0, v0R, v1J, v3I, 0, 0, 0, σ)
noncomputable def L_Md_doesMatter_1 (v0R : Nat) (v1J : Int64) (v3I : Int32) (v4I : Int32) (v5I : Int32) (σ : AM) : Option (Int32 × AM) := lp F_Md_doesMatter (1, v0R, v1J, v3I, v4I, v5I, 0, σ)
noncomputable def L_Md_doesMatter_2 (v0R : Nat) (v1J : Int64) (v3I : Int32) (v5I : Int32) (σ : AM) : Option (Int32 × AM) := lp F_Md_doesMatter (2, v0R, v1J, v3I, 0, v5I, 0, σ)
noncomputable def L_Md_doesMatter_3 (v0R : Nat) (v1J : Int64) (v3I : Int32) (v5I : Int32) (σ : AM) : Option (Int32 × AM) := lp F_Md_doesMatter (3, v0R, v1J, v3I, 0, v5I, 0, σ)
noncomputable def L_Md_doesMatter_4 (v0R : Nat) (v1J : Int64) (v3I : Int32) (v5I : Int32) (s0I : Int32) (σ : AM) : Option (Int32 × AM) := lp F_Md_doesMatter (4, v0R, v1J, v3I, 0, v5I, s0I, σ)
set_option maxRecDepth 20000 in
theorem E_Md_doesMatter_0 (v0R : Nat) (v1J : Int64) (v3I : Int32) (σ : AM) : L_Md_doesMatter_0 v0R v1J v3I σ = (L_Md_doesMatter_1 v0R v1J v3I ((0 : Int32)) ((0 : Int32)) σ) := by
  unfold L_Md_doesMatter_0
  rw [lp_eq]
  show lpK (lp F_Md_doesMatter) (T_Md_doesMatter_0 v0R v1J v3I σ) = _
  unfold T_Md_doesMatter_0
  simp only [lpK_ite, lq_inl, lq_inr, lpK_bnd, lpK_gd, lq_let]
  try rfl
set_option maxRecDepth 20000 in
theorem E_Md_doesMatter_1 (v0R : Nat) (v1J : Int64) (v3I : Int32) (v4I : Int32) (v5I : Int32) (σ : AM) : L_Md_doesMatter_1 v0R v1J v3I v4I v5I σ = (gd (okO σ v0R 12) <| bnd (M_Md_sets v0R σ) fun r1 σ2 => if v5I < r1 then (if v4I = 0 then (if ((v5I >>> (v3I &&& 31)) &&& (1 : Int32)) = 0 then (bnd (M_Md_doesRing v1J (v5I ||| ((1 : Int32) <<< (v3I &&& 31))) σ2) fun r4 σ5 => if r4 = 0 then (L_Md_doesMatter_3 v0R v1J v3I v5I σ5) else (bnd (M_Md_doesRing v1J v5I σ5) fun r6 σ7 => if r6 = 0 then (L_Md_doesMatter_2 v0R v1J v3I v5I σ7) else (L_Md_doesMatter_3 v0R v1J v3I v5I σ7))) else (L_Md_doesMatter_3 v0R v1J v3I v5I σ2)) else (L_Md_doesMatter_2 v0R v1J v3I v5I σ2)) else (gd (isB v4I) <| (some (v4I, σ2)))) := by
  unfold L_Md_doesMatter_1
  rw [lp_eq]
  show lpK (lp F_Md_doesMatter) (T_Md_doesMatter_1 v0R v1J v3I v4I v5I σ) = _
  unfold T_Md_doesMatter_1
  simp only [lpK_ite, lq_inl, lq_inr, lpK_bnd, lpK_gd, lq_let]
  try rfl
set_option maxRecDepth 20000 in
theorem E_Md_doesMatter_2 (v0R : Nat) (v1J : Int64) (v3I : Int32) (v5I : Int32) (σ : AM) : L_Md_doesMatter_2 v0R v1J v3I v5I σ = (L_Md_doesMatter_4 v0R v1J v3I v5I ((1 : Int32)) σ) := by
  unfold L_Md_doesMatter_2
  rw [lp_eq]
  show lpK (lp F_Md_doesMatter) (T_Md_doesMatter_2 v0R v1J v3I v5I σ) = _
  unfold T_Md_doesMatter_2
  simp only [lpK_ite, lq_inl, lq_inr, lpK_bnd, lpK_gd, lq_let]
  try rfl
set_option maxRecDepth 20000 in
theorem E_Md_doesMatter_3 (v0R : Nat) (v1J : Int64) (v3I : Int32) (v5I : Int32) (σ : AM) : L_Md_doesMatter_3 v0R v1J v3I v5I σ = (L_Md_doesMatter_4 v0R v1J v3I v5I ((0 : Int32)) σ) := by
  unfold L_Md_doesMatter_3
  rw [lp_eq]
  show lpK (lp F_Md_doesMatter) (T_Md_doesMatter_3 v0R v1J v3I v5I σ) = _
  unfold T_Md_doesMatter_3
  simp only [lpK_ite, lq_inl, lq_inr, lpK_bnd, lpK_gd, lq_let]
  try rfl
set_option maxRecDepth 20000 in
theorem E_Md_doesMatter_4 (v0R : Nat) (v1J : Int64) (v3I : Int32) (v5I : Int32) (s0I : Int32) (σ : AM) : L_Md_doesMatter_4 v0R v1J v3I v5I s0I σ = (L_Md_doesMatter_1 v0R v1J v3I s0I (v5I + (1 : Int32)) σ) := by
  unfold L_Md_doesMatter_4
  rw [lp_eq]
  show lpK (lp F_Md_doesMatter) (T_Md_doesMatter_4 v0R v1J v3I v5I s0I σ) = _
  unfold T_Md_doesMatter_4
  simp only [lpK_ite, lq_inl, lq_inr, lpK_bnd, lpK_gd, lq_let]
  try rfl
noncomputable def M_Md_doesMatter (v0R : Nat) (v1J : Int64) (v3I : Int32) (σ : AM) : Option (Int32 × AM) := mw σ (L_Md_doesMatter_0 v0R v1J v3I σ)
def I_Md_doesMatter (G : GX) (p : Program) (l : Launch) (e : Env) (s : State) (m : MethodId) (args : Array Value) (below : List Frame) (meth : Method) (c : Code) (z0 u0 n : Nat) : Prop :=
  (∀ (v0R : Nat) (v1J : Int64) (v3I : Int32) (σ : AM), VX (QM eI G args s below z0 u0) G p l e s m args below meth c 1 z0 u0 6 (lpn F_Md_doesMatter n (0, v0R, v1J, v3I, 0, 0, 0, σ)) 0 [(0, .ref v0R), (1, .long v1J), (3, .int v3I)] [] σ) ∧
  (∀ (v0R : Nat) (v1J : Int64) (v3I : Int32) (v4I : Int32) (v5I : Int32) (σ : AM), VX (QM eI G args s below z0 u0) G p l e s m args below meth c 1 z0 u0 6 (lpn F_Md_doesMatter n (1, v0R, v1J, v3I, v4I, v5I, 0, σ)) 6 [(0, .ref v0R), (1, .long v1J), (3, .int v3I), (4, .int v4I), (5, .int v5I)] [] σ) ∧
  (∀ (v0R : Nat) (v1J : Int64) (v3I : Int32) (v5I : Int32) (σ : AM), VX (QM eI G args s below z0 u0) G p l e s m args below meth c 1 z0 u0 6 (lpn F_Md_doesMatter n (2, v0R, v1J, v3I, 0, v5I, 0, σ)) 51 [(0, .ref v0R), (1, .long v1J), (3, .int v3I), (5, .int v5I)] [] σ) ∧
  (∀ (v0R : Nat) (v1J : Int64) (v3I : Int32) (v5I : Int32) (σ : AM), VX (QM eI G args s below z0 u0) G p l e s m args below meth c 1 z0 u0 6 (lpn F_Md_doesMatter n (3, v0R, v1J, v3I, 0, v5I, 0, σ)) 55 [(0, .ref v0R), (1, .long v1J), (3, .int v3I), (5, .int v5I)] [] σ) ∧
  (∀ (v0R : Nat) (v1J : Int64) (v3I : Int32) (v5I : Int32) (s0I : Int32) (σ : AM), VX (QM eI G args s below z0 u0) G p l e s m args below meth c 1 z0 u0 6 (lpn F_Md_doesMatter n (4, v0R, v1J, v3I, 0, v5I, s0I, σ)) 56 [(0, .ref v0R), (1, .long v1J), (3, .int v3I), (5, .int v5I)] [.int s0I] σ)
set_option maxRecDepth 20000 in
theorem s_Md_doesMatter_0 {G : GX} {p : Program} {l : Launch} {e : Env} {s : State} {m : MethodId} {args : Array Value} {below : List Frame} {meth : Method} {c : Code} {z0 u0 n : Nat} (C : Cx G p s m args meth c prog_14_method_61_code 6 "BellPlateModel" ((some FieldType.boolean))) (IH : I_Md_doesMatter G p l e s m args below meth c z0 u0 n) (v0R : Nat) (v1J : Int64) (v3I : Int32) (σ : AM) : VX (QM eI G args s below z0 u0) G p l e s m args below meth c 1 z0 u0 6 (lpK (lpn F_Md_doesMatter n) (T_Md_doesMatter_0 v0R v1J v3I σ)) 0 [(0, .ref v0R), (1, .long v1J), (3, .int v3I)] [] σ := by
  unfold T_Md_doesMatter_0
  refine x_iconst (v := (0 : Int32)) C d_Md_doesMatter_0 (by decide) ?_
  refine x_istore (lv' := [(4, .int (0 : Int32)), (0, .ref v0R), (1, .long v1J), (3, .int v3I)]) C d_Md_doesMatter_1 (by decide) rfl ?_
  refine x_iconst (v := (0 : Int32)) C d_Md_doesMatter_3 (by decide) ?_
  refine x_istore (lv' := [(5, .int (0 : Int32)), (4, .int (0 : Int32)), (0, .ref v0R), (1, .long v1J), (3, .int v3I)]) C d_Md_doesMatter_4 (by decide) rfl ?_
  refine x_lv [2, 3, 4, 1, 0] rfl ?_
  exact IH.2.1 v0R v1J v3I ((0 : Int32)) ((0 : Int32)) (σ)
set_option maxRecDepth 20000 in
theorem s_Md_doesMatter_1 {G : GX} {p : Program} {l : Launch} {e : Env} {s : State} {m : MethodId} {args : Array Value} {below : List Frame} {meth : Method} {c : Code} {z0 u0 n : Nat} (C : Cx G p s m args meth c prog_14_method_61_code 6 "BellPlateModel" ((some FieldType.boolean))) (IH : I_Md_doesMatter G p l e s m args below meth c z0 u0 n) (v0R : Nat) (v1J : Int64) (v3I : Int32) (v4I : Int32) (v5I : Int32) (σ : AM) : VX (QM eI G args s below z0 u0) G p l e s m args below meth c 1 z0 u0 6 (lpK (lpn F_Md_doesMatter n) (T_Md_doesMatter_1 v0R v1J v3I v4I v5I σ)) 6 [(0, .ref v0R), (1, .long v1J), (3, .int v3I), (4, .int v4I), (5, .int v5I)] [] σ := by
  unfold T_Md_doesMatter_1
  refine x_iload C d_Md_doesMatter_6 4 rfl ?_
  refine x_aload_n C d_Md_doesMatter_8 0 rfl ?_
  refine x_gd (fun h3 => ?_)
  refine x_callVI (As := []) C (c_Md_sets G l v0R  σ) (okO_iff.mp h3) rfl w1826 w58 w1824 w1827 w134 k_Md_sets rfl (by decide) (by decide) rfl (Nat.le_of_ble_eq_true rfl) d_Md_doesMatter_9 (fun r1 σ2 => ?_)
  refine x_icmp_ge (tgt := 64) C d_Md_doesMatter_12 (by decide) (fun _ => ?_) (fun _ => ?_)
  · refine x_iload C d_Md_doesMatter_15 3 rfl ?_
    refine x_if_ne (tgt := 51) C d_Md_doesMatter_17 (by decide) (fun _ => ?_) (fun _ => ?_)
    · refine x_iload C d_Md_doesMatter_20 4 rfl ?_
      refine x_iload_n C d_Md_doesMatter_22 2 rfl ?_
      refine x_ishr C d_Md_doesMatter_23 ?_
      refine x_iconst (v := (1 : Int32)) C d_Md_doesMatter_24 (by decide) ?_
      refine x_iand C d_Md_doesMatter_25 ?_
      refine x_if_ne (tgt := 55) C d_Md_doesMatter_26 (by decide) (fun _ => ?_) (fun _ => ?_)
      · refine x_lload_n C d_Md_doesMatter_29 1 rfl ?_
        refine x_iload C d_Md_doesMatter_30 4 rfl ?_
        refine x_iconst (v := (1 : Int32)) C d_Md_doesMatter_32 (by decide) ?_
        refine x_iload_n C d_Md_doesMatter_33 2 rfl ?_
        refine x_ishl C d_Md_doesMatter_34 ?_
        refine x_ior C d_Md_doesMatter_35 ?_
        refine x_callSI (As := [.long v1J, .int (v5I ||| ((1 : Int32) <<< (v3I &&& 31)))]) C (c_Md_doesRing G l v1J (v5I ||| ((1 : Int32) <<< (v3I &&& 31))) σ2) w2235 w2234 w2236 w134 k_Md_doesRing rfl (by decide) (by decide) rfl (Nat.le_of_ble_eq_true rfl) d_Md_doesMatter_36 (fun r4 σ5 => ?_)
        refine x_if_eq (tgt := 55) C d_Md_doesMatter_39 (by decide) (fun _ => ?_) (fun _ => ?_)
        · refine x_lv [0, 1, 2, 4] rfl ?_
          exact IH.2.2.2.1 v0R v1J v3I v5I (σ5)
        · refine x_lload_n C d_Md_doesMatter_42 1 rfl ?_
          refine x_iload C d_Md_doesMatter_43 4 rfl ?_
          refine x_callSI (As := [.long v1J, .int v5I]) C (c_Md_doesRing G l v1J v5I σ5) w2235 w2234 w2236 w134 k_Md_doesRing rfl (by decide) (by decide) rfl (Nat.le_of_ble_eq_true rfl) d_Md_doesMatter_45 (fun r6 σ7 => ?_)
          refine x_if_ne (tgt := 55) C d_Md_doesMatter_48 (by decide) (fun _ => ?_) (fun _ => ?_)
          · refine x_lv [0, 1, 2, 4] rfl ?_
            exact IH.2.2.1 v0R v1J v3I v5I (σ7)
          · refine x_lv [0, 1, 2, 4] rfl ?_
            exact IH.2.2.2.1 v0R v1J v3I v5I (σ7)
      · refine x_lv [0, 1, 2, 4] rfl ?_
        exact IH.2.2.2.1 v0R v1J v3I v5I (σ2)
    · refine x_lv [0, 1, 2, 4] rfl ?_
      exact IH.2.2.1 v0R v1J v3I v5I (σ2)
  · refine x_iload C d_Md_doesMatter_64 3 rfl ?_
    refine x_gd (fun h8 => ?_)
    exact x_zret C (isB_narrow h8) d_Md_doesMatter_66
set_option maxRecDepth 20000 in
theorem s_Md_doesMatter_2 {G : GX} {p : Program} {l : Launch} {e : Env} {s : State} {m : MethodId} {args : Array Value} {below : List Frame} {meth : Method} {c : Code} {z0 u0 n : Nat} (C : Cx G p s m args meth c prog_14_method_61_code 6 "BellPlateModel" ((some FieldType.boolean))) (IH : I_Md_doesMatter G p l e s m args below meth c z0 u0 n) (v0R : Nat) (v1J : Int64) (v3I : Int32) (v5I : Int32) (σ : AM) : VX (QM eI G args s below z0 u0) G p l e s m args below meth c 1 z0 u0 6 (lpK (lpn F_Md_doesMatter n) (T_Md_doesMatter_2 v0R v1J v3I v5I σ)) 51 [(0, .ref v0R), (1, .long v1J), (3, .int v3I), (5, .int v5I)] [] σ := by
  unfold T_Md_doesMatter_2
  refine x_iconst (v := (1 : Int32)) C d_Md_doesMatter_51 (by decide) ?_
  refine x_goto (tgt := 56) C d_Md_doesMatter_52 (by decide) ?_
  exact IH.2.2.2.2 v0R v1J v3I v5I ((1 : Int32)) (σ)
set_option maxRecDepth 20000 in
theorem s_Md_doesMatter_3 {G : GX} {p : Program} {l : Launch} {e : Env} {s : State} {m : MethodId} {args : Array Value} {below : List Frame} {meth : Method} {c : Code} {z0 u0 n : Nat} (C : Cx G p s m args meth c prog_14_method_61_code 6 "BellPlateModel" ((some FieldType.boolean))) (IH : I_Md_doesMatter G p l e s m args below meth c z0 u0 n) (v0R : Nat) (v1J : Int64) (v3I : Int32) (v5I : Int32) (σ : AM) : VX (QM eI G args s below z0 u0) G p l e s m args below meth c 1 z0 u0 6 (lpK (lpn F_Md_doesMatter n) (T_Md_doesMatter_3 v0R v1J v3I v5I σ)) 55 [(0, .ref v0R), (1, .long v1J), (3, .int v3I), (5, .int v5I)] [] σ := by
  unfold T_Md_doesMatter_3
  refine x_iconst (v := (0 : Int32)) C d_Md_doesMatter_55 (by decide) ?_
  exact IH.2.2.2.2 v0R v1J v3I v5I ((0 : Int32)) (σ)
set_option maxRecDepth 20000 in
theorem s_Md_doesMatter_4 {G : GX} {p : Program} {l : Launch} {e : Env} {s : State} {m : MethodId} {args : Array Value} {below : List Frame} {meth : Method} {c : Code} {z0 u0 n : Nat} (C : Cx G p s m args meth c prog_14_method_61_code 6 "BellPlateModel" ((some FieldType.boolean))) (IH : I_Md_doesMatter G p l e s m args below meth c z0 u0 n) (v0R : Nat) (v1J : Int64) (v3I : Int32) (v5I : Int32) (s0I : Int32) (σ : AM) : VX (QM eI G args s below z0 u0) G p l e s m args below meth c 1 z0 u0 6 (lpK (lpn F_Md_doesMatter n) (T_Md_doesMatter_4 v0R v1J v3I v5I s0I σ)) 56 [(0, .ref v0R), (1, .long v1J), (3, .int v3I), (5, .int v5I)] [.int s0I] σ := by
  unfold T_Md_doesMatter_4
  refine x_istore (lv' := [(4, .int s0I), (0, .ref v0R), (1, .long v1J), (3, .int v3I), (5, .int v5I)]) C d_Md_doesMatter_56 (by decide) rfl ?_
  refine x_iinc (v := v5I + (1 : Int32)) (lv' := [(5, .int (v5I + (1 : Int32))), (4, .int s0I), (0, .ref v0R), (1, .long v1J), (3, .int v3I)]) C d_Md_doesMatter_58 4 rfl rfl (by decide) rfl ?_
  refine x_goto (tgt := 6) C d_Md_doesMatter_61 (by decide) ?_
  refine x_lv [2, 3, 4, 1, 0] rfl ?_
  exact IH.2.1 v0R v1J v3I s0I (v5I + (1 : Int32)) (σ)
theorem i_Md_doesMatter {G : GX} {p : Program} {l : Launch} {e : Env} {s : State} {m : MethodId} {args : Array Value} {below : List Frame} {meth : Method} {c : Code} {z0 u0 : Nat} (C : Cx G p s m args meth c prog_14_method_61_code 6 "BellPlateModel" ((some FieldType.boolean))) (n : Nat) : I_Md_doesMatter G p l e s m args below meth c z0 u0 n := by
  induction n with
  | zero => exact ⟨fun _ _ _ _ => x_none, fun _ _ _ _ _ _ => x_none, fun _ _ _ _ _ => x_none, fun _ _ _ _ _ => x_none, fun _ _ _ _ _ _ => x_none⟩
  | succ n IH => exact ⟨fun v0R v1J v3I σ => s_Md_doesMatter_0 C IH v0R v1J v3I σ, fun v0R v1J v3I v4I v5I σ => s_Md_doesMatter_1 C IH v0R v1J v3I v4I v5I σ, fun v0R v1J v3I v5I σ => s_Md_doesMatter_2 C IH v0R v1J v3I v5I σ, fun v0R v1J v3I v5I σ => s_Md_doesMatter_3 C IH v0R v1J v3I v5I σ, fun v0R v1J v3I v5I s0I σ => s_Md_doesMatter_4 C IH v0R v1J v3I v5I s0I σ⟩
theorem c_Md_doesMatter (G : GX) (l : Launch) (v0R : Nat) (v1J : Int64) (v3I : Int32) (σ : AM) : CT eI G l 1 y_Md_doesMatter prog_14_method_61_code 6 ((some FieldType.boolean)) [.ref v0R, .long v1J, .int v3I] σ (M_Md_doesMatter v0R v1J v3I σ) := by
  refine ct_of (by decide +kernel) (Nat.le_of_ble_eq_true rfl) (fun p e s m args below meth c C hin => ?_)
  refine x_lve (lv' := [(0, .ref v0R), (1, .long v1J), (3, .int v3I)]) rfl ?_
  intro r σ' h
  obtain ⟨n, hn⟩ := (lp_iff _ _ _).mp h
  exact (i_Md_doesMatter C n).1 v0R v1J v3I σ r σ' hn
/-! BellPlateModel.matters(I)I -/
abbrev y_Md_matters : MethodName := ⟨"BellPlateModel", "matters", "(I)I"⟩
theorem k_Md_matters : y_Md_matters.cls ≠ "java/lang/invoke/MethodHandle" ∧ y_Md_matters.cls ≠ "java/lang/invoke/VarHandle" ∧ (parseMethodDescriptor y_Md_matters.desc).map (fun d => d.parameters.length) = some 1 := by decide +kernel
theorem d_Md_matters_0 : decode prog_14_method_62_code 0 = .ok (.aload_n 0, 1) := by decide +kernel
theorem d_Md_matters_1 : decode prog_14_method_62_code 1 = .ok (.iconst 0, 1) := by decide +kernel
theorem d_Md_matters_2 : decode prog_14_method_62_code 2 = .ok (.putfield 1, 3) := by decide +kernel
theorem d_Md_matters_5 : decode prog_14_method_62_code 5 = .ok (.aload_n 0, 1) := by decide +kernel
theorem d_Md_matters_6 : decode prog_14_method_62_code 6 = .ok (.iload_n 1, 1) := by decide +kernel
theorem d_Md_matters_7 : decode prog_14_method_62_code 7 = .ok (.invokevirtual 393, 3) := by decide +kernel
theorem d_Md_matters_10 : decode prog_14_method_62_code 10 = .ok (.ifCond .ne 5, 3) := by decide +kernel
theorem d_Md_matters_13 : decode prog_14_method_62_code 13 = .ok (.iconst (-1), 1) := by decide +kernel
theorem d_Md_matters_14 : decode prog_14_method_62_code 14 = .ok (.ireturn, 1) := by decide +kernel
theorem d_Md_matters_15 : decode prog_14_method_62_code 15 = .ok (.aload_n 0, 1) := by decide +kernel
theorem d_Md_matters_16 : decode prog_14_method_62_code 16 = .ok (.invokevirtual 381, 3) := by decide +kernel
theorem d_Md_matters_19 : decode prog_14_method_62_code 19 = .ok (.iconst 0, 1) := by decide +kernel
theorem d_Md_matters_20 : decode prog_14_method_62_code 20 = .ok (.istore_n 2, 1) := by decide +kernel
theorem d_Md_matters_21 : decode prog_14_method_62_code 21 = .ok (.iconst 0, 1) := by decide +kernel
theorem d_Md_matters_22 : decode prog_14_method_62_code 22 = .ok (.istore_n 3, 1) := by decide +kernel
theorem d_Md_matters_23 : decode prog_14_method_62_code 23 = .ok (.iload_n 3, 1) := by decide +kernel
theorem d_Md_matters_24 : decode prog_14_method_62_code 24 = .ok (.aload_n 0, 1) := by decide +kernel
theorem d_Md_matters_25 : decode prog_14_method_62_code 25 = .ok (.getfield 372, 3) := by decide +kernel
theorem d_Md_matters_28 : decode prog_14_method_62_code 28 = .ok (.if_icmp .ge 36, 3) := by decide +kernel
theorem d_Md_matters_31 : decode prog_14_method_62_code 31 = .ok (.iload_n 2, 1) := by decide +kernel
theorem d_Md_matters_32 : decode prog_14_method_62_code 32 = .ok (.aload_n 0, 1) := by decide +kernel
theorem d_Md_matters_33 : decode prog_14_method_62_code 33 = .ok (.aload_n 0, 1) := by decide +kernel
theorem d_Md_matters_34 : decode prog_14_method_62_code 34 = .ok (.getfield 82, 3) := by decide +kernel
theorem d_Md_matters_37 : decode prog_14_method_62_code 37 = .ok (.aload_n 0, 1) := by decide +kernel
theorem d_Md_matters_38 : decode prog_14_method_62_code 38 = .ok (.getfield 116, 3) := by decide +kernel
theorem d_Md_matters_41 : decode prog_14_method_62_code 41 = .ok (.iload_n 3, 1) := by decide +kernel
theorem d_Md_matters_42 : decode prog_14_method_62_code 42 = .ok (.iaload, 1) := by decide +kernel
theorem d_Md_matters_43 : decode prog_14_method_62_code 43 = .ok (.laload, 1) := by decide +kernel
theorem d_Md_matters_44 : decode prog_14_method_62_code 44 = .ok (.iload_n 1, 1) := by decide +kernel
theorem d_Md_matters_45 : decode prog_14_method_62_code 45 = .ok (.invokevirtual 396, 3) := by decide +kernel
theorem d_Md_matters_48 : decode prog_14_method_62_code 48 = .ok (.ifCond .eq 7, 3) := by decide +kernel
theorem d_Md_matters_51 : decode prog_14_method_62_code 51 = .ok (.iconst 1, 1) := by decide +kernel
theorem d_Md_matters_52 : decode prog_14_method_62_code 52 = .ok (.goto 4, 3) := by decide +kernel
theorem d_Md_matters_55 : decode prog_14_method_62_code 55 = .ok (.iconst 0, 1) := by decide +kernel
theorem d_Md_matters_56 : decode prog_14_method_62_code 56 = .ok (.iadd, 1) := by decide +kernel
theorem d_Md_matters_57 : decode prog_14_method_62_code 57 = .ok (.istore_n 2, 1) := by decide +kernel
theorem d_Md_matters_58 : decode prog_14_method_62_code 58 = .ok (.iinc 3 1, 3) := by decide +kernel
theorem d_Md_matters_61 : decode prog_14_method_62_code 61 = .ok (.goto (-38), 3) := by decide +kernel
theorem d_Md_matters_64 : decode prog_14_method_62_code 64 = .ok (.iload_n 2, 1) := by decide +kernel
theorem d_Md_matters_65 : decode prog_14_method_62_code 65 = .ok (.aload_n 0, 1) := by decide +kernel
theorem d_Md_matters_66 : decode prog_14_method_62_code 66 = .ok (.getfield 372, 3) := by decide +kernel
theorem d_Md_matters_69 : decode prog_14_method_62_code 69 = .ok (.invokestatic 390, 3) := by decide +kernel
theorem d_Md_matters_72 : decode prog_14_method_62_code 72 = .ok (.ireturn, 1) := by decide +kernel
abbrev S_Md_matters : Type := Nat × Nat × Int32 × Int32 × Int32 × Int32 × Int32 × AM
noncomputable def T_Md_matters_0 (v0R : Nat) (v1I : Int32) (σ : AM) : S_Md_matters ⊕ Option (Int32 × AM) :=
  gdT (okO σ v0R 12) <| letT (sI σ v0R 0 (0 : Int32)) fun σ2 => bndT (M_Md_isThing v0R v1I σ2) fun r4 σ5 => if r4 = 0 then (.inr (some (((-1) : Int32), σ5))) else (gdT (okO σ5 v0R 12) <| bndT (M_Md_findLeft v0R σ5) fun _ σ7 => .inl (1, v0R, v1I, (0 : Int32), (0 : Int32), 0, 0, σ7))
noncomputable def T_Md_matters_1 (v0R : Nat) (v1I : Int32) (v2I : Int32) (v3I : Int32) (σ : AM) : S_Md_matters ⊕ Option (Int32 × AM) :=
  gdT (okO σ v0R 12) <| if v3I < (aI σ v0R 46) then (gdT (okO σ (aR σ v0R 30) 102) <| gdT (okO σ (aR σ v0R 45) 101) <| gdT (inB v3I (aN σ (aR σ v0R 45))) <| gdT (inB (aI σ (aR σ v0R 45) v3I.toNatClampNeg) (aN σ (aR σ v0R 30))) <| bndT (M_Md_doesMatter v0R (aL σ (aR σ v0R 30) (aI σ (aR σ v0R 45) v3I.toNatClampNeg).toNatClampNeg) v1I σ) fun r6 σ7 => if r6 = 0 then (.inl (2, v0R, v1I, 0, v3I, v2I, (0 : Int32), σ7)) else (.inl (2, v0R, v1I, 0, v3I, v2I, (1 : Int32), σ7))) else (bndT (M_Md_sureOf v2I (aI σ v0R 46) σ) fun r8 σ9 => .inr (some (r8, σ9)))
noncomputable def T_Md_matters_2 (v0R : Nat) (v1I : Int32) (v3I : Int32) (s0I : Int32) (s1I : Int32) (σ : AM) : S_Md_matters ⊕ Option (Int32 × AM) :=
  letT (s0I + s1I) fun x1 => .inl (1, v0R, v1I, x1, v3I + (1 : Int32), 0, 0, σ)
noncomputable def F_Md_matters : S_Md_matters → S_Md_matters ⊕ Option (Int32 × AM) := fun s => match s.1 with
  | 0 => T_Md_matters_0 (s.2.1) (s.2.2.1) (s.2.2.2.2.2.2.2)
  | 1 => T_Md_matters_1 (s.2.1) (s.2.2.1) (s.2.2.2.1) (s.2.2.2.2.1) (s.2.2.2.2.2.2.2)
  | _ => T_Md_matters_2 (s.2.1) (s.2.2.1) (s.2.2.2.2.1) (s.2.2.2.2.2.1) (s.2.2.2.2.2.2.1) (s.2.2.2.2.2.2.2)
noncomputable def L_Md_matters_0 (v0R : Nat) (v1I : Int32) (σ : AM) : Option (Int32 × AM) := lp F_Md_matters (0, v0R, v1I, 0, 0, 0, 0, σ)
noncomputable def L_Md_matters_1 (v0R : Nat) (v1I : Int32) (v2I : Int32) (v3I : Int32) (σ : AM) : Option (Int32 × AM) := lp F_Md_matters (1, v0R, v1I, v2I, v3I, 0, 0, σ)
noncomputable def L_Md_matters_2 (v0R : Nat) (v1I : Int32) (v3I : Int32) (s0I : Int32) (s1I : Int32) (σ : AM) : Option (Int32 × AM) := lp F_Md_matters (2, v0R, v1I, 0, v3I, s0I, s1I, σ)
set_option maxRecDepth 20000 in
theorem E_Md_matters_0 (v0R : Nat) (v1I : Int32) (σ : AM) : L_Md_matters_0 v0R v1I σ = (gd (okO σ v0R 12) <| letT (sI σ v0R 0 (0 : Int32)) fun σ2 => bnd (M_Md_isThing v0R v1I σ2) fun r4 σ5 => if r4 = 0 then ((some (((-1) : Int32), σ5))) else (gd (okO σ5 v0R 12) <| bnd (M_Md_findLeft v0R σ5) fun _ σ7 => L_Md_matters_1 v0R v1I ((0 : Int32)) ((0 : Int32)) σ7)) := by
  unfold L_Md_matters_0
  rw [lp_eq]
  show lpK (lp F_Md_matters) (T_Md_matters_0 v0R v1I σ) = _
  unfold T_Md_matters_0
  simp only [lpK_ite, lq_inl, lq_inr, lpK_bnd, lpK_gd, lq_let]
  try rfl
set_option maxRecDepth 20000 in
theorem E_Md_matters_1 (v0R : Nat) (v1I : Int32) (v2I : Int32) (v3I : Int32) (σ : AM) : L_Md_matters_1 v0R v1I v2I v3I σ = (gd (okO σ v0R 12) <| if v3I < (aI σ v0R 46) then (gd (okO σ (aR σ v0R 30) 102) <| gd (okO σ (aR σ v0R 45) 101) <| gd (inB v3I (aN σ (aR σ v0R 45))) <| gd (inB (aI σ (aR σ v0R 45) v3I.toNatClampNeg) (aN σ (aR σ v0R 30))) <| bnd (M_Md_doesMatter v0R (aL σ (aR σ v0R 30) (aI σ (aR σ v0R 45) v3I.toNatClampNeg).toNatClampNeg) v1I σ) fun r6 σ7 => if r6 = 0 then (L_Md_matters_2 v0R v1I v3I v2I ((0 : Int32)) σ7) else (L_Md_matters_2 v0R v1I v3I v2I ((1 : Int32)) σ7)) else (bnd (M_Md_sureOf v2I (aI σ v0R 46) σ) fun r8 σ9 => (some (r8, σ9)))) := by
  unfold L_Md_matters_1
  rw [lp_eq]
  show lpK (lp F_Md_matters) (T_Md_matters_1 v0R v1I v2I v3I σ) = _
  unfold T_Md_matters_1
  simp only [lpK_ite, lq_inl, lq_inr, lpK_bnd, lpK_gd, lq_let]
  try rfl
set_option maxRecDepth 20000 in
theorem E_Md_matters_2 (v0R : Nat) (v1I : Int32) (v3I : Int32) (s0I : Int32) (s1I : Int32) (σ : AM) : L_Md_matters_2 v0R v1I v3I s0I s1I σ = (letT (s0I + s1I) fun x1 => L_Md_matters_1 v0R v1I x1 (v3I + (1 : Int32)) σ) := by
  unfold L_Md_matters_2
  rw [lp_eq]
  show lpK (lp F_Md_matters) (T_Md_matters_2 v0R v1I v3I s0I s1I σ) = _
  unfold T_Md_matters_2
  simp only [lpK_ite, lq_inl, lq_inr, lpK_bnd, lpK_gd, lq_let]
  try rfl
noncomputable def M_Md_matters (v0R : Nat) (v1I : Int32) (σ : AM) : Option (Int32 × AM) := mw σ (L_Md_matters_0 v0R v1I σ)
def I_Md_matters (G : GX) (p : Program) (l : Launch) (e : Env) (s : State) (m : MethodId) (args : Array Value) (below : List Frame) (meth : Method) (c : Code) (z0 u0 n : Nat) : Prop :=
  (∀ (v0R : Nat) (v1I : Int32) (σ : AM), VX (QM eI G args s below z0 u0) G p l e s m args below meth c 4 z0 u0 4 (lpn F_Md_matters n (0, v0R, v1I, 0, 0, 0, 0, σ)) 0 [(0, .ref v0R), (1, .int v1I)] [] σ) ∧
  (∀ (v0R : Nat) (v1I : Int32) (v2I : Int32) (v3I : Int32) (σ : AM), VX (QM eI G args s below z0 u0) G p l e s m args below meth c 4 z0 u0 4 (lpn F_Md_matters n (1, v0R, v1I, v2I, v3I, 0, 0, σ)) 23 [(0, .ref v0R), (1, .int v1I), (2, .int v2I), (3, .int v3I)] [] σ) ∧
  (∀ (v0R : Nat) (v1I : Int32) (v3I : Int32) (s0I : Int32) (s1I : Int32) (σ : AM), VX (QM eI G args s below z0 u0) G p l e s m args below meth c 4 z0 u0 4 (lpn F_Md_matters n (2, v0R, v1I, 0, v3I, s0I, s1I, σ)) 56 [(0, .ref v0R), (1, .int v1I), (3, .int v3I)] [.int s1I, .int s0I] σ)
set_option maxRecDepth 20000 in
theorem s_Md_matters_0 {G : GX} {p : Program} {l : Launch} {e : Env} {s : State} {m : MethodId} {args : Array Value} {below : List Frame} {meth : Method} {c : Code} {z0 u0 n : Nat} (C : Cx G p s m args meth c prog_14_method_62_code 4 "BellPlateModel" ((some FieldType.int))) (IH : I_Md_matters G p l e s m args below meth c z0 u0 n) (v0R : Nat) (v1I : Int32) (σ : AM) : VX (QM eI G args s below z0 u0) G p l e s m args below meth c 4 z0 u0 4 (lpK (lpn F_Md_matters n) (T_Md_matters_0 v0R v1I σ)) 0 [(0, .ref v0R), (1, .int v1I)] [] σ := by
  unfold T_Md_matters_0
  refine x_aload_n C d_Md_matters_0 0 rfl ?_
  refine x_iconst (v := (0 : Int32)) C d_Md_matters_1 (by decide) ?_
  refine x_gd (fun h1 => ?_)
  refine x_putI (k := 0) C (okO_iff.mp h1) rfl j11_ok y11_ok n11_ok (by decide) rfl rfl rfl rfl w1852 d_Md_matters_2 ?_
  refine x_letS (fun σ2 e3 => ?_)
  refine x_aload_n C d_Md_matters_5 0 rfl ?_
  refine x_iload_n C d_Md_matters_6 1 rfl ?_
  refine x_callVI (As := [.int v1I]) C (c_Md_isThing G l v0R v1I σ2) (by first | exact (okO_iff.mp h1) | (rw [e3]; exact (okO_iff.mp h1))) rfl w2258 w92 w2256 w2259 w134 k_Md_isThing rfl (by decide) (by decide) rfl (Nat.le_of_ble_eq_true rfl) d_Md_matters_7 (fun r4 σ5 => ?_)
  refine x_if_ne (tgt := 15) C d_Md_matters_10 (by decide) (fun _ => ?_) (fun _ => ?_)
  · refine x_iconst (v := ((-1) : Int32)) C d_Md_matters_13 (by decide) ?_
    exact x_iret C d_Md_matters_14
  · refine x_aload_n C d_Md_matters_15 0 rfl ?_
    refine x_gd (fun h8 => ?_)
    refine x_callVV (As := []) C (c_Md_findLeft G l v0R  σ5) (okO_iff.mp h8) rfl w2213 w85 w2211 w2214 w134 k_Md_findLeft rfl (by decide) (by decide) rfl (Nat.le_of_ble_eq_true rfl) d_Md_matters_16 (fun r6 σ7 => ?_)
    refine x_iconst (v := (0 : Int32)) C d_Md_matters_19 (by decide) ?_
    refine x_istore_n (lv' := [(2, .int (0 : Int32)), (0, .ref v0R), (1, .int v1I)]) C d_Md_matters_20 (by decide) rfl rfl ?_
    refine x_iconst (v := (0 : Int32)) C d_Md_matters_21 (by decide) ?_
    refine x_istore_n (lv' := [(3, .int (0 : Int32)), (2, .int (0 : Int32)), (0, .ref v0R), (1, .int v1I)]) C d_Md_matters_22 (by decide) rfl rfl ?_
    refine x_lv [2, 3, 1, 0] rfl ?_
    exact IH.2.1 v0R v1I ((0 : Int32)) ((0 : Int32)) (σ7)
set_option maxRecDepth 20000 in
theorem s_Md_matters_1 {G : GX} {p : Program} {l : Launch} {e : Env} {s : State} {m : MethodId} {args : Array Value} {below : List Frame} {meth : Method} {c : Code} {z0 u0 n : Nat} (C : Cx G p s m args meth c prog_14_method_62_code 4 "BellPlateModel" ((some FieldType.int))) (IH : I_Md_matters G p l e s m args below meth c z0 u0 n) (v0R : Nat) (v1I : Int32) (v2I : Int32) (v3I : Int32) (σ : AM) : VX (QM eI G args s below z0 u0) G p l e s m args below meth c 4 z0 u0 4 (lpK (lpn F_Md_matters n) (T_Md_matters_1 v0R v1I v2I v3I σ)) 23 [(0, .ref v0R), (1, .int v1I), (2, .int v2I), (3, .int v3I)] [] σ := by
  unfold T_Md_matters_1
  refine x_iload_n C d_Md_matters_23 3 rfl ?_
  refine x_aload_n C d_Md_matters_24 0 rfl ?_
  refine x_gd (fun h1 => ?_)
  refine x_getI (k := 46) C (okO_iff.mp h1) rfl j11_ok (by decide) rfl w1898 d_Md_matters_25 ?_
  refine x_icmp_ge (tgt := 64) C d_Md_matters_28 (by decide) (fun _ => ?_) (fun _ => ?_)
  · refine x_iload_n C d_Md_matters_31 2 rfl ?_
    refine x_aload_n C d_Md_matters_32 0 rfl ?_
    refine x_aload_n C d_Md_matters_33 0 rfl ?_
    refine x_gd (fun h2 => ?_)
    refine x_getR (k := 30) (kv := 102) C (okO_iff.mp h1) rfl j11_ok (by decide) rfl (okO_iff.mp h2) (by decide) w1882 d_Md_matters_34 ?_
    refine x_aload_n C d_Md_matters_37 0 rfl ?_
    refine x_gd (fun h3 => ?_)
    refine x_getR (k := 45) (kv := 101) C (okO_iff.mp h1) rfl j11_ok (by decide) rfl (okO_iff.mp h3) (by decide) w1897 d_Md_matters_38 ?_
    refine x_iload_n C d_Md_matters_41 3 rfl ?_
    refine x_gd (fun h4 => ?_)
    refine x_aldI C (okO_iff.mp h3) (inB_iff.mp h4) d_Md_matters_42 ?_
    refine x_gd (fun h5 => ?_)
    refine x_aldJ C (okO_iff.mp h2) (inB_iff.mp h5) d_Md_matters_43 ?_
    refine x_iload_n C d_Md_matters_44 1 rfl ?_
    refine x_callVI (As := [.long (aL σ (aR σ v0R 30) (aI σ (aR σ v0R 45) v3I.toNatClampNeg).toNatClampNeg), .int v1I]) C (c_Md_doesMatter G l v0R (aL σ (aR σ v0R 30) (aI σ (aR σ v0R 45) v3I.toNatClampNeg).toNatClampNeg) v1I σ) (okO_iff.mp h1) rfl w2262 w93 w2260 w2263 w134 k_Md_doesMatter rfl (by decide) (by decide) rfl (Nat.le_of_ble_eq_true rfl) d_Md_matters_45 (fun r6 σ7 => ?_)
    refine x_if_eq (tgt := 55) C d_Md_matters_48 (by decide) (fun _ => ?_) (fun _ => ?_)
    · refine x_iconst (v := (0 : Int32)) C d_Md_matters_55 (by decide) ?_
      refine x_lv [0, 1, 3] rfl ?_
      exact IH.2.2 v0R v1I v3I v2I ((0 : Int32)) (σ7)
    · refine x_iconst (v := (1 : Int32)) C d_Md_matters_51 (by decide) ?_
      refine x_goto (tgt := 56) C d_Md_matters_52 (by decide) ?_
      refine x_lv [0, 1, 3] rfl ?_
      exact IH.2.2 v0R v1I v3I v2I ((1 : Int32)) (σ7)
  · refine x_iload_n C d_Md_matters_64 2 rfl ?_
    refine x_aload_n C d_Md_matters_65 0 rfl ?_
    refine x_getI (k := 46) C (okO_iff.mp h1) rfl j11_ok (by decide) rfl w1898 d_Md_matters_66 ?_
    refine x_callSI (As := [.int v2I, .int (aI σ v0R 46)]) C (c_Md_sureOf G l v2I (aI σ v0R 46) σ) w2250 w2249 w2251 w134 k_Md_sureOf rfl (by decide) (by decide) rfl (Nat.le_of_ble_eq_true rfl) d_Md_matters_69 (fun r8 σ9 => ?_)
    exact x_iret C d_Md_matters_72
set_option maxRecDepth 20000 in
theorem s_Md_matters_2 {G : GX} {p : Program} {l : Launch} {e : Env} {s : State} {m : MethodId} {args : Array Value} {below : List Frame} {meth : Method} {c : Code} {z0 u0 n : Nat} (C : Cx G p s m args meth c prog_14_method_62_code 4 "BellPlateModel" ((some FieldType.int))) (IH : I_Md_matters G p l e s m args below meth c z0 u0 n) (v0R : Nat) (v1I : Int32) (v3I : Int32) (s0I : Int32) (s1I : Int32) (σ : AM) : VX (QM eI G args s below z0 u0) G p l e s m args below meth c 4 z0 u0 4 (lpK (lpn F_Md_matters n) (T_Md_matters_2 v0R v1I v3I s0I s1I σ)) 56 [(0, .ref v0R), (1, .int v1I), (3, .int v3I)] [.int s1I, .int s0I] σ := by
  unfold T_Md_matters_2
  refine x_iadd C d_Md_matters_56 ?_
  refine x_letI (fun x1 _ => ?_)
  refine x_istore_n (lv' := [(2, .int x1), (0, .ref v0R), (1, .int v1I), (3, .int v3I)]) C d_Md_matters_57 (by decide) rfl rfl ?_
  refine x_iinc (v := v3I + (1 : Int32)) (lv' := [(3, .int (v3I + (1 : Int32))), (2, .int x1), (0, .ref v0R), (1, .int v1I)]) C d_Md_matters_58 3 rfl rfl (by decide) rfl ?_
  refine x_goto (tgt := 23) C d_Md_matters_61 (by decide) ?_
  refine x_lv [2, 3, 1, 0] rfl ?_
  exact IH.2.1 v0R v1I x1 (v3I + (1 : Int32)) (σ)
theorem i_Md_matters {G : GX} {p : Program} {l : Launch} {e : Env} {s : State} {m : MethodId} {args : Array Value} {below : List Frame} {meth : Method} {c : Code} {z0 u0 : Nat} (C : Cx G p s m args meth c prog_14_method_62_code 4 "BellPlateModel" ((some FieldType.int))) (n : Nat) : I_Md_matters G p l e s m args below meth c z0 u0 n := by
  induction n with
  | zero => exact ⟨fun _ _ _ => x_none, fun _ _ _ _ _ => x_none, fun _ _ _ _ _ _ => x_none⟩
  | succ n IH => exact ⟨fun v0R v1I σ => s_Md_matters_0 C IH v0R v1I σ, fun v0R v1I v2I v3I σ => s_Md_matters_1 C IH v0R v1I v2I v3I σ, fun v0R v1I v3I s0I s1I σ => s_Md_matters_2 C IH v0R v1I v3I s0I s1I σ⟩
theorem c_Md_matters (G : GX) (l : Launch) (v0R : Nat) (v1I : Int32) (σ : AM) : CT eI G l 4 y_Md_matters prog_14_method_62_code 4 ((some FieldType.int)) [.ref v0R, .int v1I] σ (M_Md_matters v0R v1I σ) := by
  refine ct_of (by decide +kernel) (Nat.le_of_ble_eq_true rfl) (fun p e s m args below meth c C hin => ?_)
  refine x_lve (lv' := [(0, .ref v0R), (1, .int v1I)]) rfl ?_
  intro r σ' h
  obtain ⟨n, hn⟩ := (lp_iff _ _ _).mp h
  exact (i_Md_matters C n).1 v0R v1I σ r σ' hn
/-! BellPlateModel.areAlike(JII)Z -/
abbrev y_Md_areAlike : MethodName := ⟨"BellPlateModel", "areAlike", "(JII)Z"⟩
theorem k_Md_areAlike : y_Md_areAlike.cls ≠ "java/lang/invoke/MethodHandle" ∧ y_Md_areAlike.cls ≠ "java/lang/invoke/VarHandle" ∧ (parseMethodDescriptor y_Md_areAlike.desc).map (fun d => d.parameters.length) = some 3 := by decide +kernel
theorem d_Md_areAlike_0 : decode prog_14_method_63_code 0 = .ok (.iconst 1, 1) := by decide +kernel
theorem d_Md_areAlike_1 : decode prog_14_method_63_code 1 = .ok (.istore 5, 2) := by decide +kernel
theorem d_Md_areAlike_3 : decode prog_14_method_63_code 3 = .ok (.iconst 0, 1) := by decide +kernel
theorem d_Md_areAlike_4 : decode prog_14_method_63_code 4 = .ok (.istore 6, 2) := by decide +kernel
theorem d_Md_areAlike_6 : decode prog_14_method_63_code 6 = .ok (.iload 6, 2) := by decide +kernel
theorem d_Md_areAlike_8 : decode prog_14_method_63_code 8 = .ok (.aload_n 0, 1) := by decide +kernel
theorem d_Md_areAlike_9 : decode prog_14_method_63_code 9 = .ok (.invokevirtual 306, 3) := by decide +kernel
theorem d_Md_areAlike_12 : decode prog_14_method_63_code 12 = .ok (.if_icmp .ge 79, 3) := by decide +kernel
theorem d_Md_areAlike_15 : decode prog_14_method_63_code 15 = .ok (.iload 6, 2) := by decide +kernel
theorem d_Md_areAlike_17 : decode prog_14_method_63_code 17 = .ok (.iload_n 3, 1) := by decide +kernel
theorem d_Md_areAlike_18 : decode prog_14_method_63_code 18 = .ok (.ishr, 1) := by decide +kernel
theorem d_Md_areAlike_19 : decode prog_14_method_63_code 19 = .ok (.iconst 1, 1) := by decide +kernel
theorem d_Md_areAlike_20 : decode prog_14_method_63_code 20 = .ok (.iand, 1) := by decide +kernel
theorem d_Md_areAlike_21 : decode prog_14_method_63_code 21 = .ok (.iconst 1, 1) := by decide +kernel
theorem d_Md_areAlike_22 : decode prog_14_method_63_code 22 = .ok (.if_icmp .ne 17, 3) := by decide +kernel
theorem d_Md_areAlike_25 : decode prog_14_method_63_code 25 = .ok (.iload 6, 2) := by decide +kernel
theorem d_Md_areAlike_27 : decode prog_14_method_63_code 27 = .ok (.iload 4, 2) := by decide +kernel
theorem d_Md_areAlike_29 : decode prog_14_method_63_code 29 = .ok (.ishr, 1) := by decide +kernel
theorem d_Md_areAlike_30 : decode prog_14_method_63_code 30 = .ok (.iconst 1, 1) := by decide +kernel
theorem d_Md_areAlike_31 : decode prog_14_method_63_code 31 = .ok (.iand, 1) := by decide +kernel
theorem d_Md_areAlike_32 : decode prog_14_method_63_code 32 = .ok (.ifCond .ne 7, 3) := by decide +kernel
theorem d_Md_areAlike_35 : decode prog_14_method_63_code 35 = .ok (.iconst 1, 1) := by decide +kernel
theorem d_Md_areAlike_36 : decode prog_14_method_63_code 36 = .ok (.goto 4, 3) := by decide +kernel
theorem d_Md_areAlike_39 : decode prog_14_method_63_code 39 = .ok (.iconst 0, 1) := by decide +kernel
theorem d_Md_areAlike_40 : decode prog_14_method_63_code 40 = .ok (.istore 7, 2) := by decide +kernel
theorem d_Md_areAlike_42 : decode prog_14_method_63_code 42 = .ok (.iload 5, 2) := by decide +kernel
theorem d_Md_areAlike_44 : decode prog_14_method_63_code 44 = .ok (.ifCond .eq 38, 3) := by decide +kernel
theorem d_Md_areAlike_47 : decode prog_14_method_63_code 47 = .ok (.iload 7, 2) := by decide +kernel
theorem d_Md_areAlike_49 : decode prog_14_method_63_code 49 = .ok (.ifCond .eq 29, 3) := by decide +kernel
theorem d_Md_areAlike_52 : decode prog_14_method_63_code 52 = .ok (.lload_n 1, 1) := by decide +kernel
theorem d_Md_areAlike_53 : decode prog_14_method_63_code 53 = .ok (.iload 6, 2) := by decide +kernel
theorem d_Md_areAlike_55 : decode prog_14_method_63_code 55 = .ok (.invokestatic 357, 3) := by decide +kernel
theorem d_Md_areAlike_58 : decode prog_14_method_63_code 58 = .ok (.lload_n 1, 1) := by decide +kernel
theorem d_Md_areAlike_59 : decode prog_14_method_63_code 59 = .ok (.iload 6, 2) := by decide +kernel
theorem d_Md_areAlike_61 : decode prog_14_method_63_code 61 = .ok (.iconst 1, 1) := by decide +kernel
theorem d_Md_areAlike_62 : decode prog_14_method_63_code 62 = .ok (.iload_n 3, 1) := by decide +kernel
theorem d_Md_areAlike_63 : decode prog_14_method_63_code 63 = .ok (.ishl, 1) := by decide +kernel
theorem d_Md_areAlike_64 : decode prog_14_method_63_code 64 = .ok (.iconst (-1), 1) := by decide +kernel
theorem d_Md_areAlike_65 : decode prog_14_method_63_code 65 = .ok (.ixor, 1) := by decide +kernel
theorem d_Md_areAlike_66 : decode prog_14_method_63_code 66 = .ok (.iand, 1) := by decide +kernel
theorem d_Md_areAlike_67 : decode prog_14_method_63_code 67 = .ok (.iconst 1, 1) := by decide +kernel
theorem d_Md_areAlike_68 : decode prog_14_method_63_code 68 = .ok (.iload 4, 2) := by decide +kernel
theorem d_Md_areAlike_70 : decode prog_14_method_63_code 70 = .ok (.ishl, 1) := by decide +kernel
theorem d_Md_areAlike_71 : decode prog_14_method_63_code 71 = .ok (.ior, 1) := by decide +kernel
theorem d_Md_areAlike_72 : decode prog_14_method_63_code 72 = .ok (.invokestatic 357, 3) := by decide +kernel
theorem d_Md_areAlike_75 : decode prog_14_method_63_code 75 = .ok (.if_icmp .ne 7, 3) := by decide +kernel
theorem d_Md_areAlike_78 : decode prog_14_method_63_code 78 = .ok (.iconst 1, 1) := by decide +kernel
theorem d_Md_areAlike_79 : decode prog_14_method_63_code 79 = .ok (.goto 4, 3) := by decide +kernel
theorem d_Md_areAlike_82 : decode prog_14_method_63_code 82 = .ok (.iconst 0, 1) := by decide +kernel
theorem d_Md_areAlike_83 : decode prog_14_method_63_code 83 = .ok (.istore 5, 2) := by decide +kernel
theorem d_Md_areAlike_85 : decode prog_14_method_63_code 85 = .ok (.iinc 6 1, 3) := by decide +kernel
theorem d_Md_areAlike_88 : decode prog_14_method_63_code 88 = .ok (.goto (-82), 3) := by decide +kernel
theorem d_Md_areAlike_91 : decode prog_14_method_63_code 91 = .ok (.iload 5, 2) := by decide +kernel
theorem d_Md_areAlike_93 : decode prog_14_method_63_code 93 = .ok (.ireturn, 1) := by decide +kernel
abbrev S_Md_areAlike : Type := Nat × Nat × Int64 × Int32 × Int32 × Int32 × Int32 × Int32 × AM
noncomputable def T_Md_areAlike_0 (v0R : Nat) (v1J : Int64) (v3I : Int32) (v4I : Int32) (σ : AM) : S_Md_areAlike ⊕ Option (Int32 × AM) :=
  .inl (1, v0R, v1J, v3I, v4I, (1 : Int32), (0 : Int32), 0, σ)
noncomputable def T_Md_areAlike_1 (v0R : Nat) (v1J : Int64) (v3I : Int32) (v4I : Int32) (v5I : Int32) (v6I : Int32) (σ : AM) : S_Md_areAlike ⊕ Option (Int32 × AM) :=
  gdT (okO σ v0R 12) <| bndT (M_Md_sets v0R σ) fun r1 σ2 => if v6I < r1 then (if ((v6I >>> (v3I &&& 31)) &&& (1 : Int32)) = (1 : Int32) then (if ((v6I >>> (v4I &&& 31)) &&& (1 : Int32)) = 0 then (.inl (3, v0R, v1J, v3I, v4I, v5I, v6I, (1 : Int32), σ2)) else (.inl (2, v0R, v1J, v3I, v4I, v5I, v6I, 0, σ2))) else (.inl (2, v0R, v1J, v3I, v4I, v5I, v6I, 0, σ2))) else (gdT (isB v5I) <| .inr (some (v5I, σ2)))
noncomputable def T_Md_areAlike_2 (v0R : Nat) (v1J : Int64) (v3I : Int32) (v4I : Int32) (v5I : Int32) (v6I : Int32) (σ : AM) : S_Md_areAlike ⊕ Option (Int32 × AM) :=
  .inl (3, v0R, v1J, v3I, v4I, v5I, v6I, (0 : Int32), σ)
noncomputable def T_Md_areAlike_3 (v0R : Nat) (v1J : Int64) (v3I : Int32) (v4I : Int32) (v5I : Int32) (v6I : Int32) (s0I : Int32) (σ : AM) : S_Md_areAlike ⊕ Option (Int32 × AM) :=
  if v5I = 0 then (.inl (5, v0R, v1J, v3I, v4I, 0, v6I, 0, σ)) else (if s0I = 0 then (.inl (4, v0R, v1J, v3I, v4I, 0, v6I, 0, σ)) else (bndT (M_Md_doesRing v1J v6I σ) fun r1 σ2 => bndT (M_Md_doesRing v1J ((v6I &&& (((1 : Int32) <<< (v3I &&& 31)) ^^^ ((-1) : Int32))) ||| ((1 : Int32) <<< (v4I &&& 31))) σ2) fun r3 σ4 => if r1 = r3 then (.inl (4, v0R, v1J, v3I, v4I, 0, v6I, 0, σ4)) else (.inl (5, v0R, v1J, v3I, v4I, 0, v6I, 0, σ4))))
noncomputable def T_Md_areAlike_4 (v0R : Nat) (v1J : Int64) (v3I : Int32) (v4I : Int32) (v6I : Int32) (σ : AM) : S_Md_areAlike ⊕ Option (Int32 × AM) :=
  .inl (6, v0R, v1J, v3I, v4I, 0, v6I, (1 : Int32), σ)
noncomputable def T_Md_areAlike_5 (v0R : Nat) (v1J : Int64) (v3I : Int32) (v4I : Int32) (v6I : Int32) (σ : AM) : S_Md_areAlike ⊕ Option (Int32 × AM) :=
  .inl (6, v0R, v1J, v3I, v4I, 0, v6I, (0 : Int32), σ)
noncomputable def T_Md_areAlike_6 (v0R : Nat) (v1J : Int64) (v3I : Int32) (v4I : Int32) (v6I : Int32) (s0I : Int32) (σ : AM) : S_Md_areAlike ⊕ Option (Int32 × AM) :=
  .inl (1, v0R, v1J, v3I, v4I, s0I, v6I + (1 : Int32), 0, σ)
noncomputable def F_Md_areAlike : S_Md_areAlike → S_Md_areAlike ⊕ Option (Int32 × AM) := fun s => match s.1 with
  | 0 => T_Md_areAlike_0 (s.2.1) (s.2.2.1) (s.2.2.2.1) (s.2.2.2.2.1) (s.2.2.2.2.2.2.2.2)
  | 1 => T_Md_areAlike_1 (s.2.1) (s.2.2.1) (s.2.2.2.1) (s.2.2.2.2.1) (s.2.2.2.2.2.1) (s.2.2.2.2.2.2.1) (s.2.2.2.2.2.2.2.2)
  | 2 => T_Md_areAlike_2 (s.2.1) (s.2.2.1) (s.2.2.2.1) (s.2.2.2.2.1) (s.2.2.2.2.2.1) (s.2.2.2.2.2.2.1) (s.2.2.2.2.2.2.2.2)
  | 3 => T_Md_areAlike_3 (s.2.1) (s.2.2.1) (s.2.2.2.1) (s.2.2.2.2.1) (s.2.2.2.2.2.1) (s.2.2.2.2.2.2.1) (s.2.2.2.2.2.2.2.1) (s.2.2.2.2.2.2.2.2)
  | 4 => T_Md_areAlike_4 (s.2.1) (s.2.2.1) (s.2.2.2.1) (s.2.2.2.2.1) (s.2.2.2.2.2.2.1) (s.2.2.2.2.2.2.2.2)
  | 5 => T_Md_areAlike_5 (s.2.1) (s.2.2.1) (s.2.2.2.1) (s.2.2.2.2.1) (s.2.2.2.2.2.2.1) (s.2.2.2.2.2.2.2.2)
  | _ => T_Md_areAlike_6 (s.2.1) (s.2.2.1) (s.2.2.2.1) (s.2.2.2.2.1) (s.2.2.2.2.2.2.1) (s.2.2.2.2.2.2.2.1) (s.2.2.2.2.2.2.2.2)
noncomputable def L_Md_areAlike_0 (v0R : Nat) (v1J : Int64) (v3I : Int32) (v4I : Int32) (σ : AM) : Option (Int32 × AM) := lp F_Md_areAlike (0, v0R, v1J, v3I, v4I, 0, 0, 0, σ)
noncomputable def L_Md_areAlike_1 (v0R : Nat) (v1J : Int64) (v3I : Int32) (v4I : Int32) (v5I : Int32) (v6I : Int32) (σ : AM) : Option (Int32 × AM) := lp F_Md_areAlike (1, v0R, v1J, v3I, v4I, v5I, v6I, 0, σ)
noncomputable def L_Md_areAlike_2 (v0R : Nat) (v1J : Int64) (v3I : Int32) (v4I : Int32) (v5I : Int32) (v6I : Int32) (σ : AM) : Option (Int32 × AM) := lp F_Md_areAlike (2, v0R, v1J, v3I, v4I, v5I, v6I, 0, σ)
noncomputable def L_Md_areAlike_3 (v0R : Nat) (v1J : Int64) (v3I : Int32) (v4I : Int32) (v5I : Int32) (v6I : Int32) (s0I : Int32) (σ : AM) : Option (Int32 × AM) := lp F_Md_areAlike (3, v0R, v1J, v3I, v4I, v5I, v6I, s0I, σ)
noncomputable def L_Md_areAlike_4 (v0R : Nat) (v1J : Int64) (v3I : Int32) (v4I : Int32) (v6I : Int32) (σ : AM) : Option (Int32 × AM) := lp F_Md_areAlike (4, v0R, v1J, v3I, v4I, 0, v6I, 0, σ)
noncomputable def L_Md_areAlike_5 (v0R : Nat) (v1J : Int64) (v3I : Int32) (v4I : Int32) (v6I : Int32) (σ : AM) : Option (Int32 × AM) := lp F_Md_areAlike (5, v0R, v1J, v3I, v4I, 0, v6I, 0, σ)
noncomputable def L_Md_areAlike_6 (v0R : Nat) (v1J : Int64) (v3I : Int32) (v4I : Int32) (v6I : Int32) (s0I : Int32) (σ : AM) : Option (Int32 × AM) := lp F_Md_areAlike (6, v0R, v1J, v3I, v4I, 0, v6I, s0I, σ)
set_option maxRecDepth 20000 in
theorem E_Md_areAlike_0 (v0R : Nat) (v1J : Int64) (v3I : Int32) (v4I : Int32) (σ : AM) : L_Md_areAlike_0 v0R v1J v3I v4I σ = (L_Md_areAlike_1 v0R v1J v3I v4I ((1 : Int32)) ((0 : Int32)) σ) := by
  unfold L_Md_areAlike_0
  rw [lp_eq]
  show lpK (lp F_Md_areAlike) (T_Md_areAlike_0 v0R v1J v3I v4I σ) = _
  unfold T_Md_areAlike_0
  simp only [lpK_ite, lq_inl, lq_inr, lpK_bnd, lpK_gd, lq_let]
  try rfl
set_option maxRecDepth 20000 in
theorem E_Md_areAlike_1 (v0R : Nat) (v1J : Int64) (v3I : Int32) (v4I : Int32) (v5I : Int32) (v6I : Int32) (σ : AM) : L_Md_areAlike_1 v0R v1J v3I v4I v5I v6I σ = (gd (okO σ v0R 12) <| bnd (M_Md_sets v0R σ) fun r1 σ2 => if v6I < r1 then (if ((v6I >>> (v3I &&& 31)) &&& (1 : Int32)) = (1 : Int32) then (if ((v6I >>> (v4I &&& 31)) &&& (1 : Int32)) = 0 then (L_Md_areAlike_3 v0R v1J v3I v4I v5I v6I ((1 : Int32)) σ2) else (L_Md_areAlike_2 v0R v1J v3I v4I v5I v6I σ2)) else (L_Md_areAlike_2 v0R v1J v3I v4I v5I v6I σ2)) else (gd (isB v5I) <| (some (v5I, σ2)))) := by
  unfold L_Md_areAlike_1
  rw [lp_eq]
  show lpK (lp F_Md_areAlike) (T_Md_areAlike_1 v0R v1J v3I v4I v5I v6I σ) = _
  unfold T_Md_areAlike_1
  simp only [lpK_ite, lq_inl, lq_inr, lpK_bnd, lpK_gd, lq_let]
  try rfl
set_option maxRecDepth 20000 in
theorem E_Md_areAlike_2 (v0R : Nat) (v1J : Int64) (v3I : Int32) (v4I : Int32) (v5I : Int32) (v6I : Int32) (σ : AM) : L_Md_areAlike_2 v0R v1J v3I v4I v5I v6I σ = (L_Md_areAlike_3 v0R v1J v3I v4I v5I v6I ((0 : Int32)) σ) := by
  unfold L_Md_areAlike_2
  rw [lp_eq]
  show lpK (lp F_Md_areAlike) (T_Md_areAlike_2 v0R v1J v3I v4I v5I v6I σ) = _
  unfold T_Md_areAlike_2
  simp only [lpK_ite, lq_inl, lq_inr, lpK_bnd, lpK_gd, lq_let]
  try rfl
set_option maxRecDepth 20000 in
theorem E_Md_areAlike_3 (v0R : Nat) (v1J : Int64) (v3I : Int32) (v4I : Int32) (v5I : Int32) (v6I : Int32) (s0I : Int32) (σ : AM) : L_Md_areAlike_3 v0R v1J v3I v4I v5I v6I s0I σ = (if v5I = 0 then (L_Md_areAlike_5 v0R v1J v3I v4I v6I σ) else (if s0I = 0 then (L_Md_areAlike_4 v0R v1J v3I v4I v6I σ) else (bnd (M_Md_doesRing v1J v6I σ) fun r1 σ2 => bnd (M_Md_doesRing v1J ((v6I &&& (((1 : Int32) <<< (v3I &&& 31)) ^^^ ((-1) : Int32))) ||| ((1 : Int32) <<< (v4I &&& 31))) σ2) fun r3 σ4 => if r1 = r3 then (L_Md_areAlike_4 v0R v1J v3I v4I v6I σ4) else (L_Md_areAlike_5 v0R v1J v3I v4I v6I σ4)))) := by
  unfold L_Md_areAlike_3
  rw [lp_eq]
  show lpK (lp F_Md_areAlike) (T_Md_areAlike_3 v0R v1J v3I v4I v5I v6I s0I σ) = _
  unfold T_Md_areAlike_3
  simp only [lpK_ite, lq_inl, lq_inr, lpK_bnd, lpK_gd, lq_let]
  try rfl
set_option maxRecDepth 20000 in
theorem E_Md_areAlike_4 (v0R : Nat) (v1J : Int64) (v3I : Int32) (v4I : Int32) (v6I : Int32) (σ : AM) : L_Md_areAlike_4 v0R v1J v3I v4I v6I σ = (L_Md_areAlike_6 v0R v1J v3I v4I v6I ((1 : Int32)) σ) := by
  unfold L_Md_areAlike_4
  rw [lp_eq]
  show lpK (lp F_Md_areAlike) (T_Md_areAlike_4 v0R v1J v3I v4I v6I σ) = _
  unfold T_Md_areAlike_4
  simp only [lpK_ite, lq_inl, lq_inr, lpK_bnd, lpK_gd, lq_let]
  try rfl
set_option maxRecDepth 20000 in
theorem E_Md_areAlike_5 (v0R : Nat) (v1J : Int64) (v3I : Int32) (v4I : Int32) (v6I : Int32) (σ : AM) : L_Md_areAlike_5 v0R v1J v3I v4I v6I σ = (L_Md_areAlike_6 v0R v1J v3I v4I v6I ((0 : Int32)) σ) := by
  unfold L_Md_areAlike_5
  rw [lp_eq]
  show lpK (lp F_Md_areAlike) (T_Md_areAlike_5 v0R v1J v3I v4I v6I σ) = _
  unfold T_Md_areAlike_5
  simp only [lpK_ite, lq_inl, lq_inr, lpK_bnd, lpK_gd, lq_let]
  try rfl
set_option maxRecDepth 20000 in
theorem E_Md_areAlike_6 (v0R : Nat) (v1J : Int64) (v3I : Int32) (v4I : Int32) (v6I : Int32) (s0I : Int32) (σ : AM) : L_Md_areAlike_6 v0R v1J v3I v4I v6I s0I σ = (L_Md_areAlike_1 v0R v1J v3I v4I s0I (v6I + (1 : Int32)) σ) := by
  unfold L_Md_areAlike_6
  rw [lp_eq]
  show lpK (lp F_Md_areAlike) (T_Md_areAlike_6 v0R v1J v3I v4I v6I s0I σ) = _
  unfold T_Md_areAlike_6
  simp only [lpK_ite, lq_inl, lq_inr, lpK_bnd, lpK_gd, lq_let]
  try rfl
noncomputable def M_Md_areAlike (v0R : Nat) (v1J : Int64) (v3I : Int32) (v4I : Int32) (σ : AM) : Option (Int32 × AM) := mw σ (L_Md_areAlike_0 v0R v1J v3I v4I σ)
def I_Md_areAlike (G : GX) (p : Program) (l : Launch) (e : Env) (s : State) (m : MethodId) (args : Array Value) (below : List Frame) (meth : Method) (c : Code) (z0 u0 n : Nat) : Prop :=
  (∀ (v0R : Nat) (v1J : Int64) (v3I : Int32) (v4I : Int32) (σ : AM), VX (QM eI G args s below z0 u0) G p l e s m args below meth c 1 z0 u0 8 (lpn F_Md_areAlike n (0, v0R, v1J, v3I, v4I, 0, 0, 0, σ)) 0 [(0, .ref v0R), (1, .long v1J), (3, .int v3I), (4, .int v4I)] [] σ) ∧
  (∀ (v0R : Nat) (v1J : Int64) (v3I : Int32) (v4I : Int32) (v5I : Int32) (v6I : Int32) (σ : AM), VX (QM eI G args s below z0 u0) G p l e s m args below meth c 1 z0 u0 8 (lpn F_Md_areAlike n (1, v0R, v1J, v3I, v4I, v5I, v6I, 0, σ)) 6 [(0, .ref v0R), (1, .long v1J), (3, .int v3I), (4, .int v4I), (5, .int v5I), (6, .int v6I)] [] σ) ∧
  (∀ (v0R : Nat) (v1J : Int64) (v3I : Int32) (v4I : Int32) (v5I : Int32) (v6I : Int32) (σ : AM), VX (QM eI G args s below z0 u0) G p l e s m args below meth c 1 z0 u0 8 (lpn F_Md_areAlike n (2, v0R, v1J, v3I, v4I, v5I, v6I, 0, σ)) 39 [(0, .ref v0R), (1, .long v1J), (3, .int v3I), (4, .int v4I), (5, .int v5I), (6, .int v6I)] [] σ) ∧
  (∀ (v0R : Nat) (v1J : Int64) (v3I : Int32) (v4I : Int32) (v5I : Int32) (v6I : Int32) (s0I : Int32) (σ : AM), VX (QM eI G args s below z0 u0) G p l e s m args below meth c 1 z0 u0 8 (lpn F_Md_areAlike n (3, v0R, v1J, v3I, v4I, v5I, v6I, s0I, σ)) 40 [(0, .ref v0R), (1, .long v1J), (3, .int v3I), (4, .int v4I), (5, .int v5I), (6, .int v6I)] [.int s0I] σ) ∧
  (∀ (v0R : Nat) (v1J : Int64) (v3I : Int32) (v4I : Int32) (v6I : Int32) (σ : AM), VX (QM eI G args s below z0 u0) G p l e s m args below meth c 1 z0 u0 8 (lpn F_Md_areAlike n (4, v0R, v1J, v3I, v4I, 0, v6I, 0, σ)) 78 [(0, .ref v0R), (1, .long v1J), (3, .int v3I), (4, .int v4I), (6, .int v6I)] [] σ) ∧
  (∀ (v0R : Nat) (v1J : Int64) (v3I : Int32) (v4I : Int32) (v6I : Int32) (σ : AM), VX (QM eI G args s below z0 u0) G p l e s m args below meth c 1 z0 u0 8 (lpn F_Md_areAlike n (5, v0R, v1J, v3I, v4I, 0, v6I, 0, σ)) 82 [(0, .ref v0R), (1, .long v1J), (3, .int v3I), (4, .int v4I), (6, .int v6I)] [] σ) ∧
  (∀ (v0R : Nat) (v1J : Int64) (v3I : Int32) (v4I : Int32) (v6I : Int32) (s0I : Int32) (σ : AM), VX (QM eI G args s below z0 u0) G p l e s m args below meth c 1 z0 u0 8 (lpn F_Md_areAlike n (6, v0R, v1J, v3I, v4I, 0, v6I, s0I, σ)) 83 [(0, .ref v0R), (1, .long v1J), (3, .int v3I), (4, .int v4I), (6, .int v6I)] [.int s0I] σ)
set_option maxRecDepth 20000 in
theorem s_Md_areAlike_0 {G : GX} {p : Program} {l : Launch} {e : Env} {s : State} {m : MethodId} {args : Array Value} {below : List Frame} {meth : Method} {c : Code} {z0 u0 n : Nat} (C : Cx G p s m args meth c prog_14_method_63_code 8 "BellPlateModel" ((some FieldType.boolean))) (IH : I_Md_areAlike G p l e s m args below meth c z0 u0 n) (v0R : Nat) (v1J : Int64) (v3I : Int32) (v4I : Int32) (σ : AM) : VX (QM eI G args s below z0 u0) G p l e s m args below meth c 1 z0 u0 8 (lpK (lpn F_Md_areAlike n) (T_Md_areAlike_0 v0R v1J v3I v4I σ)) 0 [(0, .ref v0R), (1, .long v1J), (3, .int v3I), (4, .int v4I)] [] σ := by
  unfold T_Md_areAlike_0
  refine x_iconst (v := (1 : Int32)) C d_Md_areAlike_0 (by decide) ?_
  refine x_istore (lv' := [(5, .int (1 : Int32)), (0, .ref v0R), (1, .long v1J), (3, .int v3I), (4, .int v4I)]) C d_Md_areAlike_1 (by decide) rfl ?_
  refine x_iconst (v := (0 : Int32)) C d_Md_areAlike_3 (by decide) ?_
  refine x_istore (lv' := [(6, .int (0 : Int32)), (5, .int (1 : Int32)), (0, .ref v0R), (1, .long v1J), (3, .int v3I), (4, .int v4I)]) C d_Md_areAlike_4 (by decide) rfl ?_
  refine x_lv [2, 3, 4, 5, 1, 0] rfl ?_
  exact IH.2.1 v0R v1J v3I v4I ((1 : Int32)) ((0 : Int32)) (σ)
set_option maxRecDepth 20000 in
theorem s_Md_areAlike_1 {G : GX} {p : Program} {l : Launch} {e : Env} {s : State} {m : MethodId} {args : Array Value} {below : List Frame} {meth : Method} {c : Code} {z0 u0 n : Nat} (C : Cx G p s m args meth c prog_14_method_63_code 8 "BellPlateModel" ((some FieldType.boolean))) (IH : I_Md_areAlike G p l e s m args below meth c z0 u0 n) (v0R : Nat) (v1J : Int64) (v3I : Int32) (v4I : Int32) (v5I : Int32) (v6I : Int32) (σ : AM) : VX (QM eI G args s below z0 u0) G p l e s m args below meth c 1 z0 u0 8 (lpK (lpn F_Md_areAlike n) (T_Md_areAlike_1 v0R v1J v3I v4I v5I v6I σ)) 6 [(0, .ref v0R), (1, .long v1J), (3, .int v3I), (4, .int v4I), (5, .int v5I), (6, .int v6I)] [] σ := by
  unfold T_Md_areAlike_1
  refine x_iload C d_Md_areAlike_6 5 rfl ?_
  refine x_aload_n C d_Md_areAlike_8 0 rfl ?_
  refine x_gd (fun h3 => ?_)
  refine x_callVI (As := []) C (c_Md_sets G l v0R  σ) (okO_iff.mp h3) rfl w1826 w58 w1824 w1827 w134 k_Md_sets rfl (by decide) (by decide) rfl (Nat.le_of_ble_eq_true rfl) d_Md_areAlike_9 (fun r1 σ2 => ?_)
  refine x_icmp_ge (tgt := 91) C d_Md_areAlike_12 (by decide) (fun _ => ?_) (fun _ => ?_)
  · refine x_iload C d_Md_areAlike_15 5 rfl ?_
    refine x_iload_n C d_Md_areAlike_17 2 rfl ?_
    refine x_ishr C d_Md_areAlike_18 ?_
    refine x_iconst (v := (1 : Int32)) C d_Md_areAlike_19 (by decide) ?_
    refine x_iand C d_Md_areAlike_20 ?_
    refine x_iconst (v := (1 : Int32)) C d_Md_areAlike_21 (by decide) ?_
    refine x_icmp_ne (tgt := 39) C d_Md_areAlike_22 (by decide) (fun _ => ?_) (fun _ => ?_)
    · refine x_iload C d_Md_areAlike_25 5 rfl ?_
      refine x_iload C d_Md_areAlike_27 3 rfl ?_
      refine x_ishr C d_Md_areAlike_29 ?_
      refine x_iconst (v := (1 : Int32)) C d_Md_areAlike_30 (by decide) ?_
      refine x_iand C d_Md_areAlike_31 ?_
      refine x_if_ne (tgt := 39) C d_Md_areAlike_32 (by decide) (fun _ => ?_) (fun _ => ?_)
      · refine x_iconst (v := (1 : Int32)) C d_Md_areAlike_35 (by decide) ?_
        refine x_goto (tgt := 40) C d_Md_areAlike_36 (by decide) ?_
        exact IH.2.2.2.1 v0R v1J v3I v4I v5I v6I ((1 : Int32)) (σ2)
      · exact IH.2.2.1 v0R v1J v3I v4I v5I v6I (σ2)
    · exact IH.2.2.1 v0R v1J v3I v4I v5I v6I (σ2)
  · refine x_iload C d_Md_areAlike_91 4 rfl ?_
    refine x_gd (fun h4 => ?_)
    exact x_zret C (isB_narrow h4) d_Md_areAlike_93
set_option maxRecDepth 20000 in
theorem s_Md_areAlike_2 {G : GX} {p : Program} {l : Launch} {e : Env} {s : State} {m : MethodId} {args : Array Value} {below : List Frame} {meth : Method} {c : Code} {z0 u0 n : Nat} (C : Cx G p s m args meth c prog_14_method_63_code 8 "BellPlateModel" ((some FieldType.boolean))) (IH : I_Md_areAlike G p l e s m args below meth c z0 u0 n) (v0R : Nat) (v1J : Int64) (v3I : Int32) (v4I : Int32) (v5I : Int32) (v6I : Int32) (σ : AM) : VX (QM eI G args s below z0 u0) G p l e s m args below meth c 1 z0 u0 8 (lpK (lpn F_Md_areAlike n) (T_Md_areAlike_2 v0R v1J v3I v4I v5I v6I σ)) 39 [(0, .ref v0R), (1, .long v1J), (3, .int v3I), (4, .int v4I), (5, .int v5I), (6, .int v6I)] [] σ := by
  unfold T_Md_areAlike_2
  refine x_iconst (v := (0 : Int32)) C d_Md_areAlike_39 (by decide) ?_
  exact IH.2.2.2.1 v0R v1J v3I v4I v5I v6I ((0 : Int32)) (σ)
set_option maxRecDepth 20000 in
theorem s_Md_areAlike_3 {G : GX} {p : Program} {l : Launch} {e : Env} {s : State} {m : MethodId} {args : Array Value} {below : List Frame} {meth : Method} {c : Code} {z0 u0 n : Nat} (C : Cx G p s m args meth c prog_14_method_63_code 8 "BellPlateModel" ((some FieldType.boolean))) (IH : I_Md_areAlike G p l e s m args below meth c z0 u0 n) (v0R : Nat) (v1J : Int64) (v3I : Int32) (v4I : Int32) (v5I : Int32) (v6I : Int32) (s0I : Int32) (σ : AM) : VX (QM eI G args s below z0 u0) G p l e s m args below meth c 1 z0 u0 8 (lpK (lpn F_Md_areAlike n) (T_Md_areAlike_3 v0R v1J v3I v4I v5I v6I s0I σ)) 40 [(0, .ref v0R), (1, .long v1J), (3, .int v3I), (4, .int v4I), (5, .int v5I), (6, .int v6I)] [.int s0I] σ := by
  unfold T_Md_areAlike_3
  refine x_istore (lv' := [(7, .int s0I), (0, .ref v0R), (1, .long v1J), (3, .int v3I), (4, .int v4I), (5, .int v5I), (6, .int v6I)]) C d_Md_areAlike_40 (by decide) rfl ?_
  refine x_iload C d_Md_areAlike_42 5 rfl ?_
  refine x_if_eq (tgt := 82) C d_Md_areAlike_44 (by decide) (fun _ => ?_) (fun _ => ?_)
  · refine x_lv [1, 2, 3, 4, 6] rfl ?_
    exact IH.2.2.2.2.2.1 v0R v1J v3I v4I v6I (σ)
  · refine x_iload C d_Md_areAlike_47 0 rfl ?_
    refine x_if_eq (tgt := 78) C d_Md_areAlike_49 (by decide) (fun _ => ?_) (fun _ => ?_)
    · refine x_lv [1, 2, 3, 4, 6] rfl ?_
      exact IH.2.2.2.2.1 v0R v1J v3I v4I v6I (σ)
    · refine x_lload_n C d_Md_areAlike_52 2 rfl ?_
      refine x_iload C d_Md_areAlike_53 6 rfl ?_
      refine x_callSI (As := [.long v1J, .int v6I]) C (c_Md_doesRing G l v1J v6I σ) w2235 w2234 w2236 w134 k_Md_doesRing rfl (by decide) (by decide) rfl (Nat.le_of_ble_eq_true rfl) d_Md_areAlike_55 (fun r1 σ2 => ?_)
      refine x_lload_n C d_Md_areAlike_58 2 rfl ?_
      refine x_iload C d_Md_areAlike_59 6 rfl ?_
      refine x_iconst (v := (1 : Int32)) C d_Md_areAlike_61 (by decide) ?_
      refine x_iload_n C d_Md_areAlike_62 3 rfl ?_
      refine x_ishl C d_Md_areAlike_63 ?_
      refine x_iconst (v := ((-1) : Int32)) C d_Md_areAlike_64 (by decide) ?_
      refine x_ixor C d_Md_areAlike_65 ?_
      refine x_iand C d_Md_areAlike_66 ?_
      refine x_iconst (v := (1 : Int32)) C d_Md_areAlike_67 (by decide) ?_
      refine x_iload C d_Md_areAlike_68 4 rfl ?_
      refine x_ishl C d_Md_areAlike_70 ?_
      refine x_ior C d_Md_areAlike_71 ?_
      refine x_callSI (As := [.long v1J, .int ((v6I &&& (((1 : Int32) <<< (v3I &&& 31)) ^^^ ((-1) : Int32))) ||| ((1 : Int32) <<< (v4I &&& 31)))]) C (c_Md_doesRing G l v1J ((v6I &&& (((1 : Int32) <<< (v3I &&& 31)) ^^^ ((-1) : Int32))) ||| ((1 : Int32) <<< (v4I &&& 31))) σ2) w2235 w2234 w2236 w134 k_Md_doesRing rfl (by decide) (by decide) rfl (Nat.le_of_ble_eq_true rfl) d_Md_areAlike_72 (fun r3 σ4 => ?_)
      refine x_icmp_ne (tgt := 82) C d_Md_areAlike_75 (by decide) (fun _ => ?_) (fun _ => ?_)
      · refine x_lv [1, 2, 3, 4, 6] rfl ?_
        exact IH.2.2.2.2.1 v0R v1J v3I v4I v6I (σ4)
      · refine x_lv [1, 2, 3, 4, 6] rfl ?_
        exact IH.2.2.2.2.2.1 v0R v1J v3I v4I v6I (σ4)
set_option maxRecDepth 20000 in
theorem s_Md_areAlike_4 {G : GX} {p : Program} {l : Launch} {e : Env} {s : State} {m : MethodId} {args : Array Value} {below : List Frame} {meth : Method} {c : Code} {z0 u0 n : Nat} (C : Cx G p s m args meth c prog_14_method_63_code 8 "BellPlateModel" ((some FieldType.boolean))) (IH : I_Md_areAlike G p l e s m args below meth c z0 u0 n) (v0R : Nat) (v1J : Int64) (v3I : Int32) (v4I : Int32) (v6I : Int32) (σ : AM) : VX (QM eI G args s below z0 u0) G p l e s m args below meth c 1 z0 u0 8 (lpK (lpn F_Md_areAlike n) (T_Md_areAlike_4 v0R v1J v3I v4I v6I σ)) 78 [(0, .ref v0R), (1, .long v1J), (3, .int v3I), (4, .int v4I), (6, .int v6I)] [] σ := by
  unfold T_Md_areAlike_4
  refine x_iconst (v := (1 : Int32)) C d_Md_areAlike_78 (by decide) ?_
  refine x_goto (tgt := 83) C d_Md_areAlike_79 (by decide) ?_
  exact IH.2.2.2.2.2.2 v0R v1J v3I v4I v6I ((1 : Int32)) (σ)
set_option maxRecDepth 20000 in
theorem s_Md_areAlike_5 {G : GX} {p : Program} {l : Launch} {e : Env} {s : State} {m : MethodId} {args : Array Value} {below : List Frame} {meth : Method} {c : Code} {z0 u0 n : Nat} (C : Cx G p s m args meth c prog_14_method_63_code 8 "BellPlateModel" ((some FieldType.boolean))) (IH : I_Md_areAlike G p l e s m args below meth c z0 u0 n) (v0R : Nat) (v1J : Int64) (v3I : Int32) (v4I : Int32) (v6I : Int32) (σ : AM) : VX (QM eI G args s below z0 u0) G p l e s m args below meth c 1 z0 u0 8 (lpK (lpn F_Md_areAlike n) (T_Md_areAlike_5 v0R v1J v3I v4I v6I σ)) 82 [(0, .ref v0R), (1, .long v1J), (3, .int v3I), (4, .int v4I), (6, .int v6I)] [] σ := by
  unfold T_Md_areAlike_5
  refine x_iconst (v := (0 : Int32)) C d_Md_areAlike_82 (by decide) ?_
  exact IH.2.2.2.2.2.2 v0R v1J v3I v4I v6I ((0 : Int32)) (σ)
set_option maxRecDepth 20000 in
theorem s_Md_areAlike_6 {G : GX} {p : Program} {l : Launch} {e : Env} {s : State} {m : MethodId} {args : Array Value} {below : List Frame} {meth : Method} {c : Code} {z0 u0 n : Nat} (C : Cx G p s m args meth c prog_14_method_63_code 8 "BellPlateModel" ((some FieldType.boolean))) (IH : I_Md_areAlike G p l e s m args below meth c z0 u0 n) (v0R : Nat) (v1J : Int64) (v3I : Int32) (v4I : Int32) (v6I : Int32) (s0I : Int32) (σ : AM) : VX (QM eI G args s below z0 u0) G p l e s m args below meth c 1 z0 u0 8 (lpK (lpn F_Md_areAlike n) (T_Md_areAlike_6 v0R v1J v3I v4I v6I s0I σ)) 83 [(0, .ref v0R), (1, .long v1J), (3, .int v3I), (4, .int v4I), (6, .int v6I)] [.int s0I] σ := by
  unfold T_Md_areAlike_6
  refine x_istore (lv' := [(5, .int s0I), (0, .ref v0R), (1, .long v1J), (3, .int v3I), (4, .int v4I), (6, .int v6I)]) C d_Md_areAlike_83 (by decide) rfl ?_
  refine x_iinc (v := v6I + (1 : Int32)) (lv' := [(6, .int (v6I + (1 : Int32))), (5, .int s0I), (0, .ref v0R), (1, .long v1J), (3, .int v3I), (4, .int v4I)]) C d_Md_areAlike_85 5 rfl rfl (by decide) rfl ?_
  refine x_goto (tgt := 6) C d_Md_areAlike_88 (by decide) ?_
  refine x_lv [2, 3, 4, 5, 1, 0] rfl ?_
  exact IH.2.1 v0R v1J v3I v4I s0I (v6I + (1 : Int32)) (σ)
theorem i_Md_areAlike {G : GX} {p : Program} {l : Launch} {e : Env} {s : State} {m : MethodId} {args : Array Value} {below : List Frame} {meth : Method} {c : Code} {z0 u0 : Nat} (C : Cx G p s m args meth c prog_14_method_63_code 8 "BellPlateModel" ((some FieldType.boolean))) (n : Nat) : I_Md_areAlike G p l e s m args below meth c z0 u0 n := by
  induction n with
  | zero => exact ⟨fun _ _ _ _ _ => x_none, fun _ _ _ _ _ _ _ => x_none, fun _ _ _ _ _ _ _ => x_none, fun _ _ _ _ _ _ _ _ => x_none, fun _ _ _ _ _ _ => x_none, fun _ _ _ _ _ _ => x_none, fun _ _ _ _ _ _ _ => x_none⟩
  | succ n IH => exact ⟨fun v0R v1J v3I v4I σ => s_Md_areAlike_0 C IH v0R v1J v3I v4I σ, fun v0R v1J v3I v4I v5I v6I σ => s_Md_areAlike_1 C IH v0R v1J v3I v4I v5I v6I σ, fun v0R v1J v3I v4I v5I v6I σ => s_Md_areAlike_2 C IH v0R v1J v3I v4I v5I v6I σ, fun v0R v1J v3I v4I v5I v6I s0I σ => s_Md_areAlike_3 C IH v0R v1J v3I v4I v5I v6I s0I σ, fun v0R v1J v3I v4I v6I σ => s_Md_areAlike_4 C IH v0R v1J v3I v4I v6I σ, fun v0R v1J v3I v4I v6I σ => s_Md_areAlike_5 C IH v0R v1J v3I v4I v6I σ, fun v0R v1J v3I v4I v6I s0I σ => s_Md_areAlike_6 C IH v0R v1J v3I v4I v6I s0I σ⟩
theorem c_Md_areAlike (G : GX) (l : Launch) (v0R : Nat) (v1J : Int64) (v3I : Int32) (v4I : Int32) (σ : AM) : CT eI G l 1 y_Md_areAlike prog_14_method_63_code 8 ((some FieldType.boolean)) [.ref v0R, .long v1J, .int v3I, .int v4I] σ (M_Md_areAlike v0R v1J v3I v4I σ) := by
  refine ct_of (by decide +kernel) (Nat.le_of_ble_eq_true rfl) (fun p e s m args below meth c C hin => ?_)
  refine x_lve (lv' := [(0, .ref v0R), (1, .long v1J), (3, .int v3I), (4, .int v4I)]) rfl ?_
  intro r σ' h
  obtain ⟨n, hn⟩ := (lp_iff _ _ _).mp h
  exact (i_Md_areAlike C n).1 v0R v1J v3I v4I σ r σ' hn
/-! BellPlateModel.alike(II)I -/
abbrev y_Md_alike : MethodName := ⟨"BellPlateModel", "alike", "(II)I"⟩
theorem k_Md_alike : y_Md_alike.cls ≠ "java/lang/invoke/MethodHandle" ∧ y_Md_alike.cls ≠ "java/lang/invoke/VarHandle" ∧ (parseMethodDescriptor y_Md_alike.desc).map (fun d => d.parameters.length) = some 2 := by decide +kernel
theorem d_Md_alike_0 : decode prog_14_method_64_code 0 = .ok (.aload_n 0, 1) := by decide +kernel
theorem d_Md_alike_1 : decode prog_14_method_64_code 1 = .ok (.iconst 0, 1) := by decide +kernel
theorem d_Md_alike_2 : decode prog_14_method_64_code 2 = .ok (.putfield 1, 3) := by decide +kernel
theorem d_Md_alike_5 : decode prog_14_method_64_code 5 = .ok (.aload_n 0, 1) := by decide +kernel
theorem d_Md_alike_6 : decode prog_14_method_64_code 6 = .ok (.iload_n 1, 1) := by decide +kernel
theorem d_Md_alike_7 : decode prog_14_method_64_code 7 = .ok (.invokevirtual 393, 3) := by decide +kernel
theorem d_Md_alike_10 : decode prog_14_method_64_code 10 = .ok (.ifCond .eq 16, 3) := by decide +kernel
theorem d_Md_alike_13 : decode prog_14_method_64_code 13 = .ok (.aload_n 0, 1) := by decide +kernel
theorem d_Md_alike_14 : decode prog_14_method_64_code 14 = .ok (.iload_n 2, 1) := by decide +kernel
theorem d_Md_alike_15 : decode prog_14_method_64_code 15 = .ok (.invokevirtual 393, 3) := by decide +kernel
theorem d_Md_alike_18 : decode prog_14_method_64_code 18 = .ok (.ifCond .eq 8, 3) := by decide +kernel
theorem d_Md_alike_21 : decode prog_14_method_64_code 21 = .ok (.iload_n 1, 1) := by decide +kernel
theorem d_Md_alike_22 : decode prog_14_method_64_code 22 = .ok (.iload_n 2, 1) := by decide +kernel
theorem d_Md_alike_23 : decode prog_14_method_64_code 23 = .ok (.if_icmp .ne 5, 3) := by decide +kernel
theorem d_Md_alike_26 : decode prog_14_method_64_code 26 = .ok (.iconst (-1), 1) := by decide +kernel
theorem d_Md_alike_27 : decode prog_14_method_64_code 27 = .ok (.ireturn, 1) := by decide +kernel
theorem d_Md_alike_28 : decode prog_14_method_64_code 28 = .ok (.aload_n 0, 1) := by decide +kernel
theorem d_Md_alike_29 : decode prog_14_method_64_code 29 = .ok (.invokevirtual 381, 3) := by decide +kernel
theorem d_Md_alike_32 : decode prog_14_method_64_code 32 = .ok (.iconst 0, 1) := by decide +kernel
theorem d_Md_alike_33 : decode prog_14_method_64_code 33 = .ok (.istore_n 3, 1) := by decide +kernel
theorem d_Md_alike_34 : decode prog_14_method_64_code 34 = .ok (.iconst 0, 1) := by decide +kernel
theorem d_Md_alike_35 : decode prog_14_method_64_code 35 = .ok (.istore 4, 2) := by decide +kernel
theorem d_Md_alike_37 : decode prog_14_method_64_code 37 = .ok (.iload 4, 2) := by decide +kernel
theorem d_Md_alike_39 : decode prog_14_method_64_code 39 = .ok (.aload_n 0, 1) := by decide +kernel
theorem d_Md_alike_40 : decode prog_14_method_64_code 40 = .ok (.getfield 372, 3) := by decide +kernel
theorem d_Md_alike_43 : decode prog_14_method_64_code 43 = .ok (.if_icmp .ge 38, 3) := by decide +kernel
theorem d_Md_alike_46 : decode prog_14_method_64_code 46 = .ok (.iload_n 3, 1) := by decide +kernel
theorem d_Md_alike_47 : decode prog_14_method_64_code 47 = .ok (.aload_n 0, 1) := by decide +kernel
theorem d_Md_alike_48 : decode prog_14_method_64_code 48 = .ok (.aload_n 0, 1) := by decide +kernel
theorem d_Md_alike_49 : decode prog_14_method_64_code 49 = .ok (.getfield 82, 3) := by decide +kernel
theorem d_Md_alike_52 : decode prog_14_method_64_code 52 = .ok (.aload_n 0, 1) := by decide +kernel
theorem d_Md_alike_53 : decode prog_14_method_64_code 53 = .ok (.getfield 116, 3) := by decide +kernel
theorem d_Md_alike_56 : decode prog_14_method_64_code 56 = .ok (.iload 4, 2) := by decide +kernel
theorem d_Md_alike_58 : decode prog_14_method_64_code 58 = .ok (.iaload, 1) := by decide +kernel
theorem d_Md_alike_59 : decode prog_14_method_64_code 59 = .ok (.laload, 1) := by decide +kernel
theorem d_Md_alike_60 : decode prog_14_method_64_code 60 = .ok (.iload_n 1, 1) := by decide +kernel
theorem d_Md_alike_61 : decode prog_14_method_64_code 61 = .ok (.iload_n 2, 1) := by decide +kernel
theorem d_Md_alike_62 : decode prog_14_method_64_code 62 = .ok (.invokevirtual 399, 3) := by decide +kernel
theorem d_Md_alike_65 : decode prog_14_method_64_code 65 = .ok (.ifCond .eq 7, 3) := by decide +kernel
theorem d_Md_alike_68 : decode prog_14_method_64_code 68 = .ok (.iconst 1, 1) := by decide +kernel
theorem d_Md_alike_69 : decode prog_14_method_64_code 69 = .ok (.goto 4, 3) := by decide +kernel
theorem d_Md_alike_72 : decode prog_14_method_64_code 72 = .ok (.iconst 0, 1) := by decide +kernel
theorem d_Md_alike_73 : decode prog_14_method_64_code 73 = .ok (.iadd, 1) := by decide +kernel
theorem d_Md_alike_74 : decode prog_14_method_64_code 74 = .ok (.istore_n 3, 1) := by decide +kernel
theorem d_Md_alike_75 : decode prog_14_method_64_code 75 = .ok (.iinc 4 1, 3) := by decide +kernel
theorem d_Md_alike_78 : decode prog_14_method_64_code 78 = .ok (.goto (-41), 3) := by decide +kernel
theorem d_Md_alike_81 : decode prog_14_method_64_code 81 = .ok (.iload_n 3, 1) := by decide +kernel
theorem d_Md_alike_82 : decode prog_14_method_64_code 82 = .ok (.aload_n 0, 1) := by decide +kernel
theorem d_Md_alike_83 : decode prog_14_method_64_code 83 = .ok (.getfield 372, 3) := by decide +kernel
theorem d_Md_alike_86 : decode prog_14_method_64_code 86 = .ok (.invokestatic 390, 3) := by decide +kernel
theorem d_Md_alike_89 : decode prog_14_method_64_code 89 = .ok (.ireturn, 1) := by decide +kernel
abbrev S_Md_alike : Type := Nat × Nat × Int32 × Int32 × Int32 × Int32 × Int32 × Int32 × AM
noncomputable def T_Md_alike_0 (v0R : Nat) (v1I : Int32) (v2I : Int32) (σ : AM) : S_Md_alike ⊕ Option (Int32 × AM) :=
  gdT (okO σ v0R 12) <| letT (sI σ v0R 0 (0 : Int32)) fun σ2 => bndT (M_Md_isThing v0R v1I σ2) fun r4 σ5 => if r4 = 0 then (.inl (1, 0, 0, 0, 0, 0, 0, 0, σ5)) else (gdT (okO σ5 v0R 12) <| bndT (M_Md_isThing v0R v2I σ5) fun r6 σ7 => if r6 = 0 then (.inl (1, 0, 0, 0, 0, 0, 0, 0, σ7)) else (if v1I = v2I then (.inl (1, 0, 0, 0, 0, 0, 0, 0, σ7)) else (gdT (okO σ7 v0R 12) <| bndT (M_Md_findLeft v0R σ7) fun _ σ10 => .inl (2, v0R, v1I, v2I, (0 : Int32), (0 : Int32), 0, 0, σ10))))
noncomputable def T_Md_alike_1  (σ : AM) : S_Md_alike ⊕ Option (Int32 × AM) :=
  .inr (some (((-1) : Int32), σ))
noncomputable def T_Md_alike_2 (v0R : Nat) (v1I : Int32) (v2I : Int32) (v3I : Int32) (v4I : Int32) (σ : AM) : S_Md_alike ⊕ Option (Int32 × AM) :=
  gdT (okO σ v0R 12) <| if v4I < (aI σ v0R 46) then (gdT (okO σ (aR σ v0R 30) 102) <| gdT (okO σ (aR σ v0R 45) 101) <| gdT (inB v4I (aN σ (aR σ v0R 45))) <| gdT (inB (aI σ (aR σ v0R 45) v4I.toNatClampNeg) (aN σ (aR σ v0R 30))) <| bndT (M_Md_areAlike v0R (aL σ (aR σ v0R 30) (aI σ (aR σ v0R 45) v4I.toNatClampNeg).toNatClampNeg) v1I v2I σ) fun r6 σ7 => if r6 = 0 then (.inl (3, v0R, v1I, v2I, 0, v4I, v3I, (0 : Int32), σ7)) else (.inl (3, v0R, v1I, v2I, 0, v4I, v3I, (1 : Int32), σ7))) else (bndT (M_Md_sureOf v3I (aI σ v0R 46) σ) fun r8 σ9 => .inr (some (r8, σ9)))
noncomputable def T_Md_alike_3 (v0R : Nat) (v1I : Int32) (v2I : Int32) (v4I : Int32) (s0I : Int32) (s1I : Int32) (σ : AM) : S_Md_alike ⊕ Option (Int32 × AM) :=
  letT (s0I + s1I) fun x1 => .inl (2, v0R, v1I, v2I, x1, v4I + (1 : Int32), 0, 0, σ)
noncomputable def F_Md_alike : S_Md_alike → S_Md_alike ⊕ Option (Int32 × AM) := fun s => match s.1 with
  | 0 => T_Md_alike_0 (s.2.1) (s.2.2.1) (s.2.2.2.1) (s.2.2.2.2.2.2.2.2)
  | 1 => T_Md_alike_1  (s.2.2.2.2.2.2.2.2)
  | 2 => T_Md_alike_2 (s.2.1) (s.2.2.1) (s.2.2.2.1) (s.2.2.2.2.1) (s.2.2.2.2.2.1) (s.2.2.2.2.2.2.2.2)
  | _ => T_Md_alike_3 (s.2.1) (s.2.2.1) (s.2.2.2.1) (s.2.2.2.2.2.1) (s.2.2.2.2.2.2.1) (s.2.2.2.2.2.2.2.1) (s.2.2.2.2.2.2.2.2)
noncomputable def L_Md_alike_0 (v0R : Nat) (v1I : Int32) (v2I : Int32) (σ : AM) : Option (Int32 × AM) := lp F_Md_alike (0, v0R, v1I, v2I, 0, 0, 0, 0, σ)
noncomputable def L_Md_alike_1  (σ : AM) : Option (Int32 × AM) := lp F_Md_alike (1, 0, 0, 0, 0, 0, 0, 0, σ)
noncomputable def L_Md_alike_2 (v0R : Nat) (v1I : Int32) (v2I : Int32) (v3I : Int32) (v4I : Int32) (σ : AM) : Option (Int32 × AM) := lp F_Md_alike (2, v0R, v1I, v2I, v3I, v4I, 0, 0, σ)
noncomputable def L_Md_alike_3 (v0R : Nat) (v1I : Int32) (v2I : Int32) (v4I : Int32) (s0I : Int32) (s1I : Int32) (σ : AM) : Option (Int32 × AM) := lp F_Md_alike (3, v0R, v1I, v2I, 0, v4I, s0I, s1I, σ)
set_option maxRecDepth 20000 in
theorem E_Md_alike_0 (v0R : Nat) (v1I : Int32) (v2I : Int32) (σ : AM) : L_Md_alike_0 v0R v1I v2I σ = (gd (okO σ v0R 12) <| letT (sI σ v0R 0 (0 : Int32)) fun σ2 => bnd (M_Md_isThing v0R v1I σ2) fun r4 σ5 => if r4 = 0 then (L_Md_alike_1 σ5) else (gd (okO σ5 v0R 12) <| bnd (M_Md_isThing v0R v2I σ5) fun r6 σ7 => if r6 = 0 then (L_Md_alike_1 σ7) else (if v1I = v2I then (L_Md_alike_1 σ7) else (gd (okO σ7 v0R 12) <| bnd (M_Md_findLeft v0R σ7) fun _ σ10 => L_Md_alike_2 v0R v1I v2I ((0 : Int32)) ((0 : Int32)) σ10)))) := by
  unfold L_Md_alike_0
  rw [lp_eq]
  show lpK (lp F_Md_alike) (T_Md_alike_0 v0R v1I v2I σ) = _
  unfold T_Md_alike_0
  simp only [lpK_ite, lq_inl, lq_inr, lpK_bnd, lpK_gd, lq_let]
  try rfl
set_option maxRecDepth 20000 in
theorem E_Md_alike_1  (σ : AM) : L_Md_alike_1  σ = ((some (((-1) : Int32), σ))) := by
  unfold L_Md_alike_1
  rw [lp_eq]
  show lpK (lp F_Md_alike) (T_Md_alike_1  σ) = _
  unfold T_Md_alike_1
  simp only [lpK_ite, lq_inl, lq_inr, lpK_bnd, lpK_gd, lq_let]
  try rfl
set_option maxRecDepth 20000 in
theorem E_Md_alike_2 (v0R : Nat) (v1I : Int32) (v2I : Int32) (v3I : Int32) (v4I : Int32) (σ : AM) : L_Md_alike_2 v0R v1I v2I v3I v4I σ = (gd (okO σ v0R 12) <| if v4I < (aI σ v0R 46) then (gd (okO σ (aR σ v0R 30) 102) <| gd (okO σ (aR σ v0R 45) 101) <| gd (inB v4I (aN σ (aR σ v0R 45))) <| gd (inB (aI σ (aR σ v0R 45) v4I.toNatClampNeg) (aN σ (aR σ v0R 30))) <| bnd (M_Md_areAlike v0R (aL σ (aR σ v0R 30) (aI σ (aR σ v0R 45) v4I.toNatClampNeg).toNatClampNeg) v1I v2I σ) fun r6 σ7 => if r6 = 0 then (L_Md_alike_3 v0R v1I v2I v4I v3I ((0 : Int32)) σ7) else (L_Md_alike_3 v0R v1I v2I v4I v3I ((1 : Int32)) σ7)) else (bnd (M_Md_sureOf v3I (aI σ v0R 46) σ) fun r8 σ9 => (some (r8, σ9)))) := by
  unfold L_Md_alike_2
  rw [lp_eq]
  show lpK (lp F_Md_alike) (T_Md_alike_2 v0R v1I v2I v3I v4I σ) = _
  unfold T_Md_alike_2
  simp only [lpK_ite, lq_inl, lq_inr, lpK_bnd, lpK_gd, lq_let]
  try rfl
set_option maxRecDepth 20000 in
theorem E_Md_alike_3 (v0R : Nat) (v1I : Int32) (v2I : Int32) (v4I : Int32) (s0I : Int32) (s1I : Int32) (σ : AM) : L_Md_alike_3 v0R v1I v2I v4I s0I s1I σ = (letT (s0I + s1I) fun x1 => L_Md_alike_2 v0R v1I v2I x1 (v4I + (1 : Int32)) σ) := by
  unfold L_Md_alike_3
  rw [lp_eq]
  show lpK (lp F_Md_alike) (T_Md_alike_3 v0R v1I v2I v4I s0I s1I σ) = _
  unfold T_Md_alike_3
  simp only [lpK_ite, lq_inl, lq_inr, lpK_bnd, lpK_gd, lq_let]
  try rfl
noncomputable def M_Md_alike (v0R : Nat) (v1I : Int32) (v2I : Int32) (σ : AM) : Option (Int32 × AM) := mw σ (L_Md_alike_0 v0R v1I v2I σ)
def I_Md_alike (G : GX) (p : Program) (l : Launch) (e : Env) (s : State) (m : MethodId) (args : Array Value) (below : List Frame) (meth : Method) (c : Code) (z0 u0 n : Nat) : Prop :=
  (∀ (v0R : Nat) (v1I : Int32) (v2I : Int32) (σ : AM), VX (QM eI G args s below z0 u0) G p l e s m args below meth c 4 z0 u0 5 (lpn F_Md_alike n (0, v0R, v1I, v2I, 0, 0, 0, 0, σ)) 0 [(0, .ref v0R), (1, .int v1I), (2, .int v2I)] [] σ) ∧
  (∀ (σ : AM), VX (QM eI G args s below z0 u0) G p l e s m args below meth c 4 z0 u0 5 (lpn F_Md_alike n (1, 0, 0, 0, 0, 0, 0, 0, σ)) 26 [] [] σ) ∧
  (∀ (v0R : Nat) (v1I : Int32) (v2I : Int32) (v3I : Int32) (v4I : Int32) (σ : AM), VX (QM eI G args s below z0 u0) G p l e s m args below meth c 4 z0 u0 5 (lpn F_Md_alike n (2, v0R, v1I, v2I, v3I, v4I, 0, 0, σ)) 37 [(0, .ref v0R), (1, .int v1I), (2, .int v2I), (3, .int v3I), (4, .int v4I)] [] σ) ∧
  (∀ (v0R : Nat) (v1I : Int32) (v2I : Int32) (v4I : Int32) (s0I : Int32) (s1I : Int32) (σ : AM), VX (QM eI G args s below z0 u0) G p l e s m args below meth c 4 z0 u0 5 (lpn F_Md_alike n (3, v0R, v1I, v2I, 0, v4I, s0I, s1I, σ)) 73 [(0, .ref v0R), (1, .int v1I), (2, .int v2I), (4, .int v4I)] [.int s1I, .int s0I] σ)
set_option maxRecDepth 20000 in
theorem s_Md_alike_0 {G : GX} {p : Program} {l : Launch} {e : Env} {s : State} {m : MethodId} {args : Array Value} {below : List Frame} {meth : Method} {c : Code} {z0 u0 n : Nat} (C : Cx G p s m args meth c prog_14_method_64_code 5 "BellPlateModel" ((some FieldType.int))) (IH : I_Md_alike G p l e s m args below meth c z0 u0 n) (v0R : Nat) (v1I : Int32) (v2I : Int32) (σ : AM) : VX (QM eI G args s below z0 u0) G p l e s m args below meth c 4 z0 u0 5 (lpK (lpn F_Md_alike n) (T_Md_alike_0 v0R v1I v2I σ)) 0 [(0, .ref v0R), (1, .int v1I), (2, .int v2I)] [] σ := by
  unfold T_Md_alike_0
  refine x_aload_n C d_Md_alike_0 0 rfl ?_
  refine x_iconst (v := (0 : Int32)) C d_Md_alike_1 (by decide) ?_
  refine x_gd (fun h1 => ?_)
  refine x_putI (k := 0) C (okO_iff.mp h1) rfl j11_ok y11_ok n11_ok (by decide) rfl rfl rfl rfl w1852 d_Md_alike_2 ?_
  refine x_letS (fun σ2 e3 => ?_)
  refine x_aload_n C d_Md_alike_5 0 rfl ?_
  refine x_iload_n C d_Md_alike_6 1 rfl ?_
  refine x_callVI (As := [.int v1I]) C (c_Md_isThing G l v0R v1I σ2) (by first | exact (okO_iff.mp h1) | (rw [e3]; exact (okO_iff.mp h1))) rfl w2258 w92 w2256 w2259 w134 k_Md_isThing rfl (by decide) (by decide) rfl (Nat.le_of_ble_eq_true rfl) d_Md_alike_7 (fun r4 σ5 => ?_)
  refine x_if_eq (tgt := 26) C d_Md_alike_10 (by decide) (fun _ => ?_) (fun _ => ?_)
  · refine x_lv [] rfl ?_
    exact IH.2.1  (σ5)
  · refine x_aload_n C d_Md_alike_13 0 rfl ?_
    refine x_iload_n C d_Md_alike_14 2 rfl ?_
    refine x_gd (fun h8 => ?_)
    refine x_callVI (As := [.int v2I]) C (c_Md_isThing G l v0R v2I σ5) (okO_iff.mp h8) rfl w2258 w92 w2256 w2259 w134 k_Md_isThing rfl (by decide) (by decide) rfl (Nat.le_of_ble_eq_true rfl) d_Md_alike_15 (fun r6 σ7 => ?_)
    refine x_if_eq (tgt := 26) C d_Md_alike_18 (by decide) (fun _ => ?_) (fun _ => ?_)
    · refine x_lv [] rfl ?_
      exact IH.2.1  (σ7)
    · refine x_iload_n C d_Md_alike_21 1 rfl ?_
      refine x_iload_n C d_Md_alike_22 2 rfl ?_
      refine x_icmp_ne (tgt := 28) C d_Md_alike_23 (by decide) (fun _ => ?_) (fun _ => ?_)
      · refine x_lv [] rfl ?_
        exact IH.2.1  (σ7)
      · refine x_aload_n C d_Md_alike_28 0 rfl ?_
        refine x_gd (fun h11 => ?_)
        refine x_callVV (As := []) C (c_Md_findLeft G l v0R  σ7) (okO_iff.mp h11) rfl w2213 w85 w2211 w2214 w134 k_Md_findLeft rfl (by decide) (by decide) rfl (Nat.le_of_ble_eq_true rfl) d_Md_alike_29 (fun r9 σ10 => ?_)
        refine x_iconst (v := (0 : Int32)) C d_Md_alike_32 (by decide) ?_
        refine x_istore_n (lv' := [(3, .int (0 : Int32)), (0, .ref v0R), (1, .int v1I), (2, .int v2I)]) C d_Md_alike_33 (by decide) rfl rfl ?_
        refine x_iconst (v := (0 : Int32)) C d_Md_alike_34 (by decide) ?_
        refine x_istore (lv' := [(4, .int (0 : Int32)), (3, .int (0 : Int32)), (0, .ref v0R), (1, .int v1I), (2, .int v2I)]) C d_Md_alike_35 (by decide) rfl ?_
        refine x_lv [2, 3, 4, 1, 0] rfl ?_
        exact IH.2.2.1 v0R v1I v2I ((0 : Int32)) ((0 : Int32)) (σ10)
set_option maxRecDepth 20000 in
theorem s_Md_alike_1 {G : GX} {p : Program} {l : Launch} {e : Env} {s : State} {m : MethodId} {args : Array Value} {below : List Frame} {meth : Method} {c : Code} {z0 u0 n : Nat} (C : Cx G p s m args meth c prog_14_method_64_code 5 "BellPlateModel" ((some FieldType.int))) (IH : I_Md_alike G p l e s m args below meth c z0 u0 n)  (σ : AM) : VX (QM eI G args s below z0 u0) G p l e s m args below meth c 4 z0 u0 5 (lpK (lpn F_Md_alike n) (T_Md_alike_1  σ)) 26 [] [] σ := by
  unfold T_Md_alike_1
  refine x_iconst (v := ((-1) : Int32)) C d_Md_alike_26 (by decide) ?_
  exact x_iret C d_Md_alike_27
set_option maxRecDepth 20000 in
theorem s_Md_alike_2 {G : GX} {p : Program} {l : Launch} {e : Env} {s : State} {m : MethodId} {args : Array Value} {below : List Frame} {meth : Method} {c : Code} {z0 u0 n : Nat} (C : Cx G p s m args meth c prog_14_method_64_code 5 "BellPlateModel" ((some FieldType.int))) (IH : I_Md_alike G p l e s m args below meth c z0 u0 n) (v0R : Nat) (v1I : Int32) (v2I : Int32) (v3I : Int32) (v4I : Int32) (σ : AM) : VX (QM eI G args s below z0 u0) G p l e s m args below meth c 4 z0 u0 5 (lpK (lpn F_Md_alike n) (T_Md_alike_2 v0R v1I v2I v3I v4I σ)) 37 [(0, .ref v0R), (1, .int v1I), (2, .int v2I), (3, .int v3I), (4, .int v4I)] [] σ := by
  unfold T_Md_alike_2
  refine x_iload C d_Md_alike_37 4 rfl ?_
  refine x_aload_n C d_Md_alike_39 0 rfl ?_
  refine x_gd (fun h1 => ?_)
  refine x_getI (k := 46) C (okO_iff.mp h1) rfl j11_ok (by decide) rfl w1898 d_Md_alike_40 ?_
  refine x_icmp_ge (tgt := 81) C d_Md_alike_43 (by decide) (fun _ => ?_) (fun _ => ?_)
  · refine x_iload_n C d_Md_alike_46 3 rfl ?_
    refine x_aload_n C d_Md_alike_47 0 rfl ?_
    refine x_aload_n C d_Md_alike_48 0 rfl ?_
    refine x_gd (fun h2 => ?_)
    refine x_getR (k := 30) (kv := 102) C (okO_iff.mp h1) rfl j11_ok (by decide) rfl (okO_iff.mp h2) (by decide) w1882 d_Md_alike_49 ?_
    refine x_aload_n C d_Md_alike_52 0 rfl ?_
    refine x_gd (fun h3 => ?_)
    refine x_getR (k := 45) (kv := 101) C (okO_iff.mp h1) rfl j11_ok (by decide) rfl (okO_iff.mp h3) (by decide) w1897 d_Md_alike_53 ?_
    refine x_iload C d_Md_alike_56 4 rfl ?_
    refine x_gd (fun h4 => ?_)
    refine x_aldI C (okO_iff.mp h3) (inB_iff.mp h4) d_Md_alike_58 ?_
    refine x_gd (fun h5 => ?_)
    refine x_aldJ C (okO_iff.mp h2) (inB_iff.mp h5) d_Md_alike_59 ?_
    refine x_iload_n C d_Md_alike_60 1 rfl ?_
    refine x_iload_n C d_Md_alike_61 2 rfl ?_
    refine x_callVI (As := [.long (aL σ (aR σ v0R 30) (aI σ (aR σ v0R 45) v4I.toNatClampNeg).toNatClampNeg), .int v1I, .int v2I]) C (c_Md_areAlike G l v0R (aL σ (aR σ v0R 30) (aI σ (aR σ v0R 45) v4I.toNatClampNeg).toNatClampNeg) v1I v2I σ) (okO_iff.mp h1) rfl w2270 w94 w2268 w2271 w134 k_Md_areAlike rfl (by decide) (by decide) rfl (Nat.le_of_ble_eq_true rfl) d_Md_alike_62 (fun r6 σ7 => ?_)
    refine x_if_eq (tgt := 72) C d_Md_alike_65 (by decide) (fun _ => ?_) (fun _ => ?_)
    · refine x_iconst (v := (0 : Int32)) C d_Md_alike_72 (by decide) ?_
      refine x_lv [0, 1, 2, 4] rfl ?_
      exact IH.2.2.2 v0R v1I v2I v4I v3I ((0 : Int32)) (σ7)
    · refine x_iconst (v := (1 : Int32)) C d_Md_alike_68 (by decide) ?_
      refine x_goto (tgt := 73) C d_Md_alike_69 (by decide) ?_
      refine x_lv [0, 1, 2, 4] rfl ?_
      exact IH.2.2.2 v0R v1I v2I v4I v3I ((1 : Int32)) (σ7)
  · refine x_iload_n C d_Md_alike_81 3 rfl ?_
    refine x_aload_n C d_Md_alike_82 0 rfl ?_
    refine x_getI (k := 46) C (okO_iff.mp h1) rfl j11_ok (by decide) rfl w1898 d_Md_alike_83 ?_
    refine x_callSI (As := [.int v3I, .int (aI σ v0R 46)]) C (c_Md_sureOf G l v3I (aI σ v0R 46) σ) w2250 w2249 w2251 w134 k_Md_sureOf rfl (by decide) (by decide) rfl (Nat.le_of_ble_eq_true rfl) d_Md_alike_86 (fun r8 σ9 => ?_)
    exact x_iret C d_Md_alike_89
set_option maxRecDepth 20000 in
theorem s_Md_alike_3 {G : GX} {p : Program} {l : Launch} {e : Env} {s : State} {m : MethodId} {args : Array Value} {below : List Frame} {meth : Method} {c : Code} {z0 u0 n : Nat} (C : Cx G p s m args meth c prog_14_method_64_code 5 "BellPlateModel" ((some FieldType.int))) (IH : I_Md_alike G p l e s m args below meth c z0 u0 n) (v0R : Nat) (v1I : Int32) (v2I : Int32) (v4I : Int32) (s0I : Int32) (s1I : Int32) (σ : AM) : VX (QM eI G args s below z0 u0) G p l e s m args below meth c 4 z0 u0 5 (lpK (lpn F_Md_alike n) (T_Md_alike_3 v0R v1I v2I v4I s0I s1I σ)) 73 [(0, .ref v0R), (1, .int v1I), (2, .int v2I), (4, .int v4I)] [.int s1I, .int s0I] σ := by
  unfold T_Md_alike_3
  refine x_iadd C d_Md_alike_73 ?_
  refine x_letI (fun x1 _ => ?_)
  refine x_istore_n (lv' := [(3, .int x1), (0, .ref v0R), (1, .int v1I), (2, .int v2I), (4, .int v4I)]) C d_Md_alike_74 (by decide) rfl rfl ?_
  refine x_iinc (v := v4I + (1 : Int32)) (lv' := [(4, .int (v4I + (1 : Int32))), (3, .int x1), (0, .ref v0R), (1, .int v1I), (2, .int v2I)]) C d_Md_alike_75 4 rfl rfl (by decide) rfl ?_
  refine x_goto (tgt := 37) C d_Md_alike_78 (by decide) ?_
  refine x_lv [2, 3, 4, 1, 0] rfl ?_
  exact IH.2.2.1 v0R v1I v2I x1 (v4I + (1 : Int32)) (σ)
theorem i_Md_alike {G : GX} {p : Program} {l : Launch} {e : Env} {s : State} {m : MethodId} {args : Array Value} {below : List Frame} {meth : Method} {c : Code} {z0 u0 : Nat} (C : Cx G p s m args meth c prog_14_method_64_code 5 "BellPlateModel" ((some FieldType.int))) (n : Nat) : I_Md_alike G p l e s m args below meth c z0 u0 n := by
  induction n with
  | zero => exact ⟨fun _ _ _ _ => x_none, fun _ => x_none, fun _ _ _ _ _ _ => x_none, fun _ _ _ _ _ _ _ => x_none⟩
  | succ n IH => exact ⟨fun v0R v1I v2I σ => s_Md_alike_0 C IH v0R v1I v2I σ, fun σ => s_Md_alike_1 C IH σ, fun v0R v1I v2I v3I v4I σ => s_Md_alike_2 C IH v0R v1I v2I v3I v4I σ, fun v0R v1I v2I v4I s0I s1I σ => s_Md_alike_3 C IH v0R v1I v2I v4I s0I s1I σ⟩
theorem c_Md_alike (G : GX) (l : Launch) (v0R : Nat) (v1I : Int32) (v2I : Int32) (σ : AM) : CT eI G l 4 y_Md_alike prog_14_method_64_code 5 ((some FieldType.int)) [.ref v0R, .int v1I, .int v2I] σ (M_Md_alike v0R v1I v2I σ) := by
  refine ct_of (by decide +kernel) (Nat.le_of_ble_eq_true rfl) (fun p e s m args below meth c C hin => ?_)
  refine x_lve (lv' := [(0, .ref v0R), (1, .int v1I), (2, .int v2I)]) rfl ?_
  intro r σ' h
  obtain ⟨n, hn⟩ := (lp_iff _ _ _).mp h
  exact (i_Md_alike C n).1 v0R v1I v2I σ r σ' hn
/-! BellPlateModel.takesLeft()V -/
abbrev y_Md_takesLeft : MethodName := ⟨"BellPlateModel", "takesLeft", "()V"⟩
theorem k_Md_takesLeft : y_Md_takesLeft.cls ≠ "java/lang/invoke/MethodHandle" ∧ y_Md_takesLeft.cls ≠ "java/lang/invoke/VarHandle" ∧ (parseMethodDescriptor y_Md_takesLeft.desc).map (fun d => d.parameters.length) = some 0 := by decide +kernel
theorem d_Md_takesLeft_0 : decode prog_14_method_65_code 0 = .ok (.aload_n 0, 1) := by decide +kernel
theorem d_Md_takesLeft_1 : decode prog_14_method_65_code 1 = .ok (.invokevirtual 381, 3) := by decide +kernel
theorem d_Md_takesLeft_4 : decode prog_14_method_65_code 4 = .ok (.iconst 0, 1) := by decide +kernel
theorem d_Md_takesLeft_5 : decode prog_14_method_65_code 5 = .ok (.istore_n 1, 1) := by decide +kernel
theorem d_Md_takesLeft_6 : decode prog_14_method_65_code 6 = .ok (.iload_n 1, 1) := by decide +kernel
theorem d_Md_takesLeft_7 : decode prog_14_method_65_code 7 = .ok (.aload_n 0, 1) := by decide +kernel
theorem d_Md_takesLeft_8 : decode prog_14_method_65_code 8 = .ok (.getfield 372, 3) := by decide +kernel
theorem d_Md_takesLeft_11 : decode prog_14_method_65_code 11 = .ok (.if_icmp .ge 21, 3) := by decide +kernel
theorem d_Md_takesLeft_14 : decode prog_14_method_65_code 14 = .ok (.aload_n 0, 1) := by decide +kernel
theorem d_Md_takesLeft_15 : decode prog_14_method_65_code 15 = .ok (.getfield 119, 3) := by decide +kernel
theorem d_Md_takesLeft_18 : decode prog_14_method_65_code 18 = .ok (.iload_n 1, 1) := by decide +kernel
theorem d_Md_takesLeft_19 : decode prog_14_method_65_code 19 = .ok (.aload_n 0, 1) := by decide +kernel
theorem d_Md_takesLeft_20 : decode prog_14_method_65_code 20 = .ok (.getfield 116, 3) := by decide +kernel
theorem d_Md_takesLeft_23 : decode prog_14_method_65_code 23 = .ok (.iload_n 1, 1) := by decide +kernel
theorem d_Md_takesLeft_24 : decode prog_14_method_65_code 24 = .ok (.iaload, 1) := by decide +kernel
theorem d_Md_takesLeft_25 : decode prog_14_method_65_code 25 = .ok (.iastore, 1) := by decide +kernel
theorem d_Md_takesLeft_26 : decode prog_14_method_65_code 26 = .ok (.iinc 1 1, 3) := by decide +kernel
theorem d_Md_takesLeft_29 : decode prog_14_method_65_code 29 = .ok (.goto (-23), 3) := by decide +kernel
theorem d_Md_takesLeft_32 : decode prog_14_method_65_code 32 = .ok (.return_, 1) := by decide +kernel
abbrev S_Md_takesLeft : Type := Nat × Nat × Int32 × AM
noncomputable def T_Md_takesLeft_0 (v0R : Nat) (σ : AM) : S_Md_takesLeft ⊕ Option (Unit × AM) :=
  gdT (okO σ v0R 12) <| bndT (M_Md_findLeft v0R σ) fun _ σ2 => .inl (1, v0R, (0 : Int32), σ2)
noncomputable def T_Md_takesLeft_1 (v0R : Nat) (v1I : Int32) (σ : AM) : S_Md_takesLeft ⊕ Option (Unit × AM) :=
  gdT (okO σ v0R 12) <| if v1I < (aI σ v0R 46) then (gdT (okO σ (aR σ v0R 48) 101) <| gdT (okO σ (aR σ v0R 45) 101) <| gdT (inB v1I (aN σ (aR σ v0R 45))) <| gdT (inB v1I (aN σ (aR σ v0R 48))) <| letT (sI σ (aR σ v0R 48) v1I.toNatClampNeg (aI σ (aR σ v0R 45) v1I.toNatClampNeg)) fun σ6 => .inl (1, v0R, v1I + (1 : Int32), σ6)) else (.inr (some ((), σ)))
noncomputable def F_Md_takesLeft : S_Md_takesLeft → S_Md_takesLeft ⊕ Option (Unit × AM) := fun s => match s.1 with
  | 0 => T_Md_takesLeft_0 (s.2.1) (s.2.2.2)
  | _ => T_Md_takesLeft_1 (s.2.1) (s.2.2.1) (s.2.2.2)
noncomputable def L_Md_takesLeft_0 (v0R : Nat) (σ : AM) : Option (Unit × AM) := lp F_Md_takesLeft (0, v0R, 0, σ)
noncomputable def L_Md_takesLeft_1 (v0R : Nat) (v1I : Int32) (σ : AM) : Option (Unit × AM) := lp F_Md_takesLeft (1, v0R, v1I, σ)
set_option maxRecDepth 20000 in
theorem E_Md_takesLeft_0 (v0R : Nat) (σ : AM) : L_Md_takesLeft_0 v0R σ = (gd (okO σ v0R 12) <| bnd (M_Md_findLeft v0R σ) fun _ σ2 => L_Md_takesLeft_1 v0R ((0 : Int32)) σ2) := by
  unfold L_Md_takesLeft_0
  rw [lp_eq]
  show lpK (lp F_Md_takesLeft) (T_Md_takesLeft_0 v0R σ) = _
  unfold T_Md_takesLeft_0
  simp only [lpK_ite, lq_inl, lq_inr, lpK_bnd, lpK_gd, lq_let]
  try rfl
set_option maxRecDepth 20000 in
theorem E_Md_takesLeft_1 (v0R : Nat) (v1I : Int32) (σ : AM) : L_Md_takesLeft_1 v0R v1I σ = (gd (okO σ v0R 12) <| if v1I < (aI σ v0R 46) then (gd (okO σ (aR σ v0R 48) 101) <| gd (okO σ (aR σ v0R 45) 101) <| gd (inB v1I (aN σ (aR σ v0R 45))) <| gd (inB v1I (aN σ (aR σ v0R 48))) <| letT (sI σ (aR σ v0R 48) v1I.toNatClampNeg (aI σ (aR σ v0R 45) v1I.toNatClampNeg)) fun σ6 => L_Md_takesLeft_1 v0R (v1I + (1 : Int32)) σ6) else ((some ((), σ)))) := by
  unfold L_Md_takesLeft_1
  rw [lp_eq]
  show lpK (lp F_Md_takesLeft) (T_Md_takesLeft_1 v0R v1I σ) = _
  unfold T_Md_takesLeft_1
  simp only [lpK_ite, lq_inl, lq_inr, lpK_bnd, lpK_gd, lq_let]
  try rfl
noncomputable def M_Md_takesLeft (v0R : Nat) (σ : AM) : Option (Unit × AM) := mw σ (L_Md_takesLeft_0 v0R σ)
def I_Md_takesLeft (G : GX) (p : Program) (l : Launch) (e : Env) (s : State) (m : MethodId) (args : Array Value) (below : List Frame) (meth : Method) (c : Code) (z0 u0 n : Nat) : Prop :=
  (∀ (v0R : Nat) (σ : AM), VX (QM eV G args s below z0 u0) G p l e s m args below meth c 4 z0 u0 2 (lpn F_Md_takesLeft n (0, v0R, 0, σ)) 0 [(0, .ref v0R)] [] σ) ∧
  (∀ (v0R : Nat) (v1I : Int32) (σ : AM), VX (QM eV G args s below z0 u0) G p l e s m args below meth c 4 z0 u0 2 (lpn F_Md_takesLeft n (1, v0R, v1I, σ)) 6 [(0, .ref v0R), (1, .int v1I)] [] σ)
set_option maxRecDepth 20000 in
theorem s_Md_takesLeft_0 {G : GX} {p : Program} {l : Launch} {e : Env} {s : State} {m : MethodId} {args : Array Value} {below : List Frame} {meth : Method} {c : Code} {z0 u0 n : Nat} (C : Cx G p s m args meth c prog_14_method_65_code 2 "BellPlateModel" ((none))) (IH : I_Md_takesLeft G p l e s m args below meth c z0 u0 n) (v0R : Nat) (σ : AM) : VX (QM eV G args s below z0 u0) G p l e s m args below meth c 4 z0 u0 2 (lpK (lpn F_Md_takesLeft n) (T_Md_takesLeft_0 v0R σ)) 0 [(0, .ref v0R)] [] σ := by
  unfold T_Md_takesLeft_0
  refine x_aload_n C d_Md_takesLeft_0 0 rfl ?_
  refine x_gd (fun h3 => ?_)
  refine x_callVV (As := []) C (c_Md_findLeft G l v0R  σ) (okO_iff.mp h3) rfl w2213 w85 w2211 w2214 w134 k_Md_findLeft rfl (by decide) (by decide) rfl (Nat.le_of_ble_eq_true rfl) d_Md_takesLeft_1 (fun r1 σ2 => ?_)
  refine x_iconst (v := (0 : Int32)) C d_Md_takesLeft_4 (by decide) ?_
  refine x_istore_n (lv' := [(1, .int (0 : Int32)), (0, .ref v0R)]) C d_Md_takesLeft_5 (by decide) rfl rfl ?_
  refine x_lv [1, 0] rfl ?_
  exact IH.2 v0R ((0 : Int32)) (σ2)
set_option maxRecDepth 20000 in
theorem s_Md_takesLeft_1 {G : GX} {p : Program} {l : Launch} {e : Env} {s : State} {m : MethodId} {args : Array Value} {below : List Frame} {meth : Method} {c : Code} {z0 u0 n : Nat} (C : Cx G p s m args meth c prog_14_method_65_code 2 "BellPlateModel" ((none))) (IH : I_Md_takesLeft G p l e s m args below meth c z0 u0 n) (v0R : Nat) (v1I : Int32) (σ : AM) : VX (QM eV G args s below z0 u0) G p l e s m args below meth c 4 z0 u0 2 (lpK (lpn F_Md_takesLeft n) (T_Md_takesLeft_1 v0R v1I σ)) 6 [(0, .ref v0R), (1, .int v1I)] [] σ := by
  unfold T_Md_takesLeft_1
  refine x_iload_n C d_Md_takesLeft_6 1 rfl ?_
  refine x_aload_n C d_Md_takesLeft_7 0 rfl ?_
  refine x_gd (fun h1 => ?_)
  refine x_getI (k := 46) C (okO_iff.mp h1) rfl j11_ok (by decide) rfl w1898 d_Md_takesLeft_8 ?_
  refine x_icmp_ge (tgt := 32) C d_Md_takesLeft_11 (by decide) (fun _ => ?_) (fun _ => ?_)
  · refine x_aload_n C d_Md_takesLeft_14 0 rfl ?_
    refine x_gd (fun h2 => ?_)
    refine x_getR (k := 48) (kv := 101) C (okO_iff.mp h1) rfl j11_ok (by decide) rfl (okO_iff.mp h2) (by decide) w1900 d_Md_takesLeft_15 ?_
    refine x_iload_n C d_Md_takesLeft_18 1 rfl ?_
    refine x_aload_n C d_Md_takesLeft_19 0 rfl ?_
    refine x_gd (fun h3 => ?_)
    refine x_getR (k := 45) (kv := 101) C (okO_iff.mp h1) rfl j11_ok (by decide) rfl (okO_iff.mp h3) (by decide) w1897 d_Md_takesLeft_20 ?_
    refine x_iload_n C d_Md_takesLeft_23 1 rfl ?_
    refine x_gd (fun h4 => ?_)
    refine x_aldI C (okO_iff.mp h3) (inB_iff.mp h4) d_Md_takesLeft_24 ?_
    refine x_gd (fun h5 => ?_)
    refine x_astI C (okO_iff.mp h2) (inB_iff.mp h5) d_Md_takesLeft_25 ?_
    refine x_letS (fun σ6 e7 => ?_)
    refine x_iinc (v := v1I + (1 : Int32)) (lv' := [(1, .int (v1I + (1 : Int32))), (0, .ref v0R)]) C d_Md_takesLeft_26 1 rfl rfl (by decide) rfl ?_
    refine x_goto (tgt := 6) C d_Md_takesLeft_29 (by decide) ?_
    refine x_lv [1, 0] rfl ?_
    exact IH.2 v0R (v1I + (1 : Int32)) (σ6)
  · exact x_vret C d_Md_takesLeft_32
theorem i_Md_takesLeft {G : GX} {p : Program} {l : Launch} {e : Env} {s : State} {m : MethodId} {args : Array Value} {below : List Frame} {meth : Method} {c : Code} {z0 u0 : Nat} (C : Cx G p s m args meth c prog_14_method_65_code 2 "BellPlateModel" ((none))) (n : Nat) : I_Md_takesLeft G p l e s m args below meth c z0 u0 n := by
  induction n with
  | zero => exact ⟨fun _ _ => x_none, fun _ _ _ => x_none⟩
  | succ n IH => exact ⟨fun v0R σ => s_Md_takesLeft_0 C IH v0R σ, fun v0R v1I σ => s_Md_takesLeft_1 C IH v0R v1I σ⟩
theorem c_Md_takesLeft (G : GX) (l : Launch) (v0R : Nat) (σ : AM) : CT eV G l 4 y_Md_takesLeft prog_14_method_65_code 2 (none) [.ref v0R] σ (M_Md_takesLeft v0R σ) := by
  refine ct_of (by decide +kernel) (Nat.le_of_ble_eq_true rfl) (fun p e s m args below meth c C hin => ?_)
  refine x_lve (lv' := [(0, .ref v0R)]) rfl ?_
  intro r σ' h
  obtain ⟨n, hn⟩ := (lp_iff _ _ _).mp h
  exact (i_Md_takesLeft C n).1 v0R σ r σ' hn
/-! BellPlateModel.isBetter(IIII)Z -/
abbrev y_Md_isBetter : MethodName := ⟨"BellPlateModel", "isBetter", "(IIII)Z"⟩
theorem k_Md_isBetter : y_Md_isBetter.cls ≠ "java/lang/invoke/MethodHandle" ∧ y_Md_isBetter.cls ≠ "java/lang/invoke/VarHandle" ∧ (parseMethodDescriptor y_Md_isBetter.desc).map (fun d => d.parameters.length) = some 4 := by decide +kernel
theorem d_Md_isBetter_0 : decode prog_14_method_66_code 0 = .ok (.iload_n 3, 1) := by decide +kernel
theorem d_Md_isBetter_1 : decode prog_14_method_66_code 1 = .ok (.ifCond .ge 5, 3) := by decide +kernel
theorem d_Md_isBetter_4 : decode prog_14_method_66_code 4 = .ok (.iconst 1, 1) := by decide +kernel
theorem d_Md_isBetter_5 : decode prog_14_method_66_code 5 = .ok (.ireturn, 1) := by decide +kernel
theorem d_Md_isBetter_6 : decode prog_14_method_66_code 6 = .ok (.aload_n 0, 1) := by decide +kernel
theorem d_Md_isBetter_7 : decode prog_14_method_66_code 7 = .ok (.getfield 122, 3) := by decide +kernel
theorem d_Md_isBetter_10 : decode prog_14_method_66_code 10 = .ok (.iload_n 2, 1) := by decide +kernel
theorem d_Md_isBetter_11 : decode prog_14_method_66_code 11 = .ok (.iaload, 1) := by decide +kernel
theorem d_Md_isBetter_12 : decode prog_14_method_66_code 12 = .ok (.iload 4, 2) := by decide +kernel
theorem d_Md_isBetter_14 : decode prog_14_method_66_code 14 = .ok (.aload_n 0, 1) := by decide +kernel
theorem d_Md_isBetter_15 : decode prog_14_method_66_code 15 = .ok (.getfield 122, 3) := by decide +kernel
theorem d_Md_isBetter_18 : decode prog_14_method_66_code 18 = .ok (.iload_n 2, 1) := by decide +kernel
theorem d_Md_isBetter_19 : decode prog_14_method_66_code 19 = .ok (.iaload, 1) := by decide +kernel
theorem d_Md_isBetter_20 : decode prog_14_method_66_code 20 = .ok (.isub, 1) := by decide +kernel
theorem d_Md_isBetter_21 : decode prog_14_method_66_code 21 = .ok (.if_icmp .le 12, 3) := by decide +kernel
theorem d_Md_isBetter_24 : decode prog_14_method_66_code 24 = .ok (.aload_n 0, 1) := by decide +kernel
theorem d_Md_isBetter_25 : decode prog_14_method_66_code 25 = .ok (.getfield 122, 3) := by decide +kernel
theorem d_Md_isBetter_28 : decode prog_14_method_66_code 28 = .ok (.iload_n 2, 1) := by decide +kernel
theorem d_Md_isBetter_29 : decode prog_14_method_66_code 29 = .ok (.iaload, 1) := by decide +kernel
theorem d_Md_isBetter_30 : decode prog_14_method_66_code 30 = .ok (.goto 12, 3) := by decide +kernel
theorem d_Md_isBetter_33 : decode prog_14_method_66_code 33 = .ok (.iload 4, 2) := by decide +kernel
theorem d_Md_isBetter_35 : decode prog_14_method_66_code 35 = .ok (.aload_n 0, 1) := by decide +kernel
theorem d_Md_isBetter_36 : decode prog_14_method_66_code 36 = .ok (.getfield 122, 3) := by decide +kernel
theorem d_Md_isBetter_39 : decode prog_14_method_66_code 39 = .ok (.iload_n 2, 1) := by decide +kernel
theorem d_Md_isBetter_40 : decode prog_14_method_66_code 40 = .ok (.iaload, 1) := by decide +kernel
theorem d_Md_isBetter_41 : decode prog_14_method_66_code 41 = .ok (.isub, 1) := by decide +kernel
theorem d_Md_isBetter_42 : decode prog_14_method_66_code 42 = .ok (.istore 5, 2) := by decide +kernel
theorem d_Md_isBetter_44 : decode prog_14_method_66_code 44 = .ok (.aload_n 0, 1) := by decide +kernel
theorem d_Md_isBetter_45 : decode prog_14_method_66_code 45 = .ok (.getfield 122, 3) := by decide +kernel
theorem d_Md_isBetter_48 : decode prog_14_method_66_code 48 = .ok (.iload_n 3, 1) := by decide +kernel
theorem d_Md_isBetter_49 : decode prog_14_method_66_code 49 = .ok (.iaload, 1) := by decide +kernel
theorem d_Md_isBetter_50 : decode prog_14_method_66_code 50 = .ok (.iload 4, 2) := by decide +kernel
theorem d_Md_isBetter_52 : decode prog_14_method_66_code 52 = .ok (.aload_n 0, 1) := by decide +kernel
theorem d_Md_isBetter_53 : decode prog_14_method_66_code 53 = .ok (.getfield 122, 3) := by decide +kernel
theorem d_Md_isBetter_56 : decode prog_14_method_66_code 56 = .ok (.iload_n 3, 1) := by decide +kernel
theorem d_Md_isBetter_57 : decode prog_14_method_66_code 57 = .ok (.iaload, 1) := by decide +kernel
theorem d_Md_isBetter_58 : decode prog_14_method_66_code 58 = .ok (.isub, 1) := by decide +kernel
theorem d_Md_isBetter_59 : decode prog_14_method_66_code 59 = .ok (.if_icmp .le 12, 3) := by decide +kernel
theorem d_Md_isBetter_62 : decode prog_14_method_66_code 62 = .ok (.aload_n 0, 1) := by decide +kernel
theorem d_Md_isBetter_63 : decode prog_14_method_66_code 63 = .ok (.getfield 122, 3) := by decide +kernel
theorem d_Md_isBetter_66 : decode prog_14_method_66_code 66 = .ok (.iload_n 3, 1) := by decide +kernel
theorem d_Md_isBetter_67 : decode prog_14_method_66_code 67 = .ok (.iaload, 1) := by decide +kernel
theorem d_Md_isBetter_68 : decode prog_14_method_66_code 68 = .ok (.goto 12, 3) := by decide +kernel
theorem d_Md_isBetter_71 : decode prog_14_method_66_code 71 = .ok (.iload 4, 2) := by decide +kernel
theorem d_Md_isBetter_73 : decode prog_14_method_66_code 73 = .ok (.aload_n 0, 1) := by decide +kernel
theorem d_Md_isBetter_74 : decode prog_14_method_66_code 74 = .ok (.getfield 122, 3) := by decide +kernel
theorem d_Md_isBetter_77 : decode prog_14_method_66_code 77 = .ok (.iload_n 3, 1) := by decide +kernel
theorem d_Md_isBetter_78 : decode prog_14_method_66_code 78 = .ok (.iaload, 1) := by decide +kernel
theorem d_Md_isBetter_79 : decode prog_14_method_66_code 79 = .ok (.isub, 1) := by decide +kernel
theorem d_Md_isBetter_80 : decode prog_14_method_66_code 80 = .ok (.istore 6, 2) := by decide +kernel
theorem d_Md_isBetter_82 : decode prog_14_method_66_code 82 = .ok (.iload_n 1, 1) := by decide +kernel
theorem d_Md_isBetter_83 : decode prog_14_method_66_code 83 = .ok (.iconst 1, 1) := by decide +kernel
theorem d_Md_isBetter_84 : decode prog_14_method_66_code 84 = .ok (.if_icmp .ne 24, 3) := by decide +kernel
theorem d_Md_isBetter_87 : decode prog_14_method_66_code 87 = .ok (.aload_n 0, 1) := by decide +kernel
theorem d_Md_isBetter_88 : decode prog_14_method_66_code 88 = .ok (.getfield 125, 3) := by decide +kernel
theorem d_Md_isBetter_91 : decode prog_14_method_66_code 91 = .ok (.iload_n 2, 1) := by decide +kernel
theorem d_Md_isBetter_92 : decode prog_14_method_66_code 92 = .ok (.iaload, 1) := by decide +kernel
theorem d_Md_isBetter_93 : decode prog_14_method_66_code 93 = .ok (.aload_n 0, 1) := by decide +kernel
theorem d_Md_isBetter_94 : decode prog_14_method_66_code 94 = .ok (.getfield 125, 3) := by decide +kernel
theorem d_Md_isBetter_97 : decode prog_14_method_66_code 97 = .ok (.iload_n 3, 1) := by decide +kernel
theorem d_Md_isBetter_98 : decode prog_14_method_66_code 98 = .ok (.iaload, 1) := by decide +kernel
theorem d_Md_isBetter_99 : decode prog_14_method_66_code 99 = .ok (.if_icmp .ge 7, 3) := by decide +kernel
theorem d_Md_isBetter_102 : decode prog_14_method_66_code 102 = .ok (.iconst 1, 1) := by decide +kernel
theorem d_Md_isBetter_103 : decode prog_14_method_66_code 103 = .ok (.goto 4, 3) := by decide +kernel
theorem d_Md_isBetter_106 : decode prog_14_method_66_code 106 = .ok (.iconst 0, 1) := by decide +kernel
theorem d_Md_isBetter_107 : decode prog_14_method_66_code 107 = .ok (.ireturn, 1) := by decide +kernel
theorem d_Md_isBetter_108 : decode prog_14_method_66_code 108 = .ok (.iload_n 1, 1) := by decide +kernel
theorem d_Md_isBetter_109 : decode prog_14_method_66_code 109 = .ok (.iconst 2, 1) := by decide +kernel
theorem d_Md_isBetter_110 : decode prog_14_method_66_code 110 = .ok (.if_icmp .ne 39, 3) := by decide +kernel
theorem d_Md_isBetter_113 : decode prog_14_method_66_code 113 = .ok (.aload_n 0, 1) := by decide +kernel
theorem d_Md_isBetter_114 : decode prog_14_method_66_code 114 = .ok (.getfield 101, 3) := by decide +kernel
theorem d_Md_isBetter_117 : decode prog_14_method_66_code 117 = .ok (.iload_n 2, 1) := by decide +kernel
theorem d_Md_isBetter_118 : decode prog_14_method_66_code 118 = .ok (.iaload, 1) := by decide +kernel
theorem d_Md_isBetter_119 : decode prog_14_method_66_code 119 = .ok (.aload_n 0, 1) := by decide +kernel
theorem d_Md_isBetter_120 : decode prog_14_method_66_code 120 = .ok (.getfield 101, 3) := by decide +kernel
theorem d_Md_isBetter_123 : decode prog_14_method_66_code 123 = .ok (.iload_n 3, 1) := by decide +kernel
theorem d_Md_isBetter_124 : decode prog_14_method_66_code 124 = .ok (.iaload, 1) := by decide +kernel
theorem d_Md_isBetter_125 : decode prog_14_method_66_code 125 = .ok (.if_icmp .eq 24, 3) := by decide +kernel
theorem d_Md_isBetter_128 : decode prog_14_method_66_code 128 = .ok (.aload_n 0, 1) := by decide +kernel
theorem d_Md_isBetter_129 : decode prog_14_method_66_code 129 = .ok (.getfield 101, 3) := by decide +kernel
theorem d_Md_isBetter_132 : decode prog_14_method_66_code 132 = .ok (.iload_n 2, 1) := by decide +kernel
theorem d_Md_isBetter_133 : decode prog_14_method_66_code 133 = .ok (.iaload, 1) := by decide +kernel
theorem d_Md_isBetter_134 : decode prog_14_method_66_code 134 = .ok (.aload_n 0, 1) := by decide +kernel
theorem d_Md_isBetter_135 : decode prog_14_method_66_code 135 = .ok (.getfield 101, 3) := by decide +kernel
theorem d_Md_isBetter_138 : decode prog_14_method_66_code 138 = .ok (.iload_n 3, 1) := by decide +kernel
theorem d_Md_isBetter_139 : decode prog_14_method_66_code 139 = .ok (.iaload, 1) := by decide +kernel
theorem d_Md_isBetter_140 : decode prog_14_method_66_code 140 = .ok (.if_icmp .ge 7, 3) := by decide +kernel
theorem d_Md_isBetter_143 : decode prog_14_method_66_code 143 = .ok (.iconst 1, 1) := by decide +kernel
theorem d_Md_isBetter_144 : decode prog_14_method_66_code 144 = .ok (.goto 4, 3) := by decide +kernel
theorem d_Md_isBetter_147 : decode prog_14_method_66_code 147 = .ok (.iconst 0, 1) := by decide +kernel
theorem d_Md_isBetter_148 : decode prog_14_method_66_code 148 = .ok (.ireturn, 1) := by decide +kernel
theorem d_Md_isBetter_149 : decode prog_14_method_66_code 149 = .ok (.iload 5, 2) := by decide +kernel
theorem d_Md_isBetter_151 : decode prog_14_method_66_code 151 = .ok (.iload 6, 2) := by decide +kernel
theorem d_Md_isBetter_153 : decode prog_14_method_66_code 153 = .ok (.if_icmp .ge 7, 3) := by decide +kernel
theorem d_Md_isBetter_156 : decode prog_14_method_66_code 156 = .ok (.iconst 1, 1) := by decide +kernel
theorem d_Md_isBetter_157 : decode prog_14_method_66_code 157 = .ok (.goto 4, 3) := by decide +kernel
theorem d_Md_isBetter_160 : decode prog_14_method_66_code 160 = .ok (.iconst 0, 1) := by decide +kernel
theorem d_Md_isBetter_161 : decode prog_14_method_66_code 161 = .ok (.ireturn, 1) := by decide +kernel
abbrev S_Md_isBetter : Type := Nat × Nat × Int32 × Int32 × Int32 × Int32 × Int32 × Int32 × Int32 × AM
noncomputable def T_Md_isBetter_0 (v0R : Nat) (v1I : Int32) (v2I : Int32) (v3I : Int32) (v4I : Int32) (σ : AM) : S_Md_isBetter ⊕ Option (Int32 × AM) :=
  if v3I < 0 then (.inr (some ((1 : Int32), σ))) else (gdT (okO σ v0R 12) <| gdT (okO σ (aR σ v0R 52) 101) <| gdT (inB v2I (aN σ (aR σ v0R 52))) <| if (v4I - (aI σ (aR σ v0R 52) v2I.toNatClampNeg)) < (aI σ (aR σ v0R 52) v2I.toNatClampNeg) then (.inl (1, v0R, v1I, v2I, v3I, v4I, 0, 0, aI σ (aR σ v0R 52) v2I.toNatClampNeg, σ)) else (.inl (1, v0R, v1I, v2I, v3I, v4I, 0, 0, v4I - (aI σ (aR σ v0R 52) v2I.toNatClampNeg), σ)))
noncomputable def T_Md_isBetter_1 (v0R : Nat) (v1I : Int32) (v2I : Int32) (v3I : Int32) (v4I : Int32) (s0I : Int32) (σ : AM) : S_Md_isBetter ⊕ Option (Int32 × AM) :=
  gdT (okO σ v0R 12) <| gdT (okO σ (aR σ v0R 52) 101) <| gdT (inB v3I (aN σ (aR σ v0R 52))) <| if (v4I - (aI σ (aR σ v0R 52) v3I.toNatClampNeg)) < (aI σ (aR σ v0R 52) v3I.toNatClampNeg) then (.inl (2, v0R, v1I, v2I, v3I, 0, s0I, 0, aI σ (aR σ v0R 52) v3I.toNatClampNeg, σ)) else (.inl (2, v0R, v1I, v2I, v3I, 0, s0I, 0, v4I - (aI σ (aR σ v0R 52) v3I.toNatClampNeg), σ))
noncomputable def T_Md_isBetter_2 (v0R : Nat) (v1I : Int32) (v2I : Int32) (v3I : Int32) (v5I : Int32) (s0I : Int32) (σ : AM) : S_Md_isBetter ⊕ Option (Int32 × AM) :=
  if v1I = (1 : Int32) then (gdT (okO σ v0R 12) <| gdT (okO σ (aR σ v0R 53) 101) <| gdT (inB v2I (aN σ (aR σ v0R 53))) <| gdT (inB v3I (aN σ (aR σ v0R 53))) <| if (aI σ (aR σ v0R 53) v2I.toNatClampNeg) < (aI σ (aR σ v0R 53) v3I.toNatClampNeg) then (.inl (3, 0, 0, 0, 0, 0, 0, 0, (1 : Int32), σ)) else (.inl (3, 0, 0, 0, 0, 0, 0, 0, (0 : Int32), σ))) else (if v1I = (2 : Int32) then (gdT (okO σ v0R 12) <| gdT (okO σ (aR σ v0R 36) 101) <| gdT (inB v2I (aN σ (aR σ v0R 36))) <| gdT (inB v3I (aN σ (aR σ v0R 36))) <| if (aI σ (aR σ v0R 36) v2I.toNatClampNeg) = (aI σ (aR σ v0R 36) v3I.toNatClampNeg) then (.inl (5, 0, 0, 0, 0, 0, v5I, s0I, 0, σ)) else (if (aI σ (aR σ v0R 36) v2I.toNatClampNeg) < (aI σ (aR σ v0R 36) v3I.toNatClampNeg) then (.inl (4, 0, 0, 0, 0, 0, 0, 0, (1 : Int32), σ)) else (.inl (4, 0, 0, 0, 0, 0, 0, 0, (0 : Int32), σ)))) else (.inl (5, 0, 0, 0, 0, 0, v5I, s0I, 0, σ)))
noncomputable def T_Md_isBetter_3 (s0I : Int32) (σ : AM) : S_Md_isBetter ⊕ Option (Int32 × AM) :=
  gdT (isB s0I) <| .inr (some (s0I, σ))
noncomputable def T_Md_isBetter_4 (s0I : Int32) (σ : AM) : S_Md_isBetter ⊕ Option (Int32 × AM) :=
  gdT (isB s0I) <| .inr (some (s0I, σ))
noncomputable def T_Md_isBetter_5 (v5I : Int32) (v6I : Int32) (σ : AM) : S_Md_isBetter ⊕ Option (Int32 × AM) :=
  if v5I < v6I then (.inl (6, 0, 0, 0, 0, 0, 0, 0, (1 : Int32), σ)) else (.inl (6, 0, 0, 0, 0, 0, 0, 0, (0 : Int32), σ))
noncomputable def T_Md_isBetter_6 (s0I : Int32) (σ : AM) : S_Md_isBetter ⊕ Option (Int32 × AM) :=
  gdT (isB s0I) <| .inr (some (s0I, σ))
noncomputable def F_Md_isBetter : S_Md_isBetter → S_Md_isBetter ⊕ Option (Int32 × AM) := fun s => match s.1 with
  | 0 => T_Md_isBetter_0 (s.2.1) (s.2.2.1) (s.2.2.2.1) (s.2.2.2.2.1) (s.2.2.2.2.2.1) (s.2.2.2.2.2.2.2.2.2)
  | 1 => T_Md_isBetter_1 (s.2.1) (s.2.2.1) (s.2.2.2.1) (s.2.2.2.2.1) (s.2.2.2.2.2.1) (s.2.2.2.2.2.2.2.2.1) (s.2.2.2.2.2.2.2.2.2)
  | 2 => T_Md_isBetter_2 (s.2.1) (s.2.2.1) (s.2.2.2.1) (s.2.2.2.2.1) (s.2.2.2.2.2.2.1) (s.2.2.2.2.2.2.2.2.1) (s.2.2.2.2.2.2.2.2.2)
  | 3 => T_Md_isBetter_3 (s.2.2.2.2.2.2.2.2.1) (s.2.2.2.2.2.2.2.2.2)
  | 4 => T_Md_isBetter_4 (s.2.2.2.2.2.2.2.2.1) (s.2.2.2.2.2.2.2.2.2)
  | 5 => T_Md_isBetter_5 (s.2.2.2.2.2.2.1) (s.2.2.2.2.2.2.2.1) (s.2.2.2.2.2.2.2.2.2)
  | _ => T_Md_isBetter_6 (s.2.2.2.2.2.2.2.2.1) (s.2.2.2.2.2.2.2.2.2)
noncomputable def L_Md_isBetter_0 (v0R : Nat) (v1I : Int32) (v2I : Int32) (v3I : Int32) (v4I : Int32) (σ : AM) : Option (Int32 × AM) := lp F_Md_isBetter (0, v0R, v1I, v2I, v3I, v4I, 0, 0, 0, σ)
noncomputable def L_Md_isBetter_1 (v0R : Nat) (v1I : Int32) (v2I : Int32) (v3I : Int32) (v4I : Int32) (s0I : Int32) (σ : AM) : Option (Int32 × AM) := lp F_Md_isBetter (1, v0R, v1I, v2I, v3I, v4I, 0, 0, s0I, σ)
noncomputable def L_Md_isBetter_2 (v0R : Nat) (v1I : Int32) (v2I : Int32) (v3I : Int32) (v5I : Int32) (s0I : Int32) (σ : AM) : Option (Int32 × AM) := lp F_Md_isBetter (2, v0R, v1I, v2I, v3I, 0, v5I, 0, s0I, σ)
noncomputable def L_Md_isBetter_3 (s0I : Int32) (σ : AM) : Option (Int32 × AM) := lp F_Md_isBetter (3, 0, 0, 0, 0, 0, 0, 0, s0I, σ)
noncomputable def L_Md_isBetter_4 (s0I : Int32) (σ : AM) : Option (Int32 × AM) := lp F_Md_isBetter (4, 0, 0, 0, 0, 0, 0, 0, s0I, σ)
noncomputable def L_Md_isBetter_5 (v5I : Int32) (v6I : Int32) (σ : AM) : Option (Int32 × AM) := lp F_Md_isBetter (5, 0, 0, 0, 0, 0, v5I, v6I, 0, σ)
noncomputable def L_Md_isBetter_6 (s0I : Int32) (σ : AM) : Option (Int32 × AM) := lp F_Md_isBetter (6, 0, 0, 0, 0, 0, 0, 0, s0I, σ)
set_option maxRecDepth 20000 in
theorem E_Md_isBetter_0 (v0R : Nat) (v1I : Int32) (v2I : Int32) (v3I : Int32) (v4I : Int32) (σ : AM) : L_Md_isBetter_0 v0R v1I v2I v3I v4I σ = (if v3I < 0 then ((some ((1 : Int32), σ))) else (gd (okO σ v0R 12) <| gd (okO σ (aR σ v0R 52) 101) <| gd (inB v2I (aN σ (aR σ v0R 52))) <| if (v4I - (aI σ (aR σ v0R 52) v2I.toNatClampNeg)) < (aI σ (aR σ v0R 52) v2I.toNatClampNeg) then (L_Md_isBetter_1 v0R v1I v2I v3I v4I (aI σ (aR σ v0R 52) v2I.toNatClampNeg) σ) else (L_Md_isBetter_1 v0R v1I v2I v3I v4I (v4I - (aI σ (aR σ v0R 52) v2I.toNatClampNeg)) σ))) := by
  unfold L_Md_isBetter_0
  rw [lp_eq]
  show lpK (lp F_Md_isBetter) (T_Md_isBetter_0 v0R v1I v2I v3I v4I σ) = _
  unfold T_Md_isBetter_0
  simp only [lpK_ite, lq_inl, lq_inr, lpK_bnd, lpK_gd, lq_let]
  try rfl
set_option maxRecDepth 20000 in
theorem E_Md_isBetter_1 (v0R : Nat) (v1I : Int32) (v2I : Int32) (v3I : Int32) (v4I : Int32) (s0I : Int32) (σ : AM) : L_Md_isBetter_1 v0R v1I v2I v3I v4I s0I σ = (gd (okO σ v0R 12) <| gd (okO σ (aR σ v0R 52) 101) <| gd (inB v3I (aN σ (aR σ v0R 52))) <| if (v4I - (aI σ (aR σ v0R 52) v3I.toNatClampNeg)) < (aI σ (aR σ v0R 52) v3I.toNatClampNeg) then (L_Md_isBetter_2 v0R v1I v2I v3I s0I (aI σ (aR σ v0R 52) v3I.toNatClampNeg) σ) else (L_Md_isBetter_2 v0R v1I v2I v3I s0I (v4I - (aI σ (aR σ v0R 52) v3I.toNatClampNeg)) σ)) := by
  unfold L_Md_isBetter_1
  rw [lp_eq]
  show lpK (lp F_Md_isBetter) (T_Md_isBetter_1 v0R v1I v2I v3I v4I s0I σ) = _
  unfold T_Md_isBetter_1
  simp only [lpK_ite, lq_inl, lq_inr, lpK_bnd, lpK_gd, lq_let]
  try rfl
set_option maxRecDepth 20000 in
theorem E_Md_isBetter_2 (v0R : Nat) (v1I : Int32) (v2I : Int32) (v3I : Int32) (v5I : Int32) (s0I : Int32) (σ : AM) : L_Md_isBetter_2 v0R v1I v2I v3I v5I s0I σ = (if v1I = (1 : Int32) then (gd (okO σ v0R 12) <| gd (okO σ (aR σ v0R 53) 101) <| gd (inB v2I (aN σ (aR σ v0R 53))) <| gd (inB v3I (aN σ (aR σ v0R 53))) <| if (aI σ (aR σ v0R 53) v2I.toNatClampNeg) < (aI σ (aR σ v0R 53) v3I.toNatClampNeg) then (L_Md_isBetter_3 ((1 : Int32)) σ) else (L_Md_isBetter_3 ((0 : Int32)) σ)) else (if v1I = (2 : Int32) then (gd (okO σ v0R 12) <| gd (okO σ (aR σ v0R 36) 101) <| gd (inB v2I (aN σ (aR σ v0R 36))) <| gd (inB v3I (aN σ (aR σ v0R 36))) <| if (aI σ (aR σ v0R 36) v2I.toNatClampNeg) = (aI σ (aR σ v0R 36) v3I.toNatClampNeg) then (L_Md_isBetter_5 v5I s0I σ) else (if (aI σ (aR σ v0R 36) v2I.toNatClampNeg) < (aI σ (aR σ v0R 36) v3I.toNatClampNeg) then (L_Md_isBetter_4 ((1 : Int32)) σ) else (L_Md_isBetter_4 ((0 : Int32)) σ))) else (L_Md_isBetter_5 v5I s0I σ))) := by
  unfold L_Md_isBetter_2
  rw [lp_eq]
  show lpK (lp F_Md_isBetter) (T_Md_isBetter_2 v0R v1I v2I v3I v5I s0I σ) = _
  unfold T_Md_isBetter_2
  simp only [lpK_ite, lq_inl, lq_inr, lpK_bnd, lpK_gd, lq_let]
  try rfl
set_option maxRecDepth 20000 in
theorem E_Md_isBetter_3 (s0I : Int32) (σ : AM) : L_Md_isBetter_3 s0I σ = (gd (isB s0I) <| (some (s0I, σ))) := by
  unfold L_Md_isBetter_3
  rw [lp_eq]
  show lpK (lp F_Md_isBetter) (T_Md_isBetter_3 s0I σ) = _
  unfold T_Md_isBetter_3
  simp only [lpK_ite, lq_inl, lq_inr, lpK_bnd, lpK_gd, lq_let]
  try rfl
set_option maxRecDepth 20000 in
theorem E_Md_isBetter_4 (s0I : Int32) (σ : AM) : L_Md_isBetter_4 s0I σ = (gd (isB s0I) <| (some (s0I, σ))) := by
  unfold L_Md_isBetter_4
  rw [lp_eq]
  show lpK (lp F_Md_isBetter) (T_Md_isBetter_4 s0I σ) = _
  unfold T_Md_isBetter_4
  simp only [lpK_ite, lq_inl, lq_inr, lpK_bnd, lpK_gd, lq_let]
  try rfl
set_option maxRecDepth 20000 in
theorem E_Md_isBetter_5 (v5I : Int32) (v6I : Int32) (σ : AM) : L_Md_isBetter_5 v5I v6I σ = (if v5I < v6I then (L_Md_isBetter_6 ((1 : Int32)) σ) else (L_Md_isBetter_6 ((0 : Int32)) σ)) := by
  unfold L_Md_isBetter_5
  rw [lp_eq]
  show lpK (lp F_Md_isBetter) (T_Md_isBetter_5 v5I v6I σ) = _
  unfold T_Md_isBetter_5
  simp only [lpK_ite, lq_inl, lq_inr, lpK_bnd, lpK_gd, lq_let]
  try rfl
set_option maxRecDepth 20000 in
theorem E_Md_isBetter_6 (s0I : Int32) (σ : AM) : L_Md_isBetter_6 s0I σ = (gd (isB s0I) <| (some (s0I, σ))) := by
  unfold L_Md_isBetter_6
  rw [lp_eq]
  show lpK (lp F_Md_isBetter) (T_Md_isBetter_6 s0I σ) = _
  unfold T_Md_isBetter_6
  simp only [lpK_ite, lq_inl, lq_inr, lpK_bnd, lpK_gd, lq_let]
  try rfl
noncomputable def M_Md_isBetter (v0R : Nat) (v1I : Int32) (v2I : Int32) (v3I : Int32) (v4I : Int32) (σ : AM) : Option (Int32 × AM) := mw σ (L_Md_isBetter_0 v0R v1I v2I v3I v4I σ)
def I_Md_isBetter (G : GX) (p : Program) (l : Launch) (e : Env) (s : State) (m : MethodId) (args : Array Value) (below : List Frame) (meth : Method) (c : Code) (z0 u0 n : Nat) : Prop :=
  (∀ (v0R : Nat) (v1I : Int32) (v2I : Int32) (v3I : Int32) (v4I : Int32) (σ : AM), VX (QM eI G args s below z0 u0) G p l e s m args below meth c 0 z0 u0 7 (lpn F_Md_isBetter n (0, v0R, v1I, v2I, v3I, v4I, 0, 0, 0, σ)) 0 [(0, .ref v0R), (1, .int v1I), (2, .int v2I), (3, .int v3I), (4, .int v4I)] [] σ) ∧
  (∀ (v0R : Nat) (v1I : Int32) (v2I : Int32) (v3I : Int32) (v4I : Int32) (s0I : Int32) (σ : AM), VX (QM eI G args s below z0 u0) G p l e s m args below meth c 0 z0 u0 7 (lpn F_Md_isBetter n (1, v0R, v1I, v2I, v3I, v4I, 0, 0, s0I, σ)) 42 [(0, .ref v0R), (1, .int v1I), (2, .int v2I), (3, .int v3I), (4, .int v4I)] [.int s0I] σ) ∧
  (∀ (v0R : Nat) (v1I : Int32) (v2I : Int32) (v3I : Int32) (v5I : Int32) (s0I : Int32) (σ : AM), VX (QM eI G args s below z0 u0) G p l e s m args below meth c 0 z0 u0 7 (lpn F_Md_isBetter n (2, v0R, v1I, v2I, v3I, 0, v5I, 0, s0I, σ)) 80 [(0, .ref v0R), (1, .int v1I), (2, .int v2I), (3, .int v3I), (5, .int v5I)] [.int s0I] σ) ∧
  (∀ (s0I : Int32) (σ : AM), VX (QM eI G args s below z0 u0) G p l e s m args below meth c 0 z0 u0 7 (lpn F_Md_isBetter n (3, 0, 0, 0, 0, 0, 0, 0, s0I, σ)) 107 [] [.int s0I] σ) ∧
  (∀ (s0I : Int32) (σ : AM), VX (QM eI G args s below z0 u0) G p l e s m args below meth c 0 z0 u0 7 (lpn F_Md_isBetter n (4, 0, 0, 0, 0, 0, 0, 0, s0I, σ)) 148 [] [.int s0I] σ) ∧
  (∀ (v5I : Int32) (v6I : Int32) (σ : AM), VX (QM eI G args s below z0 u0) G p l e s m args below meth c 0 z0 u0 7 (lpn F_Md_isBetter n (5, 0, 0, 0, 0, 0, v5I, v6I, 0, σ)) 149 [(5, .int v5I), (6, .int v6I)] [] σ) ∧
  (∀ (s0I : Int32) (σ : AM), VX (QM eI G args s below z0 u0) G p l e s m args below meth c 0 z0 u0 7 (lpn F_Md_isBetter n (6, 0, 0, 0, 0, 0, 0, 0, s0I, σ)) 161 [] [.int s0I] σ)
set_option maxRecDepth 20000 in
theorem s_Md_isBetter_0 {G : GX} {p : Program} {l : Launch} {e : Env} {s : State} {m : MethodId} {args : Array Value} {below : List Frame} {meth : Method} {c : Code} {z0 u0 n : Nat} (C : Cx G p s m args meth c prog_14_method_66_code 7 "BellPlateModel" ((some FieldType.boolean))) (IH : I_Md_isBetter G p l e s m args below meth c z0 u0 n) (v0R : Nat) (v1I : Int32) (v2I : Int32) (v3I : Int32) (v4I : Int32) (σ : AM) : VX (QM eI G args s below z0 u0) G p l e s m args below meth c 0 z0 u0 7 (lpK (lpn F_Md_isBetter n) (T_Md_isBetter_0 v0R v1I v2I v3I v4I σ)) 0 [(0, .ref v0R), (1, .int v1I), (2, .int v2I), (3, .int v3I), (4, .int v4I)] [] σ := by
  unfold T_Md_isBetter_0
  refine x_iload_n C d_Md_isBetter_0 3 rfl ?_
  refine x_if_ge (tgt := 6) C d_Md_isBetter_1 (by decide) (fun _ => ?_) (fun _ => ?_)
  · refine x_iconst (v := (1 : Int32)) C d_Md_isBetter_4 (by decide) ?_
    exact x_zret C (by decide) d_Md_isBetter_5
  · refine x_aload_n C d_Md_isBetter_6 0 rfl ?_
    refine x_gd (fun h1 => ?_)
    refine x_gd (fun h2 => ?_)
    refine x_getR (k := 52) (kv := 101) C (okO_iff.mp h1) rfl j11_ok (by decide) rfl (okO_iff.mp h2) (by decide) w1904 d_Md_isBetter_7 ?_
    refine x_iload_n C d_Md_isBetter_10 2 rfl ?_
    refine x_gd (fun h3 => ?_)
    refine x_aldI C (okO_iff.mp h2) (inB_iff.mp h3) d_Md_isBetter_11 ?_
    refine x_iload C d_Md_isBetter_12 4 rfl ?_
    refine x_aload_n C d_Md_isBetter_14 0 rfl ?_
    refine x_getR (k := 52) (kv := 101) C (okO_iff.mp h1) rfl j11_ok (by decide) rfl (okO_iff.mp h2) (by decide) w1904 d_Md_isBetter_15 ?_
    refine x_iload_n C d_Md_isBetter_18 2 rfl ?_
    refine x_aldI C (okO_iff.mp h2) (inB_iff.mp h3) d_Md_isBetter_19 ?_
    refine x_isub C d_Md_isBetter_20 ?_
    refine x_icmp_le (tgt := 33) C d_Md_isBetter_21 (by decide) (fun _ => ?_) (fun _ => ?_)
    · refine x_aload_n C d_Md_isBetter_24 0 rfl ?_
      refine x_getR (k := 52) (kv := 101) C (okO_iff.mp h1) rfl j11_ok (by decide) rfl (okO_iff.mp h2) (by decide) w1904 d_Md_isBetter_25 ?_
      refine x_iload_n C d_Md_isBetter_28 2 rfl ?_
      refine x_aldI C (okO_iff.mp h2) (inB_iff.mp h3) d_Md_isBetter_29 ?_
      refine x_goto (tgt := 42) C d_Md_isBetter_30 (by decide) ?_
      exact IH.2.1 v0R v1I v2I v3I v4I (aI σ (aR σ v0R 52) v2I.toNatClampNeg) (σ)
    · refine x_iload C d_Md_isBetter_33 4 rfl ?_
      refine x_aload_n C d_Md_isBetter_35 0 rfl ?_
      refine x_getR (k := 52) (kv := 101) C (okO_iff.mp h1) rfl j11_ok (by decide) rfl (okO_iff.mp h2) (by decide) w1904 d_Md_isBetter_36 ?_
      refine x_iload_n C d_Md_isBetter_39 2 rfl ?_
      refine x_aldI C (okO_iff.mp h2) (inB_iff.mp h3) d_Md_isBetter_40 ?_
      refine x_isub C d_Md_isBetter_41 ?_
      exact IH.2.1 v0R v1I v2I v3I v4I (v4I - (aI σ (aR σ v0R 52) v2I.toNatClampNeg)) (σ)
set_option maxRecDepth 20000 in
theorem s_Md_isBetter_1 {G : GX} {p : Program} {l : Launch} {e : Env} {s : State} {m : MethodId} {args : Array Value} {below : List Frame} {meth : Method} {c : Code} {z0 u0 n : Nat} (C : Cx G p s m args meth c prog_14_method_66_code 7 "BellPlateModel" ((some FieldType.boolean))) (IH : I_Md_isBetter G p l e s m args below meth c z0 u0 n) (v0R : Nat) (v1I : Int32) (v2I : Int32) (v3I : Int32) (v4I : Int32) (s0I : Int32) (σ : AM) : VX (QM eI G args s below z0 u0) G p l e s m args below meth c 0 z0 u0 7 (lpK (lpn F_Md_isBetter n) (T_Md_isBetter_1 v0R v1I v2I v3I v4I s0I σ)) 42 [(0, .ref v0R), (1, .int v1I), (2, .int v2I), (3, .int v3I), (4, .int v4I)] [.int s0I] σ := by
  unfold T_Md_isBetter_1
  refine x_istore (lv' := [(5, .int s0I), (0, .ref v0R), (1, .int v1I), (2, .int v2I), (3, .int v3I), (4, .int v4I)]) C d_Md_isBetter_42 (by decide) rfl ?_
  refine x_aload_n C d_Md_isBetter_44 1 rfl ?_
  refine x_gd (fun h1 => ?_)
  refine x_gd (fun h2 => ?_)
  refine x_getR (k := 52) (kv := 101) C (okO_iff.mp h1) rfl j11_ok (by decide) rfl (okO_iff.mp h2) (by decide) w1904 d_Md_isBetter_45 ?_
  refine x_iload_n C d_Md_isBetter_48 4 rfl ?_
  refine x_gd (fun h3 => ?_)
  refine x_aldI C (okO_iff.mp h2) (inB_iff.mp h3) d_Md_isBetter_49 ?_
  refine x_iload C d_Md_isBetter_50 5 rfl ?_
  refine x_aload_n C d_Md_isBetter_52 1 rfl ?_
  refine x_getR (k := 52) (kv := 101) C (okO_iff.mp h1) rfl j11_ok (by decide) rfl (okO_iff.mp h2) (by decide) w1904 d_Md_isBetter_53 ?_
  refine x_iload_n C d_Md_isBetter_56 4 rfl ?_
  refine x_aldI C (okO_iff.mp h2) (inB_iff.mp h3) d_Md_isBetter_57 ?_
  refine x_isub C d_Md_isBetter_58 ?_
  refine x_icmp_le (tgt := 71) C d_Md_isBetter_59 (by decide) (fun _ => ?_) (fun _ => ?_)
  · refine x_aload_n C d_Md_isBetter_62 1 rfl ?_
    refine x_getR (k := 52) (kv := 101) C (okO_iff.mp h1) rfl j11_ok (by decide) rfl (okO_iff.mp h2) (by decide) w1904 d_Md_isBetter_63 ?_
    refine x_iload_n C d_Md_isBetter_66 4 rfl ?_
    refine x_aldI C (okO_iff.mp h2) (inB_iff.mp h3) d_Md_isBetter_67 ?_
    refine x_goto (tgt := 80) C d_Md_isBetter_68 (by decide) ?_
    refine x_lv [1, 2, 3, 4, 0] rfl ?_
    exact IH.2.2.1 v0R v1I v2I v3I s0I (aI σ (aR σ v0R 52) v3I.toNatClampNeg) (σ)
  · refine x_iload C d_Md_isBetter_71 5 rfl ?_
    refine x_aload_n C d_Md_isBetter_73 1 rfl ?_
    refine x_getR (k := 52) (kv := 101) C (okO_iff.mp h1) rfl j11_ok (by decide) rfl (okO_iff.mp h2) (by decide) w1904 d_Md_isBetter_74 ?_
    refine x_iload_n C d_Md_isBetter_77 4 rfl ?_
    refine x_aldI C (okO_iff.mp h2) (inB_iff.mp h3) d_Md_isBetter_78 ?_
    refine x_isub C d_Md_isBetter_79 ?_
    refine x_lv [1, 2, 3, 4, 0] rfl ?_
    exact IH.2.2.1 v0R v1I v2I v3I s0I (v4I - (aI σ (aR σ v0R 52) v3I.toNatClampNeg)) (σ)
set_option maxRecDepth 20000 in
theorem s_Md_isBetter_2 {G : GX} {p : Program} {l : Launch} {e : Env} {s : State} {m : MethodId} {args : Array Value} {below : List Frame} {meth : Method} {c : Code} {z0 u0 n : Nat} (C : Cx G p s m args meth c prog_14_method_66_code 7 "BellPlateModel" ((some FieldType.boolean))) (IH : I_Md_isBetter G p l e s m args below meth c z0 u0 n) (v0R : Nat) (v1I : Int32) (v2I : Int32) (v3I : Int32) (v5I : Int32) (s0I : Int32) (σ : AM) : VX (QM eI G args s below z0 u0) G p l e s m args below meth c 0 z0 u0 7 (lpK (lpn F_Md_isBetter n) (T_Md_isBetter_2 v0R v1I v2I v3I v5I s0I σ)) 80 [(0, .ref v0R), (1, .int v1I), (2, .int v2I), (3, .int v3I), (5, .int v5I)] [.int s0I] σ := by
  unfold T_Md_isBetter_2
  refine x_istore (lv' := [(6, .int s0I), (0, .ref v0R), (1, .int v1I), (2, .int v2I), (3, .int v3I), (5, .int v5I)]) C d_Md_isBetter_80 (by decide) rfl ?_
  refine x_iload_n C d_Md_isBetter_82 2 rfl ?_
  refine x_iconst (v := (1 : Int32)) C d_Md_isBetter_83 (by decide) ?_
  refine x_icmp_ne (tgt := 108) C d_Md_isBetter_84 (by decide) (fun _ => ?_) (fun _ => ?_)
  · refine x_aload_n C d_Md_isBetter_87 1 rfl ?_
    refine x_gd (fun h1 => ?_)
    refine x_gd (fun h2 => ?_)
    refine x_getR (k := 53) (kv := 101) C (okO_iff.mp h1) rfl j11_ok (by decide) rfl (okO_iff.mp h2) (by decide) w1905 d_Md_isBetter_88 ?_
    refine x_iload_n C d_Md_isBetter_91 3 rfl ?_
    refine x_gd (fun h3 => ?_)
    refine x_aldI C (okO_iff.mp h2) (inB_iff.mp h3) d_Md_isBetter_92 ?_
    refine x_aload_n C d_Md_isBetter_93 1 rfl ?_
    refine x_getR (k := 53) (kv := 101) C (okO_iff.mp h1) rfl j11_ok (by decide) rfl (okO_iff.mp h2) (by decide) w1905 d_Md_isBetter_94 ?_
    refine x_iload_n C d_Md_isBetter_97 4 rfl ?_
    refine x_gd (fun h4 => ?_)
    refine x_aldI C (okO_iff.mp h2) (inB_iff.mp h4) d_Md_isBetter_98 ?_
    refine x_icmp_ge (tgt := 106) C d_Md_isBetter_99 (by decide) (fun _ => ?_) (fun _ => ?_)
    · refine x_iconst (v := (1 : Int32)) C d_Md_isBetter_102 (by decide) ?_
      refine x_goto (tgt := 107) C d_Md_isBetter_103 (by decide) ?_
      refine x_lv [] rfl ?_
      exact IH.2.2.2.1 ((1 : Int32)) (σ)
    · refine x_iconst (v := (0 : Int32)) C d_Md_isBetter_106 (by decide) ?_
      refine x_lv [] rfl ?_
      exact IH.2.2.2.1 ((0 : Int32)) (σ)
  · refine x_iload_n C d_Md_isBetter_108 2 rfl ?_
    refine x_iconst (v := (2 : Int32)) C d_Md_isBetter_109 (by decide) ?_
    refine x_icmp_ne (tgt := 149) C d_Md_isBetter_110 (by decide) (fun _ => ?_) (fun _ => ?_)
    · refine x_aload_n C d_Md_isBetter_113 1 rfl ?_
      refine x_gd (fun h5 => ?_)
      refine x_gd (fun h6 => ?_)
      refine x_getR (k := 36) (kv := 101) C (okO_iff.mp h5) rfl j11_ok (by decide) rfl (okO_iff.mp h6) (by decide) w1888 d_Md_isBetter_114 ?_
      refine x_iload_n C d_Md_isBetter_117 3 rfl ?_
      refine x_gd (fun h7 => ?_)
      refine x_aldI C (okO_iff.mp h6) (inB_iff.mp h7) d_Md_isBetter_118 ?_
      refine x_aload_n C d_Md_isBetter_119 1 rfl ?_
      refine x_getR (k := 36) (kv := 101) C (okO_iff.mp h5) rfl j11_ok (by decide) rfl (okO_iff.mp h6) (by decide) w1888 d_Md_isBetter_120 ?_
      refine x_iload_n C d_Md_isBetter_123 4 rfl ?_
      refine x_gd (fun h8 => ?_)
      refine x_aldI C (okO_iff.mp h6) (inB_iff.mp h8) d_Md_isBetter_124 ?_
      refine x_icmp_eq (tgt := 149) C d_Md_isBetter_125 (by decide) (fun _ => ?_) (fun _ => ?_)
      · refine x_lv [5, 0] rfl ?_
        exact IH.2.2.2.2.2.1 v5I s0I (σ)
      · refine x_aload_n C d_Md_isBetter_128 1 rfl ?_
        refine x_getR (k := 36) (kv := 101) C (okO_iff.mp h5) rfl j11_ok (by decide) rfl (okO_iff.mp h6) (by decide) w1888 d_Md_isBetter_129 ?_
        refine x_iload_n C d_Md_isBetter_132 3 rfl ?_
        refine x_aldI C (okO_iff.mp h6) (inB_iff.mp h7) d_Md_isBetter_133 ?_
        refine x_aload_n C d_Md_isBetter_134 1 rfl ?_
        refine x_getR (k := 36) (kv := 101) C (okO_iff.mp h5) rfl j11_ok (by decide) rfl (okO_iff.mp h6) (by decide) w1888 d_Md_isBetter_135 ?_
        refine x_iload_n C d_Md_isBetter_138 4 rfl ?_
        refine x_aldI C (okO_iff.mp h6) (inB_iff.mp h8) d_Md_isBetter_139 ?_
        refine x_icmp_ge (tgt := 147) C d_Md_isBetter_140 (by decide) (fun _ => ?_) (fun _ => ?_)
        · refine x_iconst (v := (1 : Int32)) C d_Md_isBetter_143 (by decide) ?_
          refine x_goto (tgt := 148) C d_Md_isBetter_144 (by decide) ?_
          refine x_lv [] rfl ?_
          exact IH.2.2.2.2.1 ((1 : Int32)) (σ)
        · refine x_iconst (v := (0 : Int32)) C d_Md_isBetter_147 (by decide) ?_
          refine x_lv [] rfl ?_
          exact IH.2.2.2.2.1 ((0 : Int32)) (σ)
    · refine x_lv [5, 0] rfl ?_
      exact IH.2.2.2.2.2.1 v5I s0I (σ)
set_option maxRecDepth 20000 in
theorem s_Md_isBetter_3 {G : GX} {p : Program} {l : Launch} {e : Env} {s : State} {m : MethodId} {args : Array Value} {below : List Frame} {meth : Method} {c : Code} {z0 u0 n : Nat} (C : Cx G p s m args meth c prog_14_method_66_code 7 "BellPlateModel" ((some FieldType.boolean))) (IH : I_Md_isBetter G p l e s m args below meth c z0 u0 n) (s0I : Int32) (σ : AM) : VX (QM eI G args s below z0 u0) G p l e s m args below meth c 0 z0 u0 7 (lpK (lpn F_Md_isBetter n) (T_Md_isBetter_3 s0I σ)) 107 [] [.int s0I] σ := by
  unfold T_Md_isBetter_3
  refine x_gd (fun h1 => ?_)
  exact x_zret C (isB_narrow h1) d_Md_isBetter_107
set_option maxRecDepth 20000 in
theorem s_Md_isBetter_4 {G : GX} {p : Program} {l : Launch} {e : Env} {s : State} {m : MethodId} {args : Array Value} {below : List Frame} {meth : Method} {c : Code} {z0 u0 n : Nat} (C : Cx G p s m args meth c prog_14_method_66_code 7 "BellPlateModel" ((some FieldType.boolean))) (IH : I_Md_isBetter G p l e s m args below meth c z0 u0 n) (s0I : Int32) (σ : AM) : VX (QM eI G args s below z0 u0) G p l e s m args below meth c 0 z0 u0 7 (lpK (lpn F_Md_isBetter n) (T_Md_isBetter_4 s0I σ)) 148 [] [.int s0I] σ := by
  unfold T_Md_isBetter_4
  refine x_gd (fun h1 => ?_)
  exact x_zret C (isB_narrow h1) d_Md_isBetter_148
set_option maxRecDepth 20000 in
theorem s_Md_isBetter_5 {G : GX} {p : Program} {l : Launch} {e : Env} {s : State} {m : MethodId} {args : Array Value} {below : List Frame} {meth : Method} {c : Code} {z0 u0 n : Nat} (C : Cx G p s m args meth c prog_14_method_66_code 7 "BellPlateModel" ((some FieldType.boolean))) (IH : I_Md_isBetter G p l e s m args below meth c z0 u0 n) (v5I : Int32) (v6I : Int32) (σ : AM) : VX (QM eI G args s below z0 u0) G p l e s m args below meth c 0 z0 u0 7 (lpK (lpn F_Md_isBetter n) (T_Md_isBetter_5 v5I v6I σ)) 149 [(5, .int v5I), (6, .int v6I)] [] σ := by
  unfold T_Md_isBetter_5
  refine x_iload C d_Md_isBetter_149 0 rfl ?_
  refine x_iload C d_Md_isBetter_151 1 rfl ?_
  refine x_icmp_ge (tgt := 160) C d_Md_isBetter_153 (by decide) (fun _ => ?_) (fun _ => ?_)
  · refine x_iconst (v := (1 : Int32)) C d_Md_isBetter_156 (by decide) ?_
    refine x_goto (tgt := 161) C d_Md_isBetter_157 (by decide) ?_
    refine x_lv [] rfl ?_
    exact IH.2.2.2.2.2.2 ((1 : Int32)) (σ)
  · refine x_iconst (v := (0 : Int32)) C d_Md_isBetter_160 (by decide) ?_
    refine x_lv [] rfl ?_
    exact IH.2.2.2.2.2.2 ((0 : Int32)) (σ)
set_option maxRecDepth 20000 in
theorem s_Md_isBetter_6 {G : GX} {p : Program} {l : Launch} {e : Env} {s : State} {m : MethodId} {args : Array Value} {below : List Frame} {meth : Method} {c : Code} {z0 u0 n : Nat} (C : Cx G p s m args meth c prog_14_method_66_code 7 "BellPlateModel" ((some FieldType.boolean))) (IH : I_Md_isBetter G p l e s m args below meth c z0 u0 n) (s0I : Int32) (σ : AM) : VX (QM eI G args s below z0 u0) G p l e s m args below meth c 0 z0 u0 7 (lpK (lpn F_Md_isBetter n) (T_Md_isBetter_6 s0I σ)) 161 [] [.int s0I] σ := by
  unfold T_Md_isBetter_6
  refine x_gd (fun h1 => ?_)
  exact x_zret C (isB_narrow h1) d_Md_isBetter_161
theorem i_Md_isBetter {G : GX} {p : Program} {l : Launch} {e : Env} {s : State} {m : MethodId} {args : Array Value} {below : List Frame} {meth : Method} {c : Code} {z0 u0 : Nat} (C : Cx G p s m args meth c prog_14_method_66_code 7 "BellPlateModel" ((some FieldType.boolean))) (n : Nat) : I_Md_isBetter G p l e s m args below meth c z0 u0 n := by
  induction n with
  | zero => exact ⟨fun _ _ _ _ _ _ => x_none, fun _ _ _ _ _ _ _ => x_none, fun _ _ _ _ _ _ _ => x_none, fun _ _ => x_none, fun _ _ => x_none, fun _ _ _ => x_none, fun _ _ => x_none⟩
  | succ n IH => exact ⟨fun v0R v1I v2I v3I v4I σ => s_Md_isBetter_0 C IH v0R v1I v2I v3I v4I σ, fun v0R v1I v2I v3I v4I s0I σ => s_Md_isBetter_1 C IH v0R v1I v2I v3I v4I s0I σ, fun v0R v1I v2I v3I v5I s0I σ => s_Md_isBetter_2 C IH v0R v1I v2I v3I v5I s0I σ, fun s0I σ => s_Md_isBetter_3 C IH s0I σ, fun s0I σ => s_Md_isBetter_4 C IH s0I σ, fun v5I v6I σ => s_Md_isBetter_5 C IH v5I v6I σ, fun s0I σ => s_Md_isBetter_6 C IH s0I σ⟩
theorem c_Md_isBetter (G : GX) (l : Launch) (v0R : Nat) (v1I : Int32) (v2I : Int32) (v3I : Int32) (v4I : Int32) (σ : AM) : CT eI G l 0 y_Md_isBetter prog_14_method_66_code 7 ((some FieldType.boolean)) [.ref v0R, .int v1I, .int v2I, .int v3I, .int v4I] σ (M_Md_isBetter v0R v1I v2I v3I v4I σ) := by
  refine ct_of (by decide +kernel) (Nat.le_of_ble_eq_true rfl) (fun p e s m args below meth c C hin => ?_)
  refine x_lve (lv' := [(0, .ref v0R), (1, .int v1I), (2, .int v2I), (3, .int v3I), (4, .int v4I)]) rfl ?_
  intro r σ' h
  obtain ⟨n, hn⟩ := (lp_iff _ _ _).mp h
  exact (i_Md_isBetter C n).1 v0R v1I v2I v3I v4I σ r σ' hn
/-! BellPlateModel.nextOf(III)I -/
abbrev y_Md_nextOf : MethodName := ⟨"BellPlateModel", "nextOf", "(III)I"⟩
theorem k_Md_nextOf : y_Md_nextOf.cls ≠ "java/lang/invoke/MethodHandle" ∧ y_Md_nextOf.cls ≠ "java/lang/invoke/VarHandle" ∧ (parseMethodDescriptor y_Md_nextOf.desc).map (fun d => d.parameters.length) = some 3 := by decide +kernel
theorem d_Md_nextOf_0 : decode prog_14_method_67_code 0 = .ok (.iconst 0, 1) := by decide +kernel
theorem d_Md_nextOf_1 : decode prog_14_method_67_code 1 = .ok (.istore 4, 2) := by decide +kernel
theorem d_Md_nextOf_3 : decode prog_14_method_67_code 3 = .ok (.iload 4, 2) := by decide +kernel
theorem d_Md_nextOf_5 : decode prog_14_method_67_code 5 = .ok (.aload_n 0, 1) := by decide +kernel
theorem d_Md_nextOf_6 : decode prog_14_method_67_code 6 = .ok (.invokevirtual 306, 3) := by decide +kernel
theorem d_Md_nextOf_9 : decode prog_14_method_67_code 9 = .ok (.if_icmp .ge 25, 3) := by decide +kernel
theorem d_Md_nextOf_12 : decode prog_14_method_67_code 12 = .ok (.aload_n 0, 1) := by decide +kernel
theorem d_Md_nextOf_13 : decode prog_14_method_67_code 13 = .ok (.getfield 122, 3) := by decide +kernel
theorem d_Md_nextOf_16 : decode prog_14_method_67_code 16 = .ok (.iload 4, 2) := by decide +kernel
theorem d_Md_nextOf_18 : decode prog_14_method_67_code 18 = .ok (.iconst 0, 1) := by decide +kernel
theorem d_Md_nextOf_19 : decode prog_14_method_67_code 19 = .ok (.iastore, 1) := by decide +kernel
theorem d_Md_nextOf_20 : decode prog_14_method_67_code 20 = .ok (.aload_n 0, 1) := by decide +kernel
theorem d_Md_nextOf_21 : decode prog_14_method_67_code 21 = .ok (.getfield 125, 3) := by decide +kernel
theorem d_Md_nextOf_24 : decode prog_14_method_67_code 24 = .ok (.iload 4, 2) := by decide +kernel
theorem d_Md_nextOf_26 : decode prog_14_method_67_code 26 = .ok (.iconst 0, 1) := by decide +kernel
theorem d_Md_nextOf_27 : decode prog_14_method_67_code 27 = .ok (.iastore, 1) := by decide +kernel
theorem d_Md_nextOf_28 : decode prog_14_method_67_code 28 = .ok (.iinc 4 1, 3) := by decide +kernel
theorem d_Md_nextOf_31 : decode prog_14_method_67_code 31 = .ok (.goto (-28), 3) := by decide +kernel
theorem d_Md_nextOf_34 : decode prog_14_method_67_code 34 = .ok (.iload_n 2, 1) := by decide +kernel
theorem d_Md_nextOf_35 : decode prog_14_method_67_code 35 = .ok (.istore 4, 2) := by decide +kernel
theorem d_Md_nextOf_37 : decode prog_14_method_67_code 37 = .ok (.iload 4, 2) := by decide +kernel
theorem d_Md_nextOf_39 : decode prog_14_method_67_code 39 = .ok (.iload_n 3, 1) := by decide +kernel
theorem d_Md_nextOf_40 : decode prog_14_method_67_code 40 = .ok (.if_icmp .ge 95, 3) := by decide +kernel
theorem d_Md_nextOf_43 : decode prog_14_method_67_code 43 = .ok (.aload_n 0, 1) := by decide +kernel
theorem d_Md_nextOf_44 : decode prog_14_method_67_code 44 = .ok (.getfield 82, 3) := by decide +kernel
theorem d_Md_nextOf_47 : decode prog_14_method_67_code 47 = .ok (.aload_n 0, 1) := by decide +kernel
theorem d_Md_nextOf_48 : decode prog_14_method_67_code 48 = .ok (.getfield 119, 3) := by decide +kernel
theorem d_Md_nextOf_51 : decode prog_14_method_67_code 51 = .ok (.iload 4, 2) := by decide +kernel
theorem d_Md_nextOf_53 : decode prog_14_method_67_code 53 = .ok (.iaload, 1) := by decide +kernel
theorem d_Md_nextOf_54 : decode prog_14_method_67_code 54 = .ok (.laload, 1) := by decide +kernel
theorem d_Md_nextOf_55 : decode prog_14_method_67_code 55 = .ok (.lstore 5, 2) := by decide +kernel
theorem d_Md_nextOf_57 : decode prog_14_method_67_code 57 = .ok (.iconst 0, 1) := by decide +kernel
theorem d_Md_nextOf_58 : decode prog_14_method_67_code 58 = .ok (.istore 7, 2) := by decide +kernel
theorem d_Md_nextOf_60 : decode prog_14_method_67_code 60 = .ok (.iload 7, 2) := by decide +kernel
theorem d_Md_nextOf_62 : decode prog_14_method_67_code 62 = .ok (.aload_n 0, 1) := by decide +kernel
theorem d_Md_nextOf_63 : decode prog_14_method_67_code 63 = .ok (.invokevirtual 306, 3) := by decide +kernel
theorem d_Md_nextOf_66 : decode prog_14_method_67_code 66 = .ok (.if_icmp .ge 63, 3) := by decide +kernel
theorem d_Md_nextOf_69 : decode prog_14_method_67_code 69 = .ok (.aload_n 0, 1) := by decide +kernel
theorem d_Md_nextOf_70 : decode prog_14_method_67_code 70 = .ok (.getfield 122, 3) := by decide +kernel
theorem d_Md_nextOf_73 : decode prog_14_method_67_code 73 = .ok (.iload 7, 2) := by decide +kernel
theorem d_Md_nextOf_75 : decode prog_14_method_67_code 75 = .ok (.dup2, 1) := by decide +kernel
theorem d_Md_nextOf_76 : decode prog_14_method_67_code 76 = .ok (.iaload, 1) := by decide +kernel
theorem d_Md_nextOf_77 : decode prog_14_method_67_code 77 = .ok (.lload 5, 2) := by decide +kernel
theorem d_Md_nextOf_79 : decode prog_14_method_67_code 79 = .ok (.iload 7, 2) := by decide +kernel
theorem d_Md_nextOf_81 : decode prog_14_method_67_code 81 = .ok (.lshr, 1) := by decide +kernel
theorem d_Md_nextOf_82 : decode prog_14_method_67_code 82 = .ok (.lconst 1, 1) := by decide +kernel
theorem d_Md_nextOf_83 : decode prog_14_method_67_code 83 = .ok (.land, 1) := by decide +kernel
theorem d_Md_nextOf_84 : decode prog_14_method_67_code 84 = .ok (.l2i, 1) := by decide +kernel
theorem d_Md_nextOf_85 : decode prog_14_method_67_code 85 = .ok (.iadd, 1) := by decide +kernel
theorem d_Md_nextOf_86 : decode prog_14_method_67_code 86 = .ok (.iastore, 1) := by decide +kernel
theorem d_Md_nextOf_87 : decode prog_14_method_67_code 87 = .ok (.aload_n 0, 1) := by decide +kernel
theorem d_Md_nextOf_88 : decode prog_14_method_67_code 88 = .ok (.getfield 125, 3) := by decide +kernel
theorem d_Md_nextOf_91 : decode prog_14_method_67_code 91 = .ok (.iload 7, 2) := by decide +kernel
theorem d_Md_nextOf_93 : decode prog_14_method_67_code 93 = .ok (.dup2, 1) := by decide +kernel
theorem d_Md_nextOf_94 : decode prog_14_method_67_code 94 = .ok (.iaload, 1) := by decide +kernel
theorem d_Md_nextOf_95 : decode prog_14_method_67_code 95 = .ok (.lload 5, 2) := by decide +kernel
theorem d_Md_nextOf_97 : decode prog_14_method_67_code 97 = .ok (.iload 7, 2) := by decide +kernel
theorem d_Md_nextOf_99 : decode prog_14_method_67_code 99 = .ok (.invokestatic 357, 3) := by decide +kernel
theorem d_Md_nextOf_102 : decode prog_14_method_67_code 102 = .ok (.ifCond .eq 18, 3) := by decide +kernel
theorem d_Md_nextOf_105 : decode prog_14_method_67_code 105 = .ok (.aload_n 0, 1) := by decide +kernel
theorem d_Md_nextOf_106 : decode prog_14_method_67_code 106 = .ok (.getfield 85, 3) := by decide +kernel
theorem d_Md_nextOf_109 : decode prog_14_method_67_code 109 = .ok (.aload_n 0, 1) := by decide +kernel
theorem d_Md_nextOf_110 : decode prog_14_method_67_code 110 = .ok (.getfield 119, 3) := by decide +kernel
theorem d_Md_nextOf_113 : decode prog_14_method_67_code 113 = .ok (.iload 4, 2) := by decide +kernel
theorem d_Md_nextOf_115 : decode prog_14_method_67_code 115 = .ok (.iaload, 1) := by decide +kernel
theorem d_Md_nextOf_116 : decode prog_14_method_67_code 116 = .ok (.iaload, 1) := by decide +kernel
theorem d_Md_nextOf_117 : decode prog_14_method_67_code 117 = .ok (.goto 4, 3) := by decide +kernel
theorem d_Md_nextOf_120 : decode prog_14_method_67_code 120 = .ok (.iconst 0, 1) := by decide +kernel
theorem d_Md_nextOf_121 : decode prog_14_method_67_code 121 = .ok (.iadd, 1) := by decide +kernel
theorem d_Md_nextOf_122 : decode prog_14_method_67_code 122 = .ok (.iastore, 1) := by decide +kernel
theorem d_Md_nextOf_123 : decode prog_14_method_67_code 123 = .ok (.iinc 7 1, 3) := by decide +kernel
theorem d_Md_nextOf_126 : decode prog_14_method_67_code 126 = .ok (.goto (-66), 3) := by decide +kernel
theorem d_Md_nextOf_129 : decode prog_14_method_67_code 129 = .ok (.iinc 4 1, 3) := by decide +kernel
theorem d_Md_nextOf_132 : decode prog_14_method_67_code 132 = .ok (.goto (-95), 3) := by decide +kernel
theorem d_Md_nextOf_135 : decode prog_14_method_67_code 135 = .ok (.iconst (-1), 1) := by decide +kernel
theorem d_Md_nextOf_136 : decode prog_14_method_67_code 136 = .ok (.istore 4, 2) := by decide +kernel
theorem d_Md_nextOf_138 : decode prog_14_method_67_code 138 = .ok (.iconst 0, 1) := by decide +kernel
theorem d_Md_nextOf_139 : decode prog_14_method_67_code 139 = .ok (.istore 5, 2) := by decide +kernel
theorem d_Md_nextOf_141 : decode prog_14_method_67_code 141 = .ok (.iload 5, 2) := by decide +kernel
theorem d_Md_nextOf_143 : decode prog_14_method_67_code 143 = .ok (.aload_n 0, 1) := by decide +kernel
theorem d_Md_nextOf_144 : decode prog_14_method_67_code 144 = .ok (.invokevirtual 306, 3) := by decide +kernel
theorem d_Md_nextOf_147 : decode prog_14_method_67_code 147 = .ok (.if_icmp .ge 68, 3) := by decide +kernel
theorem d_Md_nextOf_150 : decode prog_14_method_67_code 150 = .ok (.aload_n 0, 1) := by decide +kernel
theorem d_Md_nextOf_151 : decode prog_14_method_67_code 151 = .ok (.getfield 122, 3) := by decide +kernel
theorem d_Md_nextOf_154 : decode prog_14_method_67_code 154 = .ok (.iload 5, 2) := by decide +kernel
theorem d_Md_nextOf_156 : decode prog_14_method_67_code 156 = .ok (.iaload, 1) := by decide +kernel
theorem d_Md_nextOf_157 : decode prog_14_method_67_code 157 = .ok (.ifCond .le 20, 3) := by decide +kernel
theorem d_Md_nextOf_160 : decode prog_14_method_67_code 160 = .ok (.aload_n 0, 1) := by decide +kernel
theorem d_Md_nextOf_161 : decode prog_14_method_67_code 161 = .ok (.getfield 122, 3) := by decide +kernel
theorem d_Md_nextOf_164 : decode prog_14_method_67_code 164 = .ok (.iload 5, 2) := by decide +kernel
theorem d_Md_nextOf_166 : decode prog_14_method_67_code 166 = .ok (.iaload, 1) := by decide +kernel
theorem d_Md_nextOf_167 : decode prog_14_method_67_code 167 = .ok (.iload_n 3, 1) := by decide +kernel
theorem d_Md_nextOf_168 : decode prog_14_method_67_code 168 = .ok (.iload_n 2, 1) := by decide +kernel
theorem d_Md_nextOf_169 : decode prog_14_method_67_code 169 = .ok (.isub, 1) := by decide +kernel
theorem d_Md_nextOf_170 : decode prog_14_method_67_code 170 = .ok (.if_icmp .ge 7, 3) := by decide +kernel
theorem d_Md_nextOf_173 : decode prog_14_method_67_code 173 = .ok (.iconst 1, 1) := by decide +kernel
theorem d_Md_nextOf_174 : decode prog_14_method_67_code 174 = .ok (.goto 4, 3) := by decide +kernel
theorem d_Md_nextOf_177 : decode prog_14_method_67_code 177 = .ok (.iconst 0, 1) := by decide +kernel
theorem d_Md_nextOf_178 : decode prog_14_method_67_code 178 = .ok (.istore 6, 2) := by decide +kernel
theorem d_Md_nextOf_180 : decode prog_14_method_67_code 180 = .ok (.iload 6, 2) := by decide +kernel
theorem d_Md_nextOf_182 : decode prog_14_method_67_code 182 = .ok (.ifCond .eq 23, 3) := by decide +kernel
theorem d_Md_nextOf_185 : decode prog_14_method_67_code 185 = .ok (.aload_n 0, 1) := by decide +kernel
theorem d_Md_nextOf_186 : decode prog_14_method_67_code 186 = .ok (.iload_n 1, 1) := by decide +kernel
theorem d_Md_nextOf_187 : decode prog_14_method_67_code 187 = .ok (.iload 5, 2) := by decide +kernel
theorem d_Md_nextOf_189 : decode prog_14_method_67_code 189 = .ok (.iload 4, 2) := by decide +kernel
theorem d_Md_nextOf_191 : decode prog_14_method_67_code 191 = .ok (.iload_n 3, 1) := by decide +kernel
theorem d_Md_nextOf_192 : decode prog_14_method_67_code 192 = .ok (.iload_n 2, 1) := by decide +kernel
theorem d_Md_nextOf_193 : decode prog_14_method_67_code 193 = .ok (.isub, 1) := by decide +kernel
theorem d_Md_nextOf_194 : decode prog_14_method_67_code 194 = .ok (.invokevirtual 403, 3) := by decide +kernel
theorem d_Md_nextOf_197 : decode prog_14_method_67_code 197 = .ok (.ifCond .eq 8, 3) := by decide +kernel
theorem d_Md_nextOf_200 : decode prog_14_method_67_code 200 = .ok (.iload 5, 2) := by decide +kernel
theorem d_Md_nextOf_202 : decode prog_14_method_67_code 202 = .ok (.goto 5, 3) := by decide +kernel
theorem d_Md_nextOf_205 : decode prog_14_method_67_code 205 = .ok (.iload 4, 2) := by decide +kernel
theorem d_Md_nextOf_207 : decode prog_14_method_67_code 207 = .ok (.istore 4, 2) := by decide +kernel
theorem d_Md_nextOf_209 : decode prog_14_method_67_code 209 = .ok (.iinc 5 1, 3) := by decide +kernel
theorem d_Md_nextOf_212 : decode prog_14_method_67_code 212 = .ok (.goto (-71), 3) := by decide +kernel
theorem d_Md_nextOf_215 : decode prog_14_method_67_code 215 = .ok (.iload 4, 2) := by decide +kernel
theorem d_Md_nextOf_217 : decode prog_14_method_67_code 217 = .ok (.ireturn, 1) := by decide +kernel
abbrev S_Md_nextOf : Type := Nat × Nat × Int32 × Int32 × Int32 × Int32 × Int32 × Int64 × Int32 × Int32 × Nat × Int32 × Int32 × Int32 × AM
noncomputable def T_Md_nextOf_0 (v0R : Nat) (v1I : Int32) (v2I : Int32) (v3I : Int32) (σ : AM) : S_Md_nextOf ⊕ Option (Int32 × AM) :=
  .inl (1, v0R, v1I, v2I, v3I, (0 : Int32), 0, 0, 0, 0, 0, 0, 0, 0, σ)
noncomputable def T_Md_nextOf_1 (v0R : Nat) (v1I : Int32) (v2I : Int32) (v3I : Int32) (v4I : Int32) (σ : AM) : S_Md_nextOf ⊕ Option (Int32 × AM) :=
  gdT (okO σ v0R 12) <| bndT (M_Md_sets v0R σ) fun r1 σ2 => if v4I < r1 then (gdT (okO σ2 v0R 12) <| gdT (okO σ2 (aR σ2 v0R 52) 101) <| gdT (inB v4I (aN σ2 (aR σ2 v0R 52))) <| letT (sI σ2 (aR σ2 v0R 52) v4I.toNatClampNeg (0 : Int32)) fun σ7 => gdT (okO σ7 (aR σ7 v0R 53) 101) <| gdT (inB v4I (aN σ7 (aR σ7 v0R 53))) <| letT (sI σ7 (aR σ7 v0R 53) v4I.toNatClampNeg (0 : Int32)) fun σ11 => .inl (1, v0R, v1I, v2I, v3I, v4I + (1 : Int32), 0, 0, 0, 0, 0, 0, 0, 0, σ11)) else (.inl (2, v0R, v1I, v2I, v3I, v2I, 0, 0, 0, 0, 0, 0, 0, 0, σ2))
noncomputable def T_Md_nextOf_2 (v0R : Nat) (v1I : Int32) (v2I : Int32) (v3I : Int32) (v4I : Int32) (σ : AM) : S_Md_nextOf ⊕ Option (Int32 × AM) :=
  if v4I < v3I then (gdT (okO σ v0R 12) <| gdT (okO σ (aR σ v0R 30) 102) <| gdT (okO σ (aR σ v0R 48) 101) <| gdT (inB v4I (aN σ (aR σ v0R 48))) <| gdT (inB (aI σ (aR σ v0R 48) v4I.toNatClampNeg) (aN σ (aR σ v0R 30))) <| letT (aL σ (aR σ v0R 30) (aI σ (aR σ v0R 48) v4I.toNatClampNeg).toNatClampNeg) fun x6 => .inl (3, v0R, v1I, v2I, v3I, v4I, 0, x6, (0 : Int32), 0, 0, 0, 0, 0, σ)) else (.inl (5, v0R, v1I, v2I, v3I, ((-1) : Int32), (0 : Int32), 0, 0, 0, 0, 0, 0, 0, σ))
noncomputable def T_Md_nextOf_3 (v0R : Nat) (v1I : Int32) (v2I : Int32) (v3I : Int32) (v4I : Int32) (v5J : Int64) (v7I : Int32) (σ : AM) : S_Md_nextOf ⊕ Option (Int32 × AM) :=
  gdT (okO σ v0R 12) <| bndT (M_Md_sets v0R σ) fun r1 σ2 => if v7I < r1 then (gdT (okO σ2 v0R 12) <| gdT (okO σ2 (aR σ2 v0R 52) 101) <| gdT (inB v7I (aN σ2 (aR σ2 v0R 52))) <| letT (sI σ2 (aR σ2 v0R 52) v7I.toNatClampNeg ((aI σ2 (aR σ2 v0R 52) v7I.toNatClampNeg) + (((v5J >>> (v7I.toInt64 &&& 63)) &&& (1 : Int64)).toInt32))) fun σ7 => gdT (okO σ7 (aR σ7 v0R 53) 101) <| gdT (inB v7I (aN σ7 (aR σ7 v0R 53))) <| bndT (M_Md_doesRing v5J v7I σ7) fun r11 σ12 => if r11 = 0 then (.inl (4, v0R, v1I, v2I, v3I, v4I, 0, v5J, v7I, 0, aR σ7 v0R 53, v7I, aI σ7 (aR σ7 v0R 53) v7I.toNatClampNeg, (0 : Int32), σ12)) else (gdT (okO σ12 v0R 12) <| gdT (okO σ12 (aR σ12 v0R 31) 101) <| gdT (okO σ12 (aR σ12 v0R 48) 101) <| gdT (inB v4I (aN σ12 (aR σ12 v0R 48))) <| gdT (inB (aI σ12 (aR σ12 v0R 48) v4I.toNatClampNeg) (aN σ12 (aR σ12 v0R 31))) <| .inl (4, v0R, v1I, v2I, v3I, v4I, 0, v5J, v7I, 0, aR σ7 v0R 53, v7I, aI σ7 (aR σ7 v0R 53) v7I.toNatClampNeg, aI σ12 (aR σ12 v0R 31) (aI σ12 (aR σ12 v0R 48) v4I.toNatClampNeg).toNatClampNeg, σ12))) else (.inl (2, v0R, v1I, v2I, v3I, v4I + (1 : Int32), 0, 0, 0, 0, 0, 0, 0, 0, σ2))
noncomputable def T_Md_nextOf_4 (v0R : Nat) (v1I : Int32) (v2I : Int32) (v3I : Int32) (v4I : Int32) (v5J : Int64) (v7I : Int32) (s0R : Nat) (s1I : Int32) (s2I : Int32) (s3I : Int32) (σ : AM) : S_Md_nextOf ⊕ Option (Int32 × AM) :=
  gdT (okO σ s0R 101) <| gdT (inB s1I (aN σ s0R)) <| letT (sI σ s0R s1I.toNatClampNeg (s2I + s3I)) fun σ3 => .inl (3, v0R, v1I, v2I, v3I, v4I, 0, v5J, v7I + (1 : Int32), 0, 0, 0, 0, 0, σ3)
noncomputable def T_Md_nextOf_5 (v0R : Nat) (v1I : Int32) (v2I : Int32) (v3I : Int32) (v4I : Int32) (v5I : Int32) (σ : AM) : S_Md_nextOf ⊕ Option (Int32 × AM) :=
  gdT (okO σ v0R 12) <| bndT (M_Md_sets v0R σ) fun r1 σ2 => if v5I < r1 then (gdT (okO σ2 v0R 12) <| gdT (okO σ2 (aR σ2 v0R 52) 101) <| gdT (inB v5I (aN σ2 (aR σ2 v0R 52))) <| if 0 < (aI σ2 (aR σ2 v0R 52) v5I.toNatClampNeg) then (if (aI σ2 (aR σ2 v0R 52) v5I.toNatClampNeg) < (v3I - v2I) then (.inl (7, v0R, v1I, v2I, v3I, v4I, v5I, 0, 0, (1 : Int32), 0, 0, 0, 0, σ2)) else (.inl (6, v0R, v1I, v2I, v3I, v4I, v5I, 0, 0, 0, 0, 0, 0, 0, σ2))) else (.inl (6, v0R, v1I, v2I, v3I, v4I, v5I, 0, 0, 0, 0, 0, 0, 0, σ2))) else (.inr (some (v4I, σ2)))
noncomputable def T_Md_nextOf_6 (v0R : Nat) (v1I : Int32) (v2I : Int32) (v3I : Int32) (v4I : Int32) (v5I : Int32) (σ : AM) : S_Md_nextOf ⊕ Option (Int32 × AM) :=
  .inl (7, v0R, v1I, v2I, v3I, v4I, v5I, 0, 0, (0 : Int32), 0, 0, 0, 0, σ)
noncomputable def T_Md_nextOf_7 (v0R : Nat) (v1I : Int32) (v2I : Int32) (v3I : Int32) (v4I : Int32) (v5I : Int32) (s0I : Int32) (σ : AM) : S_Md_nextOf ⊕ Option (Int32 × AM) :=
  if s0I = 0 then (.inl (8, v0R, v1I, v2I, v3I, v4I, v5I, 0, 0, 0, 0, 0, 0, 0, σ)) else (gdT (okO σ v0R 12) <| bndT (M_Md_isBetter v0R v1I v5I v4I (v3I - v2I) σ) fun r1 σ2 => if r1 = 0 then (.inl (8, v0R, v1I, v2I, v3I, v4I, v5I, 0, 0, 0, 0, 0, 0, 0, σ2)) else (.inl (9, v0R, v1I, v2I, v3I, 0, v5I, 0, 0, v5I, 0, 0, 0, 0, σ2)))
noncomputable def T_Md_nextOf_8 (v0R : Nat) (v1I : Int32) (v2I : Int32) (v3I : Int32) (v4I : Int32) (v5I : Int32) (σ : AM) : S_Md_nextOf ⊕ Option (Int32 × AM) :=
  .inl (9, v0R, v1I, v2I, v3I, 0, v5I, 0, 0, v4I, 0, 0, 0, 0, σ)
noncomputable def T_Md_nextOf_9 (v0R : Nat) (v1I : Int32) (v2I : Int32) (v3I : Int32) (v5I : Int32) (s0I : Int32) (σ : AM) : S_Md_nextOf ⊕ Option (Int32 × AM) :=
  .inl (5, v0R, v1I, v2I, v3I, s0I, v5I + (1 : Int32), 0, 0, 0, 0, 0, 0, 0, σ)
noncomputable def F_Md_nextOf : S_Md_nextOf → S_Md_nextOf ⊕ Option (Int32 × AM) := fun s => match s.1 with
  | 0 => T_Md_nextOf_0 (s.2.1) (s.2.2.1) (s.2.2.2.1) (s.2.2.2.2.1) (s.2.2.2.2.2.2.2.2.2.2.2.2.2.2)
  | 1 => T_Md_nextOf_1 (s.2.1) (s.2.2.1) (s.2.2.2.1) (s.2.2.2.2.1) (s.2.2.2.2.2.1) (s.2.2.2.2.2.2.2.2.2.2.2.2.2.2)
  | 2 => T_Md_nextOf_2 (s.2.1) (s.2.2.1) (s.2.2.2.1) (s.2.2.2.2.1) (s.2.2.2.2.2.1) (s.2.2.2.2.2.2.2.2.2.2.2.2.2.2)
  | 3 => T_Md_nextOf_3 (s.2.1) (s.2.2.1) (s.2.2.2.1) (s.2.2.2.2.1) (s.2.2.2.2.2.1) (s.2.2.2.2.2.2.2.1) (s.2.2.2.2.2.2.2.2.1) (s.2.2.2.2.2.2.2.2.2.2.2.2.2.2)
  | 4 => T_Md_nextOf_4 (s.2.1) (s.2.2.1) (s.2.2.2.1) (s.2.2.2.2.1) (s.2.2.2.2.2.1) (s.2.2.2.2.2.2.2.1) (s.2.2.2.2.2.2.2.2.1) (s.2.2.2.2.2.2.2.2.2.2.1) (s.2.2.2.2.2.2.2.2.2.2.2.1) (s.2.2.2.2.2.2.2.2.2.2.2.2.1) (s.2.2.2.2.2.2.2.2.2.2.2.2.2.1) (s.2.2.2.2.2.2.2.2.2.2.2.2.2.2)
  | 5 => T_Md_nextOf_5 (s.2.1) (s.2.2.1) (s.2.2.2.1) (s.2.2.2.2.1) (s.2.2.2.2.2.1) (s.2.2.2.2.2.2.1) (s.2.2.2.2.2.2.2.2.2.2.2.2.2.2)
  | 6 => T_Md_nextOf_6 (s.2.1) (s.2.2.1) (s.2.2.2.1) (s.2.2.2.2.1) (s.2.2.2.2.2.1) (s.2.2.2.2.2.2.1) (s.2.2.2.2.2.2.2.2.2.2.2.2.2.2)
  | 7 => T_Md_nextOf_7 (s.2.1) (s.2.2.1) (s.2.2.2.1) (s.2.2.2.2.1) (s.2.2.2.2.2.1) (s.2.2.2.2.2.2.1) (s.2.2.2.2.2.2.2.2.2.1) (s.2.2.2.2.2.2.2.2.2.2.2.2.2.2)
  | 8 => T_Md_nextOf_8 (s.2.1) (s.2.2.1) (s.2.2.2.1) (s.2.2.2.2.1) (s.2.2.2.2.2.1) (s.2.2.2.2.2.2.1) (s.2.2.2.2.2.2.2.2.2.2.2.2.2.2)
  | _ => T_Md_nextOf_9 (s.2.1) (s.2.2.1) (s.2.2.2.1) (s.2.2.2.2.1) (s.2.2.2.2.2.2.1) (s.2.2.2.2.2.2.2.2.2.1) (s.2.2.2.2.2.2.2.2.2.2.2.2.2.2)
noncomputable def L_Md_nextOf_0 (v0R : Nat) (v1I : Int32) (v2I : Int32) (v3I : Int32) (σ : AM) : Option (Int32 × AM) := lp F_Md_nextOf (0, v0R, v1I, v2I, v3I, 0, 0, 0, 0, 0, 0, 0, 0, 0, σ)
noncomputable def L_Md_nextOf_1 (v0R : Nat) (v1I : Int32) (v2I : Int32) (v3I : Int32) (v4I : Int32) (σ : AM) : Option (Int32 × AM) := lp F_Md_nextOf (1, v0R, v1I, v2I, v3I, v4I, 0, 0, 0, 0, 0, 0, 0, 0, σ)
noncomputable def L_Md_nextOf_2 (v0R : Nat) (v1I : Int32) (v2I : Int32) (v3I : Int32) (v4I : Int32) (σ : AM) : Option (Int32 × AM) := lp F_Md_nextOf (2, v0R, v1I, v2I, v3I, v4I, 0, 0, 0, 0, 0, 0, 0, 0, σ)
noncomputable def L_Md_nextOf_3 (v0R : Nat) (v1I : Int32) (v2I : Int32) (v3I : Int32) (v4I : Int32) (v5J : Int64) (v7I : Int32) (σ : AM) : Option (Int32 × AM) := lp F_Md_nextOf (3, v0R, v1I, v2I, v3I, v4I, 0, v5J, v7I, 0, 0, 0, 0, 0, σ)
noncomputable def L_Md_nextOf_4 (v0R : Nat) (v1I : Int32) (v2I : Int32) (v3I : Int32) (v4I : Int32) (v5J : Int64) (v7I : Int32) (s0R : Nat) (s1I : Int32) (s2I : Int32) (s3I : Int32) (σ : AM) : Option (Int32 × AM) := lp F_Md_nextOf (4, v0R, v1I, v2I, v3I, v4I, 0, v5J, v7I, 0, s0R, s1I, s2I, s3I, σ)
noncomputable def L_Md_nextOf_5 (v0R : Nat) (v1I : Int32) (v2I : Int32) (v3I : Int32) (v4I : Int32) (v5I : Int32) (σ : AM) : Option (Int32 × AM) := lp F_Md_nextOf (5, v0R, v1I, v2I, v3I, v4I, v5I, 0, 0, 0, 0, 0, 0, 0, σ)
noncomputable def L_Md_nextOf_6 (v0R : Nat) (v1I : Int32) (v2I : Int32) (v3I : Int32) (v4I : Int32) (v5I : Int32) (σ : AM) : Option (Int32 × AM) := lp F_Md_nextOf (6, v0R, v1I, v2I, v3I, v4I, v5I, 0, 0, 0, 0, 0, 0, 0, σ)
noncomputable def L_Md_nextOf_7 (v0R : Nat) (v1I : Int32) (v2I : Int32) (v3I : Int32) (v4I : Int32) (v5I : Int32) (s0I : Int32) (σ : AM) : Option (Int32 × AM) := lp F_Md_nextOf (7, v0R, v1I, v2I, v3I, v4I, v5I, 0, 0, s0I, 0, 0, 0, 0, σ)
noncomputable def L_Md_nextOf_8 (v0R : Nat) (v1I : Int32) (v2I : Int32) (v3I : Int32) (v4I : Int32) (v5I : Int32) (σ : AM) : Option (Int32 × AM) := lp F_Md_nextOf (8, v0R, v1I, v2I, v3I, v4I, v5I, 0, 0, 0, 0, 0, 0, 0, σ)
noncomputable def L_Md_nextOf_9 (v0R : Nat) (v1I : Int32) (v2I : Int32) (v3I : Int32) (v5I : Int32) (s0I : Int32) (σ : AM) : Option (Int32 × AM) := lp F_Md_nextOf (9, v0R, v1I, v2I, v3I, 0, v5I, 0, 0, s0I, 0, 0, 0, 0, σ)
set_option maxRecDepth 20000 in
theorem E_Md_nextOf_0 (v0R : Nat) (v1I : Int32) (v2I : Int32) (v3I : Int32) (σ : AM) : L_Md_nextOf_0 v0R v1I v2I v3I σ = (L_Md_nextOf_1 v0R v1I v2I v3I ((0 : Int32)) σ) := by
  unfold L_Md_nextOf_0
  rw [lp_eq]
  show lpK (lp F_Md_nextOf) (T_Md_nextOf_0 v0R v1I v2I v3I σ) = _
  unfold T_Md_nextOf_0
  simp only [lpK_ite, lq_inl, lq_inr, lpK_bnd, lpK_gd, lq_let]
  try rfl
set_option maxRecDepth 20000 in
theorem E_Md_nextOf_1 (v0R : Nat) (v1I : Int32) (v2I : Int32) (v3I : Int32) (v4I : Int32) (σ : AM) : L_Md_nextOf_1 v0R v1I v2I v3I v4I σ = (gd (okO σ v0R 12) <| bnd (M_Md_sets v0R σ) fun r1 σ2 => if v4I < r1 then (gd (okO σ2 v0R 12) <| gd (okO σ2 (aR σ2 v0R 52) 101) <| gd (inB v4I (aN σ2 (aR σ2 v0R 52))) <| letT (sI σ2 (aR σ2 v0R 52) v4I.toNatClampNeg (0 : Int32)) fun σ7 => gd (okO σ7 (aR σ7 v0R 53) 101) <| gd (inB v4I (aN σ7 (aR σ7 v0R 53))) <| letT (sI σ7 (aR σ7 v0R 53) v4I.toNatClampNeg (0 : Int32)) fun σ11 => L_Md_nextOf_1 v0R v1I v2I v3I (v4I + (1 : Int32)) σ11) else (L_Md_nextOf_2 v0R v1I v2I v3I v2I σ2)) := by
  unfold L_Md_nextOf_1
  rw [lp_eq]
  show lpK (lp F_Md_nextOf) (T_Md_nextOf_1 v0R v1I v2I v3I v4I σ) = _
  unfold T_Md_nextOf_1
  simp only [lpK_ite, lq_inl, lq_inr, lpK_bnd, lpK_gd, lq_let]
  try rfl
set_option maxRecDepth 20000 in
theorem E_Md_nextOf_2 (v0R : Nat) (v1I : Int32) (v2I : Int32) (v3I : Int32) (v4I : Int32) (σ : AM) : L_Md_nextOf_2 v0R v1I v2I v3I v4I σ = (if v4I < v3I then (gd (okO σ v0R 12) <| gd (okO σ (aR σ v0R 30) 102) <| gd (okO σ (aR σ v0R 48) 101) <| gd (inB v4I (aN σ (aR σ v0R 48))) <| gd (inB (aI σ (aR σ v0R 48) v4I.toNatClampNeg) (aN σ (aR σ v0R 30))) <| letT (aL σ (aR σ v0R 30) (aI σ (aR σ v0R 48) v4I.toNatClampNeg).toNatClampNeg) fun x6 => L_Md_nextOf_3 v0R v1I v2I v3I v4I x6 ((0 : Int32)) σ) else (L_Md_nextOf_5 v0R v1I v2I v3I (((-1) : Int32)) ((0 : Int32)) σ)) := by
  unfold L_Md_nextOf_2
  rw [lp_eq]
  show lpK (lp F_Md_nextOf) (T_Md_nextOf_2 v0R v1I v2I v3I v4I σ) = _
  unfold T_Md_nextOf_2
  simp only [lpK_ite, lq_inl, lq_inr, lpK_bnd, lpK_gd, lq_let]
  try rfl
set_option maxRecDepth 20000 in
theorem E_Md_nextOf_3 (v0R : Nat) (v1I : Int32) (v2I : Int32) (v3I : Int32) (v4I : Int32) (v5J : Int64) (v7I : Int32) (σ : AM) : L_Md_nextOf_3 v0R v1I v2I v3I v4I v5J v7I σ = (gd (okO σ v0R 12) <| bnd (M_Md_sets v0R σ) fun r1 σ2 => if v7I < r1 then (gd (okO σ2 v0R 12) <| gd (okO σ2 (aR σ2 v0R 52) 101) <| gd (inB v7I (aN σ2 (aR σ2 v0R 52))) <| letT (sI σ2 (aR σ2 v0R 52) v7I.toNatClampNeg ((aI σ2 (aR σ2 v0R 52) v7I.toNatClampNeg) + (((v5J >>> (v7I.toInt64 &&& 63)) &&& (1 : Int64)).toInt32))) fun σ7 => gd (okO σ7 (aR σ7 v0R 53) 101) <| gd (inB v7I (aN σ7 (aR σ7 v0R 53))) <| bnd (M_Md_doesRing v5J v7I σ7) fun r11 σ12 => if r11 = 0 then (L_Md_nextOf_4 v0R v1I v2I v3I v4I v5J v7I (aR σ7 v0R 53) v7I (aI σ7 (aR σ7 v0R 53) v7I.toNatClampNeg) ((0 : Int32)) σ12) else (gd (okO σ12 v0R 12) <| gd (okO σ12 (aR σ12 v0R 31) 101) <| gd (okO σ12 (aR σ12 v0R 48) 101) <| gd (inB v4I (aN σ12 (aR σ12 v0R 48))) <| gd (inB (aI σ12 (aR σ12 v0R 48) v4I.toNatClampNeg) (aN σ12 (aR σ12 v0R 31))) <| L_Md_nextOf_4 v0R v1I v2I v3I v4I v5J v7I (aR σ7 v0R 53) v7I (aI σ7 (aR σ7 v0R 53) v7I.toNatClampNeg) (aI σ12 (aR σ12 v0R 31) (aI σ12 (aR σ12 v0R 48) v4I.toNatClampNeg).toNatClampNeg) σ12)) else (L_Md_nextOf_2 v0R v1I v2I v3I (v4I + (1 : Int32)) σ2)) := by
  unfold L_Md_nextOf_3
  rw [lp_eq]
  show lpK (lp F_Md_nextOf) (T_Md_nextOf_3 v0R v1I v2I v3I v4I v5J v7I σ) = _
  unfold T_Md_nextOf_3
  simp only [lpK_ite, lq_inl, lq_inr, lpK_bnd, lpK_gd, lq_let]
  try rfl
set_option maxRecDepth 20000 in
theorem E_Md_nextOf_4 (v0R : Nat) (v1I : Int32) (v2I : Int32) (v3I : Int32) (v4I : Int32) (v5J : Int64) (v7I : Int32) (s0R : Nat) (s1I : Int32) (s2I : Int32) (s3I : Int32) (σ : AM) : L_Md_nextOf_4 v0R v1I v2I v3I v4I v5J v7I s0R s1I s2I s3I σ = (gd (okO σ s0R 101) <| gd (inB s1I (aN σ s0R)) <| letT (sI σ s0R s1I.toNatClampNeg (s2I + s3I)) fun σ3 => L_Md_nextOf_3 v0R v1I v2I v3I v4I v5J (v7I + (1 : Int32)) σ3) := by
  unfold L_Md_nextOf_4
  rw [lp_eq]
  show lpK (lp F_Md_nextOf) (T_Md_nextOf_4 v0R v1I v2I v3I v4I v5J v7I s0R s1I s2I s3I σ) = _
  unfold T_Md_nextOf_4
  simp only [lpK_ite, lq_inl, lq_inr, lpK_bnd, lpK_gd, lq_let]
  try rfl
set_option maxRecDepth 20000 in
theorem E_Md_nextOf_5 (v0R : Nat) (v1I : Int32) (v2I : Int32) (v3I : Int32) (v4I : Int32) (v5I : Int32) (σ : AM) : L_Md_nextOf_5 v0R v1I v2I v3I v4I v5I σ = (gd (okO σ v0R 12) <| bnd (M_Md_sets v0R σ) fun r1 σ2 => if v5I < r1 then (gd (okO σ2 v0R 12) <| gd (okO σ2 (aR σ2 v0R 52) 101) <| gd (inB v5I (aN σ2 (aR σ2 v0R 52))) <| if 0 < (aI σ2 (aR σ2 v0R 52) v5I.toNatClampNeg) then (if (aI σ2 (aR σ2 v0R 52) v5I.toNatClampNeg) < (v3I - v2I) then (L_Md_nextOf_7 v0R v1I v2I v3I v4I v5I ((1 : Int32)) σ2) else (L_Md_nextOf_6 v0R v1I v2I v3I v4I v5I σ2)) else (L_Md_nextOf_6 v0R v1I v2I v3I v4I v5I σ2)) else ((some (v4I, σ2)))) := by
  unfold L_Md_nextOf_5
  rw [lp_eq]
  show lpK (lp F_Md_nextOf) (T_Md_nextOf_5 v0R v1I v2I v3I v4I v5I σ) = _
  unfold T_Md_nextOf_5
  simp only [lpK_ite, lq_inl, lq_inr, lpK_bnd, lpK_gd, lq_let]
  try rfl
set_option maxRecDepth 20000 in
theorem E_Md_nextOf_6 (v0R : Nat) (v1I : Int32) (v2I : Int32) (v3I : Int32) (v4I : Int32) (v5I : Int32) (σ : AM) : L_Md_nextOf_6 v0R v1I v2I v3I v4I v5I σ = (L_Md_nextOf_7 v0R v1I v2I v3I v4I v5I ((0 : Int32)) σ) := by
  unfold L_Md_nextOf_6
  rw [lp_eq]
  show lpK (lp F_Md_nextOf) (T_Md_nextOf_6 v0R v1I v2I v3I v4I v5I σ) = _
  unfold T_Md_nextOf_6
  simp only [lpK_ite, lq_inl, lq_inr, lpK_bnd, lpK_gd, lq_let]
  try rfl
set_option maxRecDepth 20000 in
theorem E_Md_nextOf_7 (v0R : Nat) (v1I : Int32) (v2I : Int32) (v3I : Int32) (v4I : Int32) (v5I : Int32) (s0I : Int32) (σ : AM) : L_Md_nextOf_7 v0R v1I v2I v3I v4I v5I s0I σ = (if s0I = 0 then (L_Md_nextOf_8 v0R v1I v2I v3I v4I v5I σ) else (gd (okO σ v0R 12) <| bnd (M_Md_isBetter v0R v1I v5I v4I (v3I - v2I) σ) fun r1 σ2 => if r1 = 0 then (L_Md_nextOf_8 v0R v1I v2I v3I v4I v5I σ2) else (L_Md_nextOf_9 v0R v1I v2I v3I v5I v5I σ2))) := by
  unfold L_Md_nextOf_7
  rw [lp_eq]
  show lpK (lp F_Md_nextOf) (T_Md_nextOf_7 v0R v1I v2I v3I v4I v5I s0I σ) = _
  unfold T_Md_nextOf_7
  simp only [lpK_ite, lq_inl, lq_inr, lpK_bnd, lpK_gd, lq_let]
  try rfl
set_option maxRecDepth 20000 in
theorem E_Md_nextOf_8 (v0R : Nat) (v1I : Int32) (v2I : Int32) (v3I : Int32) (v4I : Int32) (v5I : Int32) (σ : AM) : L_Md_nextOf_8 v0R v1I v2I v3I v4I v5I σ = (L_Md_nextOf_9 v0R v1I v2I v3I v5I v4I σ) := by
  unfold L_Md_nextOf_8
  rw [lp_eq]
  show lpK (lp F_Md_nextOf) (T_Md_nextOf_8 v0R v1I v2I v3I v4I v5I σ) = _
  unfold T_Md_nextOf_8
  simp only [lpK_ite, lq_inl, lq_inr, lpK_bnd, lpK_gd, lq_let]
  try rfl
set_option maxRecDepth 20000 in
theorem E_Md_nextOf_9 (v0R : Nat) (v1I : Int32) (v2I : Int32) (v3I : Int32) (v5I : Int32) (s0I : Int32) (σ : AM) : L_Md_nextOf_9 v0R v1I v2I v3I v5I s0I σ = (L_Md_nextOf_5 v0R v1I v2I v3I s0I (v5I + (1 : Int32)) σ) := by
  unfold L_Md_nextOf_9
  rw [lp_eq]
  show lpK (lp F_Md_nextOf) (T_Md_nextOf_9 v0R v1I v2I v3I v5I s0I σ) = _
  unfold T_Md_nextOf_9
  simp only [lpK_ite, lq_inl, lq_inr, lpK_bnd, lpK_gd, lq_let]
  try rfl
noncomputable def M_Md_nextOf (v0R : Nat) (v1I : Int32) (v2I : Int32) (v3I : Int32) (σ : AM) : Option (Int32 × AM) := mw σ (L_Md_nextOf_0 v0R v1I v2I v3I σ)
def I_Md_nextOf (G : GX) (p : Program) (l : Launch) (e : Env) (s : State) (m : MethodId) (args : Array Value) (below : List Frame) (meth : Method) (c : Code) (z0 u0 n : Nat) : Prop :=
  (∀ (v0R : Nat) (v1I : Int32) (v2I : Int32) (v3I : Int32) (σ : AM), VX (QM eI G args s below z0 u0) G p l e s m args below meth c 1 z0 u0 8 (lpn F_Md_nextOf n (0, v0R, v1I, v2I, v3I, 0, 0, 0, 0, 0, 0, 0, 0, 0, σ)) 0 [(0, .ref v0R), (1, .int v1I), (2, .int v2I), (3, .int v3I)] [] σ) ∧
  (∀ (v0R : Nat) (v1I : Int32) (v2I : Int32) (v3I : Int32) (v4I : Int32) (σ : AM), VX (QM eI G args s below z0 u0) G p l e s m args below meth c 1 z0 u0 8 (lpn F_Md_nextOf n (1, v0R, v1I, v2I, v3I, v4I, 0, 0, 0, 0, 0, 0, 0, 0, σ)) 3 [(0, .ref v0R), (1, .int v1I), (2, .int v2I), (3, .int v3I), (4, .int v4I)] [] σ) ∧
  (∀ (v0R : Nat) (v1I : Int32) (v2I : Int32) (v3I : Int32) (v4I : Int32) (σ : AM), VX (QM eI G args s below z0 u0) G p l e s m args below meth c 1 z0 u0 8 (lpn F_Md_nextOf n (2, v0R, v1I, v2I, v3I, v4I, 0, 0, 0, 0, 0, 0, 0, 0, σ)) 37 [(0, .ref v0R), (1, .int v1I), (2, .int v2I), (3, .int v3I), (4, .int v4I)] [] σ) ∧
  (∀ (v0R : Nat) (v1I : Int32) (v2I : Int32) (v3I : Int32) (v4I : Int32) (v5J : Int64) (v7I : Int32) (σ : AM), VX (QM eI G args s below z0 u0) G p l e s m args below meth c 1 z0 u0 8 (lpn F_Md_nextOf n (3, v0R, v1I, v2I, v3I, v4I, 0, v5J, v7I, 0, 0, 0, 0, 0, σ)) 60 [(0, .ref v0R), (1, .int v1I), (2, .int v2I), (3, .int v3I), (4, .int v4I), (5, .long v5J), (7, .int v7I)] [] σ) ∧
  (∀ (v0R : Nat) (v1I : Int32) (v2I : Int32) (v3I : Int32) (v4I : Int32) (v5J : Int64) (v7I : Int32) (s0R : Nat) (s1I : Int32) (s2I : Int32) (s3I : Int32) (σ : AM), VX (QM eI G args s below z0 u0) G p l e s m args below meth c 1 z0 u0 8 (lpn F_Md_nextOf n (4, v0R, v1I, v2I, v3I, v4I, 0, v5J, v7I, 0, s0R, s1I, s2I, s3I, σ)) 121 [(0, .ref v0R), (1, .int v1I), (2, .int v2I), (3, .int v3I), (4, .int v4I), (5, .long v5J), (7, .int v7I)] [.int s3I, .int s2I, .int s1I, .ref s0R] σ) ∧
  (∀ (v0R : Nat) (v1I : Int32) (v2I : Int32) (v3I : Int32) (v4I : Int32) (v5I : Int32) (σ : AM), VX (QM eI G args s below z0 u0) G p l e s m args below meth c 1 z0 u0 8 (lpn F_Md_nextOf n (5, v0R, v1I, v2I, v3I, v4I, v5I, 0, 0, 0, 0, 0, 0, 0, σ)) 141 [(0, .ref v0R), (1, .int v1I), (2, .int v2I), (3, .int v3I), (4, .int v4I), (5, .int v5I)] [] σ) ∧
  (∀ (v0R : Nat) (v1I : Int32) (v2I : Int32) (v3I : Int32) (v4I : Int32) (v5I : Int32) (σ : AM), VX (QM eI G args s below z0 u0) G p l e s m args below meth c 1 z0 u0 8 (lpn F_Md_nextOf n (6, v0R, v1I, v2I, v3I, v4I, v5I, 0, 0, 0, 0, 0, 0, 0, σ)) 177 [(0, .ref v0R), (1, .int v1I), (2, .int v2I), (3, .int v3I), (4, .int v4I), (5, .int v5I)] [] σ) ∧
  (∀ (v0R : Nat) (v1I : Int32) (v2I : Int32) (v3I : Int32) (v4I : Int32) (v5I : Int32) (s0I : Int32) (σ : AM), VX (QM eI G args s below z0 u0) G p l e s m args below meth c 1 z0 u0 8 (lpn F_Md_nextOf n (7, v0R, v1I, v2I, v3I, v4I, v5I, 0, 0, s0I, 0, 0, 0, 0, σ)) 178 [(0, .ref v0R), (1, .int v1I), (2, .int v2I), (3, .int v3I), (4, .int v4I), (5, .int v5I)] [.int s0I] σ) ∧
  (∀ (v0R : Nat) (v1I : Int32) (v2I : Int32) (v3I : Int32) (v4I : Int32) (v5I : Int32) (σ : AM), VX (QM eI G args s below z0 u0) G p l e s m args below meth c 1 z0 u0 8 (lpn F_Md_nextOf n (8, v0R, v1I, v2I, v3I, v4I, v5I, 0, 0, 0, 0, 0, 0, 0, σ)) 205 [(0, .ref v0R), (1, .int v1I), (2, .int v2I), (3, .int v3I), (4, .int v4I), (5, .int v5I)] [] σ) ∧
  (∀ (v0R : Nat) (v1I : Int32) (v2I : Int32) (v3I : Int32) (v5I : Int32) (s0I : Int32) (σ : AM), VX (QM eI G args s below z0 u0) G p l e s m args below meth c 1 z0 u0 8 (lpn F_Md_nextOf n (9, v0R, v1I, v2I, v3I, 0, v5I, 0, 0, s0I, 0, 0, 0, 0, σ)) 207 [(0, .ref v0R), (1, .int v1I), (2, .int v2I), (3, .int v3I), (5, .int v5I)] [.int s0I] σ)
set_option maxRecDepth 20000 in
theorem s_Md_nextOf_0 {G : GX} {p : Program} {l : Launch} {e : Env} {s : State} {m : MethodId} {args : Array Value} {below : List Frame} {meth : Method} {c : Code} {z0 u0 n : Nat} (C : Cx G p s m args meth c prog_14_method_67_code 8 "BellPlateModel" ((some FieldType.int))) (IH : I_Md_nextOf G p l e s m args below meth c z0 u0 n) (v0R : Nat) (v1I : Int32) (v2I : Int32) (v3I : Int32) (σ : AM) : VX (QM eI G args s below z0 u0) G p l e s m args below meth c 1 z0 u0 8 (lpK (lpn F_Md_nextOf n) (T_Md_nextOf_0 v0R v1I v2I v3I σ)) 0 [(0, .ref v0R), (1, .int v1I), (2, .int v2I), (3, .int v3I)] [] σ := by
  unfold T_Md_nextOf_0
  refine x_iconst (v := (0 : Int32)) C d_Md_nextOf_0 (by decide) ?_
  refine x_istore (lv' := [(4, .int (0 : Int32)), (0, .ref v0R), (1, .int v1I), (2, .int v2I), (3, .int v3I)]) C d_Md_nextOf_1 (by decide) rfl ?_
  refine x_lv [1, 2, 3, 4, 0] rfl ?_
  exact IH.2.1 v0R v1I v2I v3I ((0 : Int32)) (σ)
set_option maxRecDepth 20000 in
theorem s_Md_nextOf_1 {G : GX} {p : Program} {l : Launch} {e : Env} {s : State} {m : MethodId} {args : Array Value} {below : List Frame} {meth : Method} {c : Code} {z0 u0 n : Nat} (C : Cx G p s m args meth c prog_14_method_67_code 8 "BellPlateModel" ((some FieldType.int))) (IH : I_Md_nextOf G p l e s m args below meth c z0 u0 n) (v0R : Nat) (v1I : Int32) (v2I : Int32) (v3I : Int32) (v4I : Int32) (σ : AM) : VX (QM eI G args s below z0 u0) G p l e s m args below meth c 1 z0 u0 8 (lpK (lpn F_Md_nextOf n) (T_Md_nextOf_1 v0R v1I v2I v3I v4I σ)) 3 [(0, .ref v0R), (1, .int v1I), (2, .int v2I), (3, .int v3I), (4, .int v4I)] [] σ := by
  unfold T_Md_nextOf_1
  refine x_iload C d_Md_nextOf_3 4 rfl ?_
  refine x_aload_n C d_Md_nextOf_5 0 rfl ?_
  refine x_gd (fun h3 => ?_)
  refine x_callVI (As := []) C (c_Md_sets G l v0R  σ) (okO_iff.mp h3) rfl w1826 w58 w1824 w1827 w134 k_Md_sets rfl (by decide) (by decide) rfl (Nat.le_of_ble_eq_true rfl) d_Md_nextOf_6 (fun r1 σ2 => ?_)
  refine x_icmp_ge (tgt := 34) C d_Md_nextOf_9 (by decide) (fun _ => ?_) (fun _ => ?_)
  · refine x_aload_n C d_Md_nextOf_12 0 rfl ?_
    refine x_gd (fun h4 => ?_)
    refine x_gd (fun h5 => ?_)
    refine x_getR (k := 52) (kv := 101) C (okO_iff.mp h4) rfl j11_ok (by decide) rfl (okO_iff.mp h5) (by decide) w1904 d_Md_nextOf_13 ?_
    refine x_iload C d_Md_nextOf_16 4 rfl ?_
    refine x_iconst (v := (0 : Int32)) C d_Md_nextOf_18 (by decide) ?_
    refine x_gd (fun h6 => ?_)
    refine x_astI C (okO_iff.mp h5) (inB_iff.mp h6) d_Md_nextOf_19 ?_
    refine x_letS (fun σ7 e8 => ?_)
    refine x_aload_n C d_Md_nextOf_20 0 rfl ?_
    refine x_gd (fun h9 => ?_)
    refine x_getR (k := 53) (kv := 101) C (by first | exact (okO_iff.mp h4) | (rw [e8]; exact (okO_iff.mp h4))) rfl j11_ok (by decide) rfl (okO_iff.mp h9) (by decide) w1905 d_Md_nextOf_21 ?_
    refine x_iload C d_Md_nextOf_24 4 rfl ?_
    refine x_iconst (v := (0 : Int32)) C d_Md_nextOf_26 (by decide) ?_
    refine x_gd (fun h10 => ?_)
    refine x_astI C (okO_iff.mp h9) (inB_iff.mp h10) d_Md_nextOf_27 ?_
    refine x_letS (fun σ11 e12 => ?_)
    refine x_iinc (v := v4I + (1 : Int32)) (lv' := [(4, .int (v4I + (1 : Int32))), (0, .ref v0R), (1, .int v1I), (2, .int v2I), (3, .int v3I)]) C d_Md_nextOf_28 4 rfl rfl (by decide) rfl ?_
    refine x_goto (tgt := 3) C d_Md_nextOf_31 (by decide) ?_
    refine x_lv [1, 2, 3, 4, 0] rfl ?_
    exact IH.2.1 v0R v1I v2I v3I (v4I + (1 : Int32)) (σ11)
  · refine x_iload_n C d_Md_nextOf_34 2 rfl ?_
    refine x_istore (lv' := [(4, .int v2I), (0, .ref v0R), (1, .int v1I), (2, .int v2I), (3, .int v3I)]) C d_Md_nextOf_35 (by decide) rfl ?_
    refine x_lv [1, 2, 3, 4, 0] rfl ?_
    exact IH.2.2.1 v0R v1I v2I v3I v2I (σ2)
set_option maxRecDepth 20000 in
theorem s_Md_nextOf_2 {G : GX} {p : Program} {l : Launch} {e : Env} {s : State} {m : MethodId} {args : Array Value} {below : List Frame} {meth : Method} {c : Code} {z0 u0 n : Nat} (C : Cx G p s m args meth c prog_14_method_67_code 8 "BellPlateModel" ((some FieldType.int))) (IH : I_Md_nextOf G p l e s m args below meth c z0 u0 n) (v0R : Nat) (v1I : Int32) (v2I : Int32) (v3I : Int32) (v4I : Int32) (σ : AM) : VX (QM eI G args s below z0 u0) G p l e s m args below meth c 1 z0 u0 8 (lpK (lpn F_Md_nextOf n) (T_Md_nextOf_2 v0R v1I v2I v3I v4I σ)) 37 [(0, .ref v0R), (1, .int v1I), (2, .int v2I), (3, .int v3I), (4, .int v4I)] [] σ := by
  unfold T_Md_nextOf_2
  refine x_iload C d_Md_nextOf_37 4 rfl ?_
  refine x_iload_n C d_Md_nextOf_39 3 rfl ?_
  refine x_icmp_ge (tgt := 135) C d_Md_nextOf_40 (by decide) (fun _ => ?_) (fun _ => ?_)
  · refine x_aload_n C d_Md_nextOf_43 0 rfl ?_
    refine x_gd (fun h1 => ?_)
    refine x_gd (fun h2 => ?_)
    refine x_getR (k := 30) (kv := 102) C (okO_iff.mp h1) rfl j11_ok (by decide) rfl (okO_iff.mp h2) (by decide) w1882 d_Md_nextOf_44 ?_
    refine x_aload_n C d_Md_nextOf_47 0 rfl ?_
    refine x_gd (fun h3 => ?_)
    refine x_getR (k := 48) (kv := 101) C (okO_iff.mp h1) rfl j11_ok (by decide) rfl (okO_iff.mp h3) (by decide) w1900 d_Md_nextOf_48 ?_
    refine x_iload C d_Md_nextOf_51 4 rfl ?_
    refine x_gd (fun h4 => ?_)
    refine x_aldI C (okO_iff.mp h3) (inB_iff.mp h4) d_Md_nextOf_53 ?_
    refine x_gd (fun h5 => ?_)
    refine x_aldJ C (okO_iff.mp h2) (inB_iff.mp h5) d_Md_nextOf_54 ?_
    refine x_letJ (fun x6 _ => ?_)
    refine x_lstore (lv' := [(5, .long x6), (0, .ref v0R), (1, .int v1I), (2, .int v2I), (3, .int v3I), (4, .int v4I)]) C d_Md_nextOf_55 (by decide) rfl ?_
    refine x_iconst (v := (0 : Int32)) C d_Md_nextOf_57 (by decide) ?_
    refine x_istore (lv' := [(7, .int (0 : Int32)), (5, .long x6), (0, .ref v0R), (1, .int v1I), (2, .int v2I), (3, .int v3I), (4, .int v4I)]) C d_Md_nextOf_58 (by decide) rfl ?_
    refine x_lv [2, 3, 4, 5, 6, 1, 0] rfl ?_
    exact IH.2.2.2.1 v0R v1I v2I v3I v4I x6 ((0 : Int32)) (σ)
  · refine x_iconst (v := ((-1) : Int32)) C d_Md_nextOf_135 (by decide) ?_
    refine x_istore (lv' := [(4, .int ((-1) : Int32)), (0, .ref v0R), (1, .int v1I), (2, .int v2I), (3, .int v3I)]) C d_Md_nextOf_136 (by decide) rfl ?_
    refine x_iconst (v := (0 : Int32)) C d_Md_nextOf_138 (by decide) ?_
    refine x_istore (lv' := [(5, .int (0 : Int32)), (4, .int ((-1) : Int32)), (0, .ref v0R), (1, .int v1I), (2, .int v2I), (3, .int v3I)]) C d_Md_nextOf_139 (by decide) rfl ?_
    refine x_lv [2, 3, 4, 5, 1, 0] rfl ?_
    exact IH.2.2.2.2.2.1 v0R v1I v2I v3I (((-1) : Int32)) ((0 : Int32)) (σ)
set_option maxRecDepth 20000 in
theorem s_Md_nextOf_3 {G : GX} {p : Program} {l : Launch} {e : Env} {s : State} {m : MethodId} {args : Array Value} {below : List Frame} {meth : Method} {c : Code} {z0 u0 n : Nat} (C : Cx G p s m args meth c prog_14_method_67_code 8 "BellPlateModel" ((some FieldType.int))) (IH : I_Md_nextOf G p l e s m args below meth c z0 u0 n) (v0R : Nat) (v1I : Int32) (v2I : Int32) (v3I : Int32) (v4I : Int32) (v5J : Int64) (v7I : Int32) (σ : AM) : VX (QM eI G args s below z0 u0) G p l e s m args below meth c 1 z0 u0 8 (lpK (lpn F_Md_nextOf n) (T_Md_nextOf_3 v0R v1I v2I v3I v4I v5J v7I σ)) 60 [(0, .ref v0R), (1, .int v1I), (2, .int v2I), (3, .int v3I), (4, .int v4I), (5, .long v5J), (7, .int v7I)] [] σ := by
  unfold T_Md_nextOf_3
  refine x_iload C d_Md_nextOf_60 6 rfl ?_
  refine x_aload_n C d_Md_nextOf_62 0 rfl ?_
  refine x_gd (fun h3 => ?_)
  refine x_callVI (As := []) C (c_Md_sets G l v0R  σ) (okO_iff.mp h3) rfl w1826 w58 w1824 w1827 w134 k_Md_sets rfl (by decide) (by decide) rfl (Nat.le_of_ble_eq_true rfl) d_Md_nextOf_63 (fun r1 σ2 => ?_)
  refine x_icmp_ge (tgt := 129) C d_Md_nextOf_66 (by decide) (fun _ => ?_) (fun _ => ?_)
  · refine x_aload_n C d_Md_nextOf_69 0 rfl ?_
    refine x_gd (fun h4 => ?_)
    refine x_gd (fun h5 => ?_)
    refine x_getR (k := 52) (kv := 101) C (okO_iff.mp h4) rfl j11_ok (by decide) rfl (okO_iff.mp h5) (by decide) w1904 d_Md_nextOf_70 ?_
    refine x_iload C d_Md_nextOf_73 6 rfl ?_
    refine x_dup2 C d_Md_nextOf_75 rfl rfl ?_
    refine x_gd (fun h6 => ?_)
    refine x_aldI C (okO_iff.mp h5) (inB_iff.mp h6) d_Md_nextOf_76 ?_
    refine x_lload C d_Md_nextOf_77 5 rfl ?_
    refine x_iload C d_Md_nextOf_79 6 rfl ?_
    refine x_lshr C d_Md_nextOf_81 ?_
    refine x_lconst (v := (1 : Int64)) C d_Md_nextOf_82 (by decide) ?_
    refine x_land C d_Md_nextOf_83 ?_
    refine x_l2i C d_Md_nextOf_84 ?_
    refine x_iadd C d_Md_nextOf_85 ?_
    refine x_astI C (okO_iff.mp h5) (inB_iff.mp h6) d_Md_nextOf_86 ?_
    refine x_letS (fun σ7 e8 => ?_)
    refine x_aload_n C d_Md_nextOf_87 0 rfl ?_
    refine x_gd (fun h9 => ?_)
    refine x_getR (k := 53) (kv := 101) C (by first | exact (okO_iff.mp h4) | (rw [e8]; exact (okO_iff.mp h4))) rfl j11_ok (by decide) rfl (okO_iff.mp h9) (by decide) w1905 d_Md_nextOf_88 ?_
    refine x_iload C d_Md_nextOf_91 6 rfl ?_
    refine x_dup2 C d_Md_nextOf_93 rfl rfl ?_
    refine x_gd (fun h10 => ?_)
    refine x_aldI C (okO_iff.mp h9) (inB_iff.mp h10) d_Md_nextOf_94 ?_
    refine x_lload C d_Md_nextOf_95 5 rfl ?_
    refine x_iload C d_Md_nextOf_97 6 rfl ?_
    refine x_callSI (As := [.long v5J, .int v7I]) C (c_Md_doesRing G l v5J v7I σ7) w2235 w2234 w2236 w134 k_Md_doesRing rfl (by decide) (by decide) rfl (Nat.le_of_ble_eq_true rfl) d_Md_nextOf_99 (fun r11 σ12 => ?_)
    refine x_if_eq (tgt := 120) C d_Md_nextOf_102 (by decide) (fun _ => ?_) (fun _ => ?_)
    · refine x_iconst (v := (0 : Int32)) C d_Md_nextOf_120 (by decide) ?_
      exact IH.2.2.2.2.1 v0R v1I v2I v3I v4I v5J v7I (aR σ7 v0R 53) v7I (aI σ7 (aR σ7 v0R 53) v7I.toNatClampNeg) ((0 : Int32)) (σ12)
    · refine x_aload_n C d_Md_nextOf_105 0 rfl ?_
      refine x_gd (fun h13 => ?_)
      refine x_gd (fun h14 => ?_)
      refine x_getR (k := 31) (kv := 101) C (okO_iff.mp h13) rfl j11_ok (by decide) rfl (okO_iff.mp h14) (by decide) w1883 d_Md_nextOf_106 ?_
      refine x_aload_n C d_Md_nextOf_109 0 rfl ?_
      refine x_gd (fun h15 => ?_)
      refine x_getR (k := 48) (kv := 101) C (okO_iff.mp h13) rfl j11_ok (by decide) rfl (okO_iff.mp h15) (by decide) w1900 d_Md_nextOf_110 ?_
      refine x_iload C d_Md_nextOf_113 4 rfl ?_
      refine x_gd (fun h16 => ?_)
      refine x_aldI C (okO_iff.mp h15) (inB_iff.mp h16) d_Md_nextOf_115 ?_
      refine x_gd (fun h17 => ?_)
      refine x_aldI C (okO_iff.mp h14) (inB_iff.mp h17) d_Md_nextOf_116 ?_
      refine x_goto (tgt := 121) C d_Md_nextOf_117 (by decide) ?_
      exact IH.2.2.2.2.1 v0R v1I v2I v3I v4I v5J v7I (aR σ7 v0R 53) v7I (aI σ7 (aR σ7 v0R 53) v7I.toNatClampNeg) (aI σ12 (aR σ12 v0R 31) (aI σ12 (aR σ12 v0R 48) v4I.toNatClampNeg).toNatClampNeg) (σ12)
  · refine x_iinc (v := v4I + (1 : Int32)) (lv' := [(4, .int (v4I + (1 : Int32))), (0, .ref v0R), (1, .int v1I), (2, .int v2I), (3, .int v3I), (5, .long v5J), (7, .int v7I)]) C d_Md_nextOf_129 4 rfl rfl (by decide) rfl ?_
    refine x_goto (tgt := 37) C d_Md_nextOf_132 (by decide) ?_
    refine x_lv [1, 2, 3, 4, 0] rfl ?_
    exact IH.2.2.1 v0R v1I v2I v3I (v4I + (1 : Int32)) (σ2)
set_option maxRecDepth 20000 in
theorem s_Md_nextOf_4 {G : GX} {p : Program} {l : Launch} {e : Env} {s : State} {m : MethodId} {args : Array Value} {below : List Frame} {meth : Method} {c : Code} {z0 u0 n : Nat} (C : Cx G p s m args meth c prog_14_method_67_code 8 "BellPlateModel" ((some FieldType.int))) (IH : I_Md_nextOf G p l e s m args below meth c z0 u0 n) (v0R : Nat) (v1I : Int32) (v2I : Int32) (v3I : Int32) (v4I : Int32) (v5J : Int64) (v7I : Int32) (s0R : Nat) (s1I : Int32) (s2I : Int32) (s3I : Int32) (σ : AM) : VX (QM eI G args s below z0 u0) G p l e s m args below meth c 1 z0 u0 8 (lpK (lpn F_Md_nextOf n) (T_Md_nextOf_4 v0R v1I v2I v3I v4I v5J v7I s0R s1I s2I s3I σ)) 121 [(0, .ref v0R), (1, .int v1I), (2, .int v2I), (3, .int v3I), (4, .int v4I), (5, .long v5J), (7, .int v7I)] [.int s3I, .int s2I, .int s1I, .ref s0R] σ := by
  unfold T_Md_nextOf_4
  refine x_iadd C d_Md_nextOf_121 ?_
  refine x_gd (fun h1 => ?_)
  refine x_gd (fun h2 => ?_)
  refine x_astI C (okO_iff.mp h1) (inB_iff.mp h2) d_Md_nextOf_122 ?_
  refine x_letS (fun σ3 e4 => ?_)
  refine x_iinc (v := v7I + (1 : Int32)) (lv' := [(7, .int (v7I + (1 : Int32))), (0, .ref v0R), (1, .int v1I), (2, .int v2I), (3, .int v3I), (4, .int v4I), (5, .long v5J)]) C d_Md_nextOf_123 6 rfl rfl (by decide) rfl ?_
  refine x_goto (tgt := 60) C d_Md_nextOf_126 (by decide) ?_
  refine x_lv [1, 2, 3, 4, 5, 6, 0] rfl ?_
  exact IH.2.2.2.1 v0R v1I v2I v3I v4I v5J (v7I + (1 : Int32)) (σ3)
set_option maxRecDepth 20000 in
theorem s_Md_nextOf_5 {G : GX} {p : Program} {l : Launch} {e : Env} {s : State} {m : MethodId} {args : Array Value} {below : List Frame} {meth : Method} {c : Code} {z0 u0 n : Nat} (C : Cx G p s m args meth c prog_14_method_67_code 8 "BellPlateModel" ((some FieldType.int))) (IH : I_Md_nextOf G p l e s m args below meth c z0 u0 n) (v0R : Nat) (v1I : Int32) (v2I : Int32) (v3I : Int32) (v4I : Int32) (v5I : Int32) (σ : AM) : VX (QM eI G args s below z0 u0) G p l e s m args below meth c 1 z0 u0 8 (lpK (lpn F_Md_nextOf n) (T_Md_nextOf_5 v0R v1I v2I v3I v4I v5I σ)) 141 [(0, .ref v0R), (1, .int v1I), (2, .int v2I), (3, .int v3I), (4, .int v4I), (5, .int v5I)] [] σ := by
  unfold T_Md_nextOf_5
  refine x_iload C d_Md_nextOf_141 5 rfl ?_
  refine x_aload_n C d_Md_nextOf_143 0 rfl ?_
  refine x_gd (fun h3 => ?_)
  refine x_callVI (As := []) C (c_Md_sets G l v0R  σ) (okO_iff.mp h3) rfl w1826 w58 w1824 w1827 w134 k_Md_sets rfl (by decide) (by decide) rfl (Nat.le_of_ble_eq_true rfl) d_Md_nextOf_144 (fun r1 σ2 => ?_)
  refine x_icmp_ge (tgt := 215) C d_Md_nextOf_147 (by decide) (fun _ => ?_) (fun _ => ?_)
  · refine x_aload_n C d_Md_nextOf_150 0 rfl ?_
    refine x_gd (fun h4 => ?_)
    refine x_gd (fun h5 => ?_)
    refine x_getR (k := 52) (kv := 101) C (okO_iff.mp h4) rfl j11_ok (by decide) rfl (okO_iff.mp h5) (by decide) w1904 d_Md_nextOf_151 ?_
    refine x_iload C d_Md_nextOf_154 5 rfl ?_
    refine x_gd (fun h6 => ?_)
    refine x_aldI C (okO_iff.mp h5) (inB_iff.mp h6) d_Md_nextOf_156 ?_
    refine x_if_le (tgt := 177) C d_Md_nextOf_157 (by decide) (fun _ => ?_) (fun _ => ?_)
    · refine x_aload_n C d_Md_nextOf_160 0 rfl ?_
      refine x_getR (k := 52) (kv := 101) C (okO_iff.mp h4) rfl j11_ok (by decide) rfl (okO_iff.mp h5) (by decide) w1904 d_Md_nextOf_161 ?_
      refine x_iload C d_Md_nextOf_164 5 rfl ?_
      refine x_aldI C (okO_iff.mp h5) (inB_iff.mp h6) d_Md_nextOf_166 ?_
      refine x_iload_n C d_Md_nextOf_167 3 rfl ?_
      refine x_iload_n C d_Md_nextOf_168 2 rfl ?_
      refine x_isub C d_Md_nextOf_169 ?_
      refine x_icmp_ge (tgt := 177) C d_Md_nextOf_170 (by decide) (fun _ => ?_) (fun _ => ?_)
      · refine x_iconst (v := (1 : Int32)) C d_Md_nextOf_173 (by decide) ?_
        refine x_goto (tgt := 178) C d_Md_nextOf_174 (by decide) ?_
        exact IH.2.2.2.2.2.2.2.1 v0R v1I v2I v3I v4I v5I ((1 : Int32)) (σ2)
      · exact IH.2.2.2.2.2.2.1 v0R v1I v2I v3I v4I v5I (σ2)
    · exact IH.2.2.2.2.2.2.1 v0R v1I v2I v3I v4I v5I (σ2)
  · refine x_iload C d_Md_nextOf_215 4 rfl ?_
    exact x_iret C d_Md_nextOf_217
set_option maxRecDepth 20000 in
theorem s_Md_nextOf_6 {G : GX} {p : Program} {l : Launch} {e : Env} {s : State} {m : MethodId} {args : Array Value} {below : List Frame} {meth : Method} {c : Code} {z0 u0 n : Nat} (C : Cx G p s m args meth c prog_14_method_67_code 8 "BellPlateModel" ((some FieldType.int))) (IH : I_Md_nextOf G p l e s m args below meth c z0 u0 n) (v0R : Nat) (v1I : Int32) (v2I : Int32) (v3I : Int32) (v4I : Int32) (v5I : Int32) (σ : AM) : VX (QM eI G args s below z0 u0) G p l e s m args below meth c 1 z0 u0 8 (lpK (lpn F_Md_nextOf n) (T_Md_nextOf_6 v0R v1I v2I v3I v4I v5I σ)) 177 [(0, .ref v0R), (1, .int v1I), (2, .int v2I), (3, .int v3I), (4, .int v4I), (5, .int v5I)] [] σ := by
  unfold T_Md_nextOf_6
  refine x_iconst (v := (0 : Int32)) C d_Md_nextOf_177 (by decide) ?_
  exact IH.2.2.2.2.2.2.2.1 v0R v1I v2I v3I v4I v5I ((0 : Int32)) (σ)
set_option maxRecDepth 20000 in
theorem s_Md_nextOf_7 {G : GX} {p : Program} {l : Launch} {e : Env} {s : State} {m : MethodId} {args : Array Value} {below : List Frame} {meth : Method} {c : Code} {z0 u0 n : Nat} (C : Cx G p s m args meth c prog_14_method_67_code 8 "BellPlateModel" ((some FieldType.int))) (IH : I_Md_nextOf G p l e s m args below meth c z0 u0 n) (v0R : Nat) (v1I : Int32) (v2I : Int32) (v3I : Int32) (v4I : Int32) (v5I : Int32) (s0I : Int32) (σ : AM) : VX (QM eI G args s below z0 u0) G p l e s m args below meth c 1 z0 u0 8 (lpK (lpn F_Md_nextOf n) (T_Md_nextOf_7 v0R v1I v2I v3I v4I v5I s0I σ)) 178 [(0, .ref v0R), (1, .int v1I), (2, .int v2I), (3, .int v3I), (4, .int v4I), (5, .int v5I)] [.int s0I] σ := by
  unfold T_Md_nextOf_7
  refine x_istore (lv' := [(6, .int s0I), (0, .ref v0R), (1, .int v1I), (2, .int v2I), (3, .int v3I), (4, .int v4I), (5, .int v5I)]) C d_Md_nextOf_178 (by decide) rfl ?_
  refine x_iload C d_Md_nextOf_180 0 rfl ?_
  refine x_if_eq (tgt := 205) C d_Md_nextOf_182 (by decide) (fun _ => ?_) (fun _ => ?_)
  · refine x_lv [1, 2, 3, 4, 5, 6] rfl ?_
    exact IH.2.2.2.2.2.2.2.2.1 v0R v1I v2I v3I v4I v5I (σ)
  · refine x_aload_n C d_Md_nextOf_185 1 rfl ?_
    refine x_iload_n C d_Md_nextOf_186 2 rfl ?_
    refine x_iload C d_Md_nextOf_187 6 rfl ?_
    refine x_iload C d_Md_nextOf_189 5 rfl ?_
    refine x_iload_n C d_Md_nextOf_191 4 rfl ?_
    refine x_iload_n C d_Md_nextOf_192 3 rfl ?_
    refine x_isub C d_Md_nextOf_193 ?_
    refine x_gd (fun h3 => ?_)
    refine x_callVI (As := [.int v1I, .int v5I, .int v4I, .int (v3I - v2I)]) C (c_Md_isBetter G l v0R v1I v5I v4I (v3I - v2I) σ) (okO_iff.mp h3) rfl w2289 w97 w2287 w2290 w134 k_Md_isBetter rfl (by decide) (by decide) rfl (Nat.le_of_ble_eq_true rfl) d_Md_nextOf_194 (fun r1 σ2 => ?_)
    refine x_if_eq (tgt := 205) C d_Md_nextOf_197 (by decide) (fun _ => ?_) (fun _ => ?_)
    · refine x_lv [1, 2, 3, 4, 5, 6] rfl ?_
      exact IH.2.2.2.2.2.2.2.2.1 v0R v1I v2I v3I v4I v5I (σ2)
    · refine x_iload C d_Md_nextOf_200 6 rfl ?_
      refine x_goto (tgt := 207) C d_Md_nextOf_202 (by decide) ?_
      refine x_lv [1, 2, 3, 4, 6] rfl ?_
      exact IH.2.2.2.2.2.2.2.2.2 v0R v1I v2I v3I v5I v5I (σ2)
set_option maxRecDepth 20000 in
theorem s_Md_nextOf_8 {G : GX} {p : Program} {l : Launch} {e : Env} {s : State} {m : MethodId} {args : Array Value} {below : List Frame} {meth : Method} {c : Code} {z0 u0 n : Nat} (C : Cx G p s m args meth c prog_14_method_67_code 8 "BellPlateModel" ((some FieldType.int))) (IH : I_Md_nextOf G p l e s m args below meth c z0 u0 n) (v0R : Nat) (v1I : Int32) (v2I : Int32) (v3I : Int32) (v4I : Int32) (v5I : Int32) (σ : AM) : VX (QM eI G args s below z0 u0) G p l e s m args below meth c 1 z0 u0 8 (lpK (lpn F_Md_nextOf n) (T_Md_nextOf_8 v0R v1I v2I v3I v4I v5I σ)) 205 [(0, .ref v0R), (1, .int v1I), (2, .int v2I), (3, .int v3I), (4, .int v4I), (5, .int v5I)] [] σ := by
  unfold T_Md_nextOf_8
  refine x_iload C d_Md_nextOf_205 4 rfl ?_
  refine x_lv [0, 1, 2, 3, 5] rfl ?_
  exact IH.2.2.2.2.2.2.2.2.2 v0R v1I v2I v3I v5I v4I (σ)
set_option maxRecDepth 20000 in
theorem s_Md_nextOf_9 {G : GX} {p : Program} {l : Launch} {e : Env} {s : State} {m : MethodId} {args : Array Value} {below : List Frame} {meth : Method} {c : Code} {z0 u0 n : Nat} (C : Cx G p s m args meth c prog_14_method_67_code 8 "BellPlateModel" ((some FieldType.int))) (IH : I_Md_nextOf G p l e s m args below meth c z0 u0 n) (v0R : Nat) (v1I : Int32) (v2I : Int32) (v3I : Int32) (v5I : Int32) (s0I : Int32) (σ : AM) : VX (QM eI G args s below z0 u0) G p l e s m args below meth c 1 z0 u0 8 (lpK (lpn F_Md_nextOf n) (T_Md_nextOf_9 v0R v1I v2I v3I v5I s0I σ)) 207 [(0, .ref v0R), (1, .int v1I), (2, .int v2I), (3, .int v3I), (5, .int v5I)] [.int s0I] σ := by
  unfold T_Md_nextOf_9
  refine x_istore (lv' := [(4, .int s0I), (0, .ref v0R), (1, .int v1I), (2, .int v2I), (3, .int v3I), (5, .int v5I)]) C d_Md_nextOf_207 (by decide) rfl ?_
  refine x_iinc (v := v5I + (1 : Int32)) (lv' := [(5, .int (v5I + (1 : Int32))), (4, .int s0I), (0, .ref v0R), (1, .int v1I), (2, .int v2I), (3, .int v3I)]) C d_Md_nextOf_209 5 rfl rfl (by decide) rfl ?_
  refine x_goto (tgt := 141) C d_Md_nextOf_212 (by decide) ?_
  refine x_lv [2, 3, 4, 5, 1, 0] rfl ?_
  exact IH.2.2.2.2.2.1 v0R v1I v2I v3I s0I (v5I + (1 : Int32)) (σ)
theorem i_Md_nextOf {G : GX} {p : Program} {l : Launch} {e : Env} {s : State} {m : MethodId} {args : Array Value} {below : List Frame} {meth : Method} {c : Code} {z0 u0 : Nat} (C : Cx G p s m args meth c prog_14_method_67_code 8 "BellPlateModel" ((some FieldType.int))) (n : Nat) : I_Md_nextOf G p l e s m args below meth c z0 u0 n := by
  induction n with
  | zero => exact ⟨fun _ _ _ _ _ => x_none, fun _ _ _ _ _ _ => x_none, fun _ _ _ _ _ _ => x_none, fun _ _ _ _ _ _ _ _ => x_none, fun _ _ _ _ _ _ _ _ _ _ _ _ => x_none, fun _ _ _ _ _ _ _ => x_none, fun _ _ _ _ _ _ _ => x_none, fun _ _ _ _ _ _ _ _ => x_none, fun _ _ _ _ _ _ _ => x_none, fun _ _ _ _ _ _ _ => x_none⟩
  | succ n IH => exact ⟨fun v0R v1I v2I v3I σ => s_Md_nextOf_0 C IH v0R v1I v2I v3I σ, fun v0R v1I v2I v3I v4I σ => s_Md_nextOf_1 C IH v0R v1I v2I v3I v4I σ, fun v0R v1I v2I v3I v4I σ => s_Md_nextOf_2 C IH v0R v1I v2I v3I v4I σ, fun v0R v1I v2I v3I v4I v5J v7I σ => s_Md_nextOf_3 C IH v0R v1I v2I v3I v4I v5J v7I σ, fun v0R v1I v2I v3I v4I v5J v7I s0R s1I s2I s3I σ => s_Md_nextOf_4 C IH v0R v1I v2I v3I v4I v5J v7I s0R s1I s2I s3I σ, fun v0R v1I v2I v3I v4I v5I σ => s_Md_nextOf_5 C IH v0R v1I v2I v3I v4I v5I σ, fun v0R v1I v2I v3I v4I v5I σ => s_Md_nextOf_6 C IH v0R v1I v2I v3I v4I v5I σ, fun v0R v1I v2I v3I v4I v5I s0I σ => s_Md_nextOf_7 C IH v0R v1I v2I v3I v4I v5I s0I σ, fun v0R v1I v2I v3I v4I v5I σ => s_Md_nextOf_8 C IH v0R v1I v2I v3I v4I v5I σ, fun v0R v1I v2I v3I v5I s0I σ => s_Md_nextOf_9 C IH v0R v1I v2I v3I v5I s0I σ⟩
theorem c_Md_nextOf (G : GX) (l : Launch) (v0R : Nat) (v1I : Int32) (v2I : Int32) (v3I : Int32) (σ : AM) : CT eI G l 1 y_Md_nextOf prog_14_method_67_code 8 ((some FieldType.int)) [.ref v0R, .int v1I, .int v2I, .int v3I] σ (M_Md_nextOf v0R v1I v2I v3I σ) := by
  refine ct_of (by decide +kernel) (Nat.le_of_ble_eq_true rfl) (fun p e s m args below meth c C hin => ?_)
  refine x_lve (lv' := [(0, .ref v0R), (1, .int v1I), (2, .int v2I), (3, .int v3I)]) rfl ?_
  intro r σ' h
  obtain ⟨n, hn⟩ := (lp_iff _ _ _).mp h
  exact (i_Md_nextOf C n).1 v0R v1I v2I v3I σ r σ' hn
/-! BellPlateModel.divides(III)I -/
abbrev y_Md_divides : MethodName := ⟨"BellPlateModel", "divides", "(III)I"⟩
theorem k_Md_divides : y_Md_divides.cls ≠ "java/lang/invoke/MethodHandle" ∧ y_Md_divides.cls ≠ "java/lang/invoke/VarHandle" ∧ (parseMethodDescriptor y_Md_divides.desc).map (fun d => d.parameters.length) = some 3 := by decide +kernel
theorem d_Md_divides_0 : decode prog_14_method_68_code 0 = .ok (.iload_n 2, 1) := by decide +kernel
theorem d_Md_divides_1 : decode prog_14_method_68_code 1 = .ok (.istore 4, 2) := by decide +kernel
theorem d_Md_divides_3 : decode prog_14_method_68_code 3 = .ok (.iload_n 2, 1) := by decide +kernel
theorem d_Md_divides_4 : decode prog_14_method_68_code 4 = .ok (.istore 5, 2) := by decide +kernel
theorem d_Md_divides_6 : decode prog_14_method_68_code 6 = .ok (.iload 5, 2) := by decide +kernel
theorem d_Md_divides_8 : decode prog_14_method_68_code 8 = .ok (.iload_n 3, 1) := by decide +kernel
theorem d_Md_divides_9 : decode prog_14_method_68_code 9 = .ok (.if_icmp .ge 63, 3) := by decide +kernel
theorem d_Md_divides_12 : decode prog_14_method_68_code 12 = .ok (.aload_n 0, 1) := by decide +kernel
theorem d_Md_divides_13 : decode prog_14_method_68_code 13 = .ok (.getfield 82, 3) := by decide +kernel
theorem d_Md_divides_16 : decode prog_14_method_68_code 16 = .ok (.aload_n 0, 1) := by decide +kernel
theorem d_Md_divides_17 : decode prog_14_method_68_code 17 = .ok (.getfield 119, 3) := by decide +kernel
theorem d_Md_divides_20 : decode prog_14_method_68_code 20 = .ok (.iload 5, 2) := by decide +kernel
theorem d_Md_divides_22 : decode prog_14_method_68_code 22 = .ok (.iaload, 1) := by decide +kernel
theorem d_Md_divides_23 : decode prog_14_method_68_code 23 = .ok (.laload, 1) := by decide +kernel
theorem d_Md_divides_24 : decode prog_14_method_68_code 24 = .ok (.iload_n 1, 1) := by decide +kernel
theorem d_Md_divides_25 : decode prog_14_method_68_code 25 = .ok (.invokestatic 357, 3) := by decide +kernel
theorem d_Md_divides_28 : decode prog_14_method_68_code 28 = .ok (.ifCond .eq 38, 3) := by decide +kernel
theorem d_Md_divides_31 : decode prog_14_method_68_code 31 = .ok (.aload_n 0, 1) := by decide +kernel
theorem d_Md_divides_32 : decode prog_14_method_68_code 32 = .ok (.getfield 119, 3) := by decide +kernel
theorem d_Md_divides_35 : decode prog_14_method_68_code 35 = .ok (.iload 5, 2) := by decide +kernel
theorem d_Md_divides_37 : decode prog_14_method_68_code 37 = .ok (.iaload, 1) := by decide +kernel
theorem d_Md_divides_38 : decode prog_14_method_68_code 38 = .ok (.istore 6, 2) := by decide +kernel
theorem d_Md_divides_40 : decode prog_14_method_68_code 40 = .ok (.aload_n 0, 1) := by decide +kernel
theorem d_Md_divides_41 : decode prog_14_method_68_code 41 = .ok (.getfield 119, 3) := by decide +kernel
theorem d_Md_divides_44 : decode prog_14_method_68_code 44 = .ok (.iload 5, 2) := by decide +kernel
theorem d_Md_divides_46 : decode prog_14_method_68_code 46 = .ok (.aload_n 0, 1) := by decide +kernel
theorem d_Md_divides_47 : decode prog_14_method_68_code 47 = .ok (.getfield 119, 3) := by decide +kernel
theorem d_Md_divides_50 : decode prog_14_method_68_code 50 = .ok (.iload 4, 2) := by decide +kernel
theorem d_Md_divides_52 : decode prog_14_method_68_code 52 = .ok (.iaload, 1) := by decide +kernel
theorem d_Md_divides_53 : decode prog_14_method_68_code 53 = .ok (.iastore, 1) := by decide +kernel
theorem d_Md_divides_54 : decode prog_14_method_68_code 54 = .ok (.aload_n 0, 1) := by decide +kernel
theorem d_Md_divides_55 : decode prog_14_method_68_code 55 = .ok (.getfield 119, 3) := by decide +kernel
theorem d_Md_divides_58 : decode prog_14_method_68_code 58 = .ok (.iload 4, 2) := by decide +kernel
theorem d_Md_divides_60 : decode prog_14_method_68_code 60 = .ok (.iload 6, 2) := by decide +kernel
theorem d_Md_divides_62 : decode prog_14_method_68_code 62 = .ok (.iastore, 1) := by decide +kernel
theorem d_Md_divides_63 : decode prog_14_method_68_code 63 = .ok (.iinc 4 1, 3) := by decide +kernel
theorem d_Md_divides_66 : decode prog_14_method_68_code 66 = .ok (.iinc 5 1, 3) := by decide +kernel
theorem d_Md_divides_69 : decode prog_14_method_68_code 69 = .ok (.goto (-63), 3) := by decide +kernel
theorem d_Md_divides_72 : decode prog_14_method_68_code 72 = .ok (.iload 4, 2) := by decide +kernel
theorem d_Md_divides_74 : decode prog_14_method_68_code 74 = .ok (.ireturn, 1) := by decide +kernel
abbrev S_Md_divides : Type := Nat × Nat × Int32 × Int32 × Int32 × Int32 × Int32 × AM
noncomputable def T_Md_divides_0 (v0R : Nat) (v1I : Int32) (v2I : Int32) (v3I : Int32) (σ : AM) : S_Md_divides ⊕ Option (Int32 × AM) :=
  .inl (1, v0R, v1I, 0, v3I, v2I, v2I, σ)
noncomputable def T_Md_divides_1 (v0R : Nat) (v1I : Int32) (v3I : Int32) (v4I : Int32) (v5I : Int32) (σ : AM) : S_Md_divides ⊕ Option (Int32 × AM) :=
  if v5I < v3I then (gdT (okO σ v0R 12) <| gdT (okO σ (aR σ v0R 30) 102) <| gdT (okO σ (aR σ v0R 48) 101) <| gdT (inB v5I (aN σ (aR σ v0R 48))) <| gdT (inB (aI σ (aR σ v0R 48) v5I.toNatClampNeg) (aN σ (aR σ v0R 30))) <| bndT (M_Md_doesRing (aL σ (aR σ v0R 30) (aI σ (aR σ v0R 48) v5I.toNatClampNeg).toNatClampNeg) v1I σ) fun r6 σ7 => if r6 = 0 then (.inl (2, v0R, v1I, 0, v3I, v4I, v5I, σ7)) else (gdT (okO σ7 v0R 12) <| gdT (okO σ7 (aR σ7 v0R 48) 101) <| gdT (inB v5I (aN σ7 (aR σ7 v0R 48))) <| letT (aI σ7 (aR σ7 v0R 48) v5I.toNatClampNeg) fun x11 => gdT (inB v4I (aN σ7 (aR σ7 v0R 48))) <| letT (sI σ7 (aR σ7 v0R 48) v5I.toNatClampNeg (aI σ7 (aR σ7 v0R 48) v4I.toNatClampNeg)) fun σ13 => gdT (okO σ13 (aR σ13 v0R 48) 101) <| gdT (inB v4I (aN σ13 (aR σ13 v0R 48))) <| letT (sI σ13 (aR σ13 v0R 48) v4I.toNatClampNeg x11) fun σ17 => .inl (2, v0R, v1I, 0, v3I, v4I + (1 : Int32), v5I, σ17))) else (.inr (some (v4I, σ)))
noncomputable def T_Md_divides_2 (v0R : Nat) (v1I : Int32) (v3I : Int32) (v4I : Int32) (v5I : Int32) (σ : AM) : S_Md_divides ⊕ Option (Int32 × AM) :=
  .inl (1, v0R, v1I, 0, v3I, v4I, v5I + (1 : Int32), σ)
noncomputable def F_Md_divides : S_Md_divides → S_Md_divides ⊕ Option (Int32 × AM) := fun s => match s.1 with
  | 0 => T_Md_divides_0 (s.2.1) (s.2.2.1) (s.2.2.2.1) (s.2.2.2.2.1) (s.2.2.2.2.2.2.2)
  | 1 => T_Md_divides_1 (s.2.1) (s.2.2.1) (s.2.2.2.2.1) (s.2.2.2.2.2.1) (s.2.2.2.2.2.2.1) (s.2.2.2.2.2.2.2)
  | _ => T_Md_divides_2 (s.2.1) (s.2.2.1) (s.2.2.2.2.1) (s.2.2.2.2.2.1) (s.2.2.2.2.2.2.1) (s.2.2.2.2.2.2.2)
noncomputable def L_Md_divides_0 (v0R : Nat) (v1I : Int32) (v2I : Int32) (v3I : Int32) (σ : AM) : Option (Int32 × AM) := lp F_Md_divides (0, v0R, v1I, v2I, v3I, 0, 0, σ)
noncomputable def L_Md_divides_1 (v0R : Nat) (v1I : Int32) (v3I : Int32) (v4I : Int32) (v5I : Int32) (σ : AM) : Option (Int32 × AM) := lp F_Md_divides (1, v0R, v1I, 0, v3I, v4I, v5I, σ)
noncomputable def L_Md_divides_2 (v0R : Nat) (v1I : Int32) (v3I : Int32) (v4I : Int32) (v5I : Int32) (σ : AM) : Option (Int32 × AM) := lp F_Md_divides (2, v0R, v1I, 0, v3I, v4I, v5I, σ)
set_option maxRecDepth 20000 in
theorem E_Md_divides_0 (v0R : Nat) (v1I : Int32) (v2I : Int32) (v3I : Int32) (σ : AM) : L_Md_divides_0 v0R v1I v2I v3I σ = (L_Md_divides_1 v0R v1I v3I v2I v2I σ) := by
  unfold L_Md_divides_0
  rw [lp_eq]
  show lpK (lp F_Md_divides) (T_Md_divides_0 v0R v1I v2I v3I σ) = _
  unfold T_Md_divides_0
  simp only [lpK_ite, lq_inl, lq_inr, lpK_bnd, lpK_gd, lq_let]
  try rfl
set_option maxRecDepth 20000 in
theorem E_Md_divides_1 (v0R : Nat) (v1I : Int32) (v3I : Int32) (v4I : Int32) (v5I : Int32) (σ : AM) : L_Md_divides_1 v0R v1I v3I v4I v5I σ = (if v5I < v3I then (gd (okO σ v0R 12) <| gd (okO σ (aR σ v0R 30) 102) <| gd (okO σ (aR σ v0R 48) 101) <| gd (inB v5I (aN σ (aR σ v0R 48))) <| gd (inB (aI σ (aR σ v0R 48) v5I.toNatClampNeg) (aN σ (aR σ v0R 30))) <| bnd (M_Md_doesRing (aL σ (aR σ v0R 30) (aI σ (aR σ v0R 48) v5I.toNatClampNeg).toNatClampNeg) v1I σ) fun r6 σ7 => if r6 = 0 then (L_Md_divides_2 v0R v1I v3I v4I v5I σ7) else (gd (okO σ7 v0R 12) <| gd (okO σ7 (aR σ7 v0R 48) 101) <| gd (inB v5I (aN σ7 (aR σ7 v0R 48))) <| letT (aI σ7 (aR σ7 v0R 48) v5I.toNatClampNeg) fun x11 => gd (inB v4I (aN σ7 (aR σ7 v0R 48))) <| letT (sI σ7 (aR σ7 v0R 48) v5I.toNatClampNeg (aI σ7 (aR σ7 v0R 48) v4I.toNatClampNeg)) fun σ13 => gd (okO σ13 (aR σ13 v0R 48) 101) <| gd (inB v4I (aN σ13 (aR σ13 v0R 48))) <| letT (sI σ13 (aR σ13 v0R 48) v4I.toNatClampNeg x11) fun σ17 => L_Md_divides_2 v0R v1I v3I (v4I + (1 : Int32)) v5I σ17)) else ((some (v4I, σ)))) := by
  unfold L_Md_divides_1
  rw [lp_eq]
  show lpK (lp F_Md_divides) (T_Md_divides_1 v0R v1I v3I v4I v5I σ) = _
  unfold T_Md_divides_1
  simp only [lpK_ite, lq_inl, lq_inr, lpK_bnd, lpK_gd, lq_let]
  try rfl
set_option maxRecDepth 20000 in
theorem E_Md_divides_2 (v0R : Nat) (v1I : Int32) (v3I : Int32) (v4I : Int32) (v5I : Int32) (σ : AM) : L_Md_divides_2 v0R v1I v3I v4I v5I σ = (L_Md_divides_1 v0R v1I v3I v4I (v5I + (1 : Int32)) σ) := by
  unfold L_Md_divides_2
  rw [lp_eq]
  show lpK (lp F_Md_divides) (T_Md_divides_2 v0R v1I v3I v4I v5I σ) = _
  unfold T_Md_divides_2
  simp only [lpK_ite, lq_inl, lq_inr, lpK_bnd, lpK_gd, lq_let]
  try rfl
noncomputable def M_Md_divides (v0R : Nat) (v1I : Int32) (v2I : Int32) (v3I : Int32) (σ : AM) : Option (Int32 × AM) := mw σ (L_Md_divides_0 v0R v1I v2I v3I σ)
def I_Md_divides (G : GX) (p : Program) (l : Launch) (e : Env) (s : State) (m : MethodId) (args : Array Value) (below : List Frame) (meth : Method) (c : Code) (z0 u0 n : Nat) : Prop :=
  (∀ (v0R : Nat) (v1I : Int32) (v2I : Int32) (v3I : Int32) (σ : AM), VX (QM eI G args s below z0 u0) G p l e s m args below meth c 1 z0 u0 7 (lpn F_Md_divides n (0, v0R, v1I, v2I, v3I, 0, 0, σ)) 0 [(0, .ref v0R), (1, .int v1I), (2, .int v2I), (3, .int v3I)] [] σ) ∧
  (∀ (v0R : Nat) (v1I : Int32) (v3I : Int32) (v4I : Int32) (v5I : Int32) (σ : AM), VX (QM eI G args s below z0 u0) G p l e s m args below meth c 1 z0 u0 7 (lpn F_Md_divides n (1, v0R, v1I, 0, v3I, v4I, v5I, σ)) 6 [(0, .ref v0R), (1, .int v1I), (3, .int v3I), (4, .int v4I), (5, .int v5I)] [] σ) ∧
  (∀ (v0R : Nat) (v1I : Int32) (v3I : Int32) (v4I : Int32) (v5I : Int32) (σ : AM), VX (QM eI G args s below z0 u0) G p l e s m args below meth c 1 z0 u0 7 (lpn F_Md_divides n (2, v0R, v1I, 0, v3I, v4I, v5I, σ)) 66 [(0, .ref v0R), (1, .int v1I), (3, .int v3I), (4, .int v4I), (5, .int v5I)] [] σ)
set_option maxRecDepth 20000 in
theorem s_Md_divides_0 {G : GX} {p : Program} {l : Launch} {e : Env} {s : State} {m : MethodId} {args : Array Value} {below : List Frame} {meth : Method} {c : Code} {z0 u0 n : Nat} (C : Cx G p s m args meth c prog_14_method_68_code 7 "BellPlateModel" ((some FieldType.int))) (IH : I_Md_divides G p l e s m args below meth c z0 u0 n) (v0R : Nat) (v1I : Int32) (v2I : Int32) (v3I : Int32) (σ : AM) : VX (QM eI G args s below z0 u0) G p l e s m args below meth c 1 z0 u0 7 (lpK (lpn F_Md_divides n) (T_Md_divides_0 v0R v1I v2I v3I σ)) 0 [(0, .ref v0R), (1, .int v1I), (2, .int v2I), (3, .int v3I)] [] σ := by
  unfold T_Md_divides_0
  refine x_iload_n C d_Md_divides_0 2 rfl ?_
  refine x_istore (lv' := [(4, .int v2I), (0, .ref v0R), (1, .int v1I), (2, .int v2I), (3, .int v3I)]) C d_Md_divides_1 (by decide) rfl ?_
  refine x_iload_n C d_Md_divides_3 3 rfl ?_
  refine x_istore (lv' := [(5, .int v2I), (4, .int v2I), (0, .ref v0R), (1, .int v1I), (2, .int v2I), (3, .int v3I)]) C d_Md_divides_4 (by decide) rfl ?_
  refine x_lv [2, 3, 5, 1, 0] rfl ?_
  exact IH.2.1 v0R v1I v3I v2I v2I (σ)
set_option maxRecDepth 20000 in
theorem s_Md_divides_1 {G : GX} {p : Program} {l : Launch} {e : Env} {s : State} {m : MethodId} {args : Array Value} {below : List Frame} {meth : Method} {c : Code} {z0 u0 n : Nat} (C : Cx G p s m args meth c prog_14_method_68_code 7 "BellPlateModel" ((some FieldType.int))) (IH : I_Md_divides G p l e s m args below meth c z0 u0 n) (v0R : Nat) (v1I : Int32) (v3I : Int32) (v4I : Int32) (v5I : Int32) (σ : AM) : VX (QM eI G args s below z0 u0) G p l e s m args below meth c 1 z0 u0 7 (lpK (lpn F_Md_divides n) (T_Md_divides_1 v0R v1I v3I v4I v5I σ)) 6 [(0, .ref v0R), (1, .int v1I), (3, .int v3I), (4, .int v4I), (5, .int v5I)] [] σ := by
  unfold T_Md_divides_1
  refine x_iload C d_Md_divides_6 4 rfl ?_
  refine x_iload_n C d_Md_divides_8 2 rfl ?_
  refine x_icmp_ge (tgt := 72) C d_Md_divides_9 (by decide) (fun _ => ?_) (fun _ => ?_)
  · refine x_aload_n C d_Md_divides_12 0 rfl ?_
    refine x_gd (fun h1 => ?_)
    refine x_gd (fun h2 => ?_)
    refine x_getR (k := 30) (kv := 102) C (okO_iff.mp h1) rfl j11_ok (by decide) rfl (okO_iff.mp h2) (by decide) w1882 d_Md_divides_13 ?_
    refine x_aload_n C d_Md_divides_16 0 rfl ?_
    refine x_gd (fun h3 => ?_)
    refine x_getR (k := 48) (kv := 101) C (okO_iff.mp h1) rfl j11_ok (by decide) rfl (okO_iff.mp h3) (by decide) w1900 d_Md_divides_17 ?_
    refine x_iload C d_Md_divides_20 4 rfl ?_
    refine x_gd (fun h4 => ?_)
    refine x_aldI C (okO_iff.mp h3) (inB_iff.mp h4) d_Md_divides_22 ?_
    refine x_gd (fun h5 => ?_)
    refine x_aldJ C (okO_iff.mp h2) (inB_iff.mp h5) d_Md_divides_23 ?_
    refine x_iload_n C d_Md_divides_24 1 rfl ?_
    refine x_callSI (As := [.long (aL σ (aR σ v0R 30) (aI σ (aR σ v0R 48) v5I.toNatClampNeg).toNatClampNeg), .int v1I]) C (c_Md_doesRing G l (aL σ (aR σ v0R 30) (aI σ (aR σ v0R 48) v5I.toNatClampNeg).toNatClampNeg) v1I σ) w2235 w2234 w2236 w134 k_Md_doesRing rfl (by decide) (by decide) rfl (Nat.le_of_ble_eq_true rfl) d_Md_divides_25 (fun r6 σ7 => ?_)
    refine x_if_eq (tgt := 66) C d_Md_divides_28 (by decide) (fun _ => ?_) (fun _ => ?_)
    · exact IH.2.2 v0R v1I v3I v4I v5I (σ7)
    · refine x_aload_n C d_Md_divides_31 0 rfl ?_
      refine x_gd (fun h8 => ?_)
      refine x_gd (fun h9 => ?_)
      refine x_getR (k := 48) (kv := 101) C (okO_iff.mp h8) rfl j11_ok (by decide) rfl (okO_iff.mp h9) (by decide) w1900 d_Md_divides_32 ?_
      refine x_iload C d_Md_divides_35 4 rfl ?_
      refine x_gd (fun h10 => ?_)
      refine x_aldI C (okO_iff.mp h9) (inB_iff.mp h10) d_Md_divides_37 ?_
      refine x_letI (fun x11 _ => ?_)
      refine x_istore (lv' := [(6, .int x11), (0, .ref v0R), (1, .int v1I), (3, .int v3I), (4, .int v4I), (5, .int v5I)]) C d_Md_divides_38 (by decide) rfl ?_
      refine x_aload_n C d_Md_divides_40 1 rfl ?_
      refine x_getR (k := 48) (kv := 101) C (okO_iff.mp h8) rfl j11_ok (by decide) rfl (okO_iff.mp h9) (by decide) w1900 d_Md_divides_41 ?_
      refine x_iload C d_Md_divides_44 5 rfl ?_
      refine x_aload_n C d_Md_divides_46 1 rfl ?_
      refine x_getR (k := 48) (kv := 101) C (okO_iff.mp h8) rfl j11_ok (by decide) rfl (okO_iff.mp h9) (by decide) w1900 d_Md_divides_47 ?_
      refine x_iload C d_Md_divides_50 4 rfl ?_
      refine x_gd (fun h12 => ?_)
      refine x_aldI C (okO_iff.mp h9) (inB_iff.mp h12) d_Md_divides_52 ?_
      refine x_astI C (okO_iff.mp h9) (inB_iff.mp h10) d_Md_divides_53 ?_
      refine x_letS (fun σ13 e14 => ?_)
      refine x_aload_n C d_Md_divides_54 1 rfl ?_
      refine x_gd (fun h15 => ?_)
      refine x_getR (k := 48) (kv := 101) C (by first | exact (okO_iff.mp h8) | (rw [e14]; exact (okO_iff.mp h8))) rfl j11_ok (by decide) rfl (okO_iff.mp h15) (by decide) w1900 d_Md_divides_55 ?_
      refine x_iload C d_Md_divides_58 4 rfl ?_
      refine x_iload C d_Md_divides_60 0 rfl ?_
      refine x_gd (fun h16 => ?_)
      refine x_astI C (okO_iff.mp h15) (inB_iff.mp h16) d_Md_divides_62 ?_
      refine x_letS (fun σ17 e18 => ?_)
      refine x_iinc (v := v4I + (1 : Int32)) (lv' := [(4, .int (v4I + (1 : Int32))), (6, .int x11), (0, .ref v0R), (1, .int v1I), (3, .int v3I), (5, .int v5I)]) C d_Md_divides_63 4 rfl rfl (by decide) rfl ?_
      refine x_lv [2, 3, 4, 0, 5] rfl ?_
      exact IH.2.2 v0R v1I v3I (v4I + (1 : Int32)) v5I (σ17)
  · refine x_iload C d_Md_divides_72 3 rfl ?_
    exact x_iret C d_Md_divides_74
set_option maxRecDepth 20000 in
theorem s_Md_divides_2 {G : GX} {p : Program} {l : Launch} {e : Env} {s : State} {m : MethodId} {args : Array Value} {below : List Frame} {meth : Method} {c : Code} {z0 u0 n : Nat} (C : Cx G p s m args meth c prog_14_method_68_code 7 "BellPlateModel" ((some FieldType.int))) (IH : I_Md_divides G p l e s m args below meth c z0 u0 n) (v0R : Nat) (v1I : Int32) (v3I : Int32) (v4I : Int32) (v5I : Int32) (σ : AM) : VX (QM eI G args s below z0 u0) G p l e s m args below meth c 1 z0 u0 7 (lpK (lpn F_Md_divides n) (T_Md_divides_2 v0R v1I v3I v4I v5I σ)) 66 [(0, .ref v0R), (1, .int v1I), (3, .int v3I), (4, .int v4I), (5, .int v5I)] [] σ := by
  unfold T_Md_divides_2
  refine x_iinc (v := v5I + (1 : Int32)) (lv' := [(5, .int (v5I + (1 : Int32))), (0, .ref v0R), (1, .int v1I), (3, .int v3I), (4, .int v4I)]) C d_Md_divides_66 4 rfl rfl (by decide) rfl ?_
  refine x_goto (tgt := 6) C d_Md_divides_69 (by decide) ?_
  refine x_lv [1, 2, 3, 4, 0] rfl ?_
  exact IH.2.1 v0R v1I v3I v4I (v5I + (1 : Int32)) (σ)
theorem i_Md_divides {G : GX} {p : Program} {l : Launch} {e : Env} {s : State} {m : MethodId} {args : Array Value} {below : List Frame} {meth : Method} {c : Code} {z0 u0 : Nat} (C : Cx G p s m args meth c prog_14_method_68_code 7 "BellPlateModel" ((some FieldType.int))) (n : Nat) : I_Md_divides G p l e s m args below meth c z0 u0 n := by
  induction n with
  | zero => exact ⟨fun _ _ _ _ _ => x_none, fun _ _ _ _ _ _ => x_none, fun _ _ _ _ _ _ => x_none⟩
  | succ n IH => exact ⟨fun v0R v1I v2I v3I σ => s_Md_divides_0 C IH v0R v1I v2I v3I σ, fun v0R v1I v3I v4I v5I σ => s_Md_divides_1 C IH v0R v1I v3I v4I v5I σ, fun v0R v1I v3I v4I v5I σ => s_Md_divides_2 C IH v0R v1I v3I v4I v5I σ⟩
theorem c_Md_divides (G : GX) (l : Launch) (v0R : Nat) (v1I : Int32) (v2I : Int32) (v3I : Int32) (σ : AM) : CT eI G l 1 y_Md_divides prog_14_method_68_code 7 ((some FieldType.int)) [.ref v0R, .int v1I, .int v2I, .int v3I] σ (M_Md_divides v0R v1I v2I v3I σ) := by
  refine ct_of (by decide +kernel) (Nat.le_of_ble_eq_true rfl) (fun p e s m args below meth c C hin => ?_)
  refine x_lve (lv' := [(0, .ref v0R), (1, .int v1I), (2, .int v2I), (3, .int v3I)]) rfl ?_
  intro r σ' h
  obtain ⟨n, hn⟩ := (lp_iff _ _ _).mp h
  exact (i_Md_divides C n).1 v0R v1I v2I v3I σ r σ' hn
