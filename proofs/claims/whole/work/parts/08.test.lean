theorem j0_ok : ∀ w ∈ u_ws R0 T0 11, w ∈ lw_ok := fun w h => okm (i0_ok w h) (by obtain ⟨k, _, rfl⟩ := List.mem_map.mp h; unfold u_lay; split <;> rfl)
theorem f0_ok : ∀ k, k < 11 → defaultValue (Y0 k) = if ftk 0 k = 0 then .int 0 else if ftk 0 k = 1 then .long 0 else .null := by decide +kernel
theorem j1_ok : ∀ w ∈ u_ws R1 T1 13, w ∈ lw_ok := fun w h => okm (i1_ok w h) (by obtain ⟨k, _, rfl⟩ := List.mem_map.mp h; unfold u_lay; split <;> rfl)
theorem f1_ok : ∀ k, k < 13 → defaultValue (Y1 k) = if ftk 1 k = 0 then .int 0 else if ftk 1 k = 1 then .long 0 else .null := by decide +kernel
theorem j2_ok : ∀ w ∈ u_ws R2 T2 13, w ∈ lw_ok := fun w h => okm (i2_ok w h) (by obtain ⟨k, _, rfl⟩ := List.mem_map.mp h; unfold u_lay; split <;> rfl)
theorem f2_ok : ∀ k, k < 13 → defaultValue (Y2 k) = if ftk 2 k = 0 then .int 0 else if ftk 2 k = 1 then .long 0 else .null := by decide +kernel
theorem j3_ok : ∀ w ∈ u_ws R3 T3 11, w ∈ lw_ok := fun w h => okm (i3_ok w h) (by obtain ⟨k, _, rfl⟩ := List.mem_map.mp h; unfold u_lay; split <;> rfl)
theorem f3_ok : ∀ k, k < 11 → defaultValue (Y3 k) = if ftk 3 k = 0 then .int 0 else if ftk 3 k = 1 then .long 0 else .null := by decide +kernel
theorem j4_ok : ∀ w ∈ u_ws R4 T4 10, w ∈ lw_ok := fun w h => okm (i4_ok w h) (by obtain ⟨k, _, rfl⟩ := List.mem_map.mp h; unfold u_lay; split <;> rfl)
theorem f4_ok : ∀ k, k < 10 → defaultValue (Y4 k) = if ftk 4 k = 0 then .int 0 else if ftk 4 k = 1 then .long 0 else .null := by decide +kernel
theorem j5_ok : ∀ w ∈ u_ws R5 T5 19, w ∈ lw_ok := fun w h => okm (i5_ok w h) (by obtain ⟨k, _, rfl⟩ := List.mem_map.mp h; unfold u_lay; split <;> rfl)
theorem f5_ok : ∀ k, k < 19 → defaultValue (Y5 k) = if ftk 5 k = 0 then .int 0 else if ftk 5 k = 1 then .long 0 else .null := by decide +kernel
theorem j6_ok : ∀ w ∈ u_ws R6 T6 10, w ∈ lw_ok := fun w h => okm (i6_ok w h) (by obtain ⟨k, _, rfl⟩ := List.mem_map.mp h; unfold u_lay; split <;> rfl)
theorem f6_ok : ∀ k, k < 10 → defaultValue (Y6 k) = if ftk 6 k = 0 then .int 0 else if ftk 6 k = 1 then .long 0 else .null := by decide +kernel
theorem j7_ok : ∀ w ∈ u_ws R7 T7 16, w ∈ lw_ok := fun w h => okm (i7_ok w h) (by obtain ⟨k, _, rfl⟩ := List.mem_map.mp h; unfold u_lay; split <;> rfl)
theorem f7_ok : ∀ k, k < 16 → defaultValue (Y7 k) = if ftk 7 k = 0 then .int 0 else if ftk 7 k = 1 then .long 0 else .null := by decide +kernel
theorem j8_ok : ∀ w ∈ u_ws R8 T8 15, w ∈ lw_ok := fun w h => okm (i8_ok w h) (by obtain ⟨k, _, rfl⟩ := List.mem_map.mp h; unfold u_lay; split <;> rfl)
theorem f8_ok : ∀ k, k < 15 → defaultValue (Y8 k) = if ftk 8 k = 0 then .int 0 else if ftk 8 k = 1 then .long 0 else .null := by decide +kernel
theorem j9_ok : ∀ w ∈ u_ws R9 T9 2, w ∈ lw_ok := fun w h => okm (i9_ok w h) (by obtain ⟨k, _, rfl⟩ := List.mem_map.mp h; unfold u_lay; split <;> rfl)
theorem f9_ok : ∀ k, k < 2 → defaultValue (Y9 k) = if ftk 9 k = 0 then .int 0 else if ftk 9 k = 1 then .long 0 else .null := by decide +kernel
theorem j10_ok : ∀ w ∈ u_ws R10 T10 12, w ∈ lw_ok := fun w h => okm (i10_ok w h) (by obtain ⟨k, _, rfl⟩ := List.mem_map.mp h; unfold u_lay; split <;> rfl)
theorem f10_ok : ∀ k, k < 12 → defaultValue (Y10 k) = if ftk 10 k = 0 then .int 0 else if ftk 10 k = 1 then .long 0 else .null := by decide +kernel
theorem j11_ok : ∀ w ∈ u_ws R11 T11 76, w ∈ lw_ok := fun w h => okm (i11_ok w h) (by obtain ⟨k, _, rfl⟩ := List.mem_map.mp h; unfold u_lay; split <;> rfl)
theorem f11_ok : ∀ k, k < 76 → defaultValue (Y11 k) = if ftk 11 k = 0 then .int 0 else if ftk 11 k = 1 then .long 0 else .null := by decide +kernel
theorem w54 : Cond.selects "BellPlateModel" ⟨"BellPlateModel", "lays", "(J)V"⟩ ⟨"BellPlateModel", "lays", "(J)V"⟩ ∈ lw_ok := okm (List.mem_of_getElem? (i := 54) (by decide +kernel)) rfl
theorem w134 : Cond.initialized "BellPlateModel" ∈ lw_ok := okm (List.mem_of_getElem? (i := 134) (by decide +kernel)) rfl
theorem w1791 : Cond.methodLink "BellPlateModel" 7 ⟨"BellPlateModel", "lays", "(J)V"⟩ ∈ lw_ok := okm (List.mem_of_getElem? (i := 1791) (by decide +kernel)) rfl
theorem w1793 : Cond.instanceMethod ⟨"BellPlateModel", "lays", "(J)V"⟩ ∈ lw_ok := okm (List.mem_of_getElem? (i := 1793) (by decide +kernel)) rfl
theorem w1795 : Cond.code ⟨"BellPlateModel", "lays", "(J)V"⟩ prog_14_method_3_code 5 (none) ∈ lw_ok := okm (List.mem_of_getElem? (i := 1795) (by decide +kernel)) rfl
theorem w1852 : Cond.fieldLink "BellPlateModel" 1 "BellPlateModel" "thrown" "I" ∈ lw_ok := okm (List.mem_of_getElem? (i := 1852) (by decide +kernel)) rfl
theorem w1853 : Cond.fieldLink "BellPlateModel" 14 "BellPlateModel" "tape" "[I" ∈ lw_ok := okm (List.mem_of_getElem? (i := 1853) (by decide +kernel)) rfl
theorem w1854 : Cond.fieldLink "BellPlateModel" 11 "BellPlateModel" "taped" "I" ∈ lw_ok := okm (List.mem_of_getElem? (i := 1854) (by decide +kernel)) rfl
/-! BellPlateModel.isLetter(I)Z -/
abbrev y_Md_isLetter : MethodName := ⟨"BellPlateModel", "isLetter", "(I)Z"⟩
theorem k_Md_isLetter : y_Md_isLetter.cls ≠ "java/lang/invoke/MethodHandle" ∧ y_Md_isLetter.cls ≠ "java/lang/invoke/VarHandle" ∧ (parseMethodDescriptor y_Md_isLetter.desc).map (fun d => d.parameters.length) = some 1 := by decide +kernel
theorem d_Md_isLetter_0 : decode prog_14_method_5_code 0 = .ok (.iload_n 0, 1) := by decide +kernel
theorem d_Md_isLetter_1 : decode prog_14_method_5_code 1 = .ok (.bipush 97, 2) := by decide +kernel
theorem d_Md_isLetter_3 : decode prog_14_method_5_code 3 = .ok (.if_icmp .lt 13, 3) := by decide +kernel
theorem d_Md_isLetter_6 : decode prog_14_method_5_code 6 = .ok (.iload_n 0, 1) := by decide +kernel
theorem d_Md_isLetter_7 : decode prog_14_method_5_code 7 = .ok (.bipush 122, 2) := by decide +kernel
theorem d_Md_isLetter_9 : decode prog_14_method_5_code 9 = .ok (.if_icmp .gt 7, 3) := by decide +kernel
theorem d_Md_isLetter_12 : decode prog_14_method_5_code 12 = .ok (.iconst 1, 1) := by decide +kernel
theorem d_Md_isLetter_13 : decode prog_14_method_5_code 13 = .ok (.goto 4, 3) := by decide +kernel
theorem d_Md_isLetter_16 : decode prog_14_method_5_code 16 = .ok (.iconst 0, 1) := by decide +kernel
theorem d_Md_isLetter_17 : decode prog_14_method_5_code 17 = .ok (.ireturn, 1) := by decide +kernel
abbrev S_Md_isLetter : Type := Nat × Int32 × Int32 × AM
noncomputable def T_Md_isLetter_0 (v0I : Int32) (σ : AM) : S_Md_isLetter ⊕ Option (Int32 × AM) :=
  if v0I < (97 : Int32) then (.inl (1, 0, 0, σ)) else (if (122 : Int32) < v0I then (.inl (1, 0, 0, σ)) else (.inl (2, 0, (1 : Int32), σ)))
noncomputable def T_Md_isLetter_1  (σ : AM) : S_Md_isLetter ⊕ Option (Int32 × AM) :=
  .inl (2, 0, (0 : Int32), σ)
noncomputable def T_Md_isLetter_2 (s0I : Int32) (σ : AM) : S_Md_isLetter ⊕ Option (Int32 × AM) :=
  gdT (isB s0I) <| .inr (some (s0I, σ))
noncomputable def F_Md_isLetter : S_Md_isLetter → S_Md_isLetter ⊕ Option (Int32 × AM) := fun s => match s.1 with
  | 0 => T_Md_isLetter_0 (s.2.1) (s.2.2.2)
  | 1 => T_Md_isLetter_1  (s.2.2.2)
  | _ => T_Md_isLetter_2 (s.2.2.1) (s.2.2.2)
noncomputable def L_Md_isLetter_0 (v0I : Int32) (σ : AM) : Option (Int32 × AM) := lp F_Md_isLetter (0, v0I, 0, σ)
noncomputable def L_Md_isLetter_1  (σ : AM) : Option (Int32 × AM) := lp F_Md_isLetter (1, 0, 0, σ)
noncomputable def L_Md_isLetter_2 (s0I : Int32) (σ : AM) : Option (Int32 × AM) := lp F_Md_isLetter (2, 0, s0I, σ)
theorem E_Md_isLetter_0 (v0I : Int32) (σ : AM) : L_Md_isLetter_0 v0I σ = (if v0I < (97 : Int32) then (L_Md_isLetter_1 σ) else (if (122 : Int32) < v0I then (L_Md_isLetter_1 σ) else (L_Md_isLetter_2 ((1 : Int32)) σ))) := by
  unfold L_Md_isLetter_0
  rw [lp_eq]
  show lpK (lp F_Md_isLetter) (T_Md_isLetter_0 v0I σ) = _
  unfold T_Md_isLetter_0
  simp only [lpK_ite, lpK_inl, lpK_inr, lpK_bnd, lpK_gd, lpK_let]
  try rfl
theorem E_Md_isLetter_1  (σ : AM) : L_Md_isLetter_1  σ = (L_Md_isLetter_2 ((0 : Int32)) σ) := by
  unfold L_Md_isLetter_1
  rw [lp_eq]
  show lpK (lp F_Md_isLetter) (T_Md_isLetter_1  σ) = _
  unfold T_Md_isLetter_1
  simp only [lpK_ite, lpK_inl, lpK_inr, lpK_bnd, lpK_gd, lpK_let]
  try rfl
theorem E_Md_isLetter_2 (s0I : Int32) (σ : AM) : L_Md_isLetter_2 s0I σ = (gd (isB s0I) <| (some (s0I, σ))) := by
  unfold L_Md_isLetter_2
  rw [lp_eq]
  show lpK (lp F_Md_isLetter) (T_Md_isLetter_2 s0I σ) = _
  unfold T_Md_isLetter_2
  simp only [lpK_ite, lpK_inl, lpK_inr, lpK_bnd, lpK_gd, lpK_let]
  try rfl
noncomputable def M_Md_isLetter (v0I : Int32) (σ : AM) : Option (Int32 × AM) := mw σ (L_Md_isLetter_0 v0I σ)
def I_Md_isLetter (G : GX) (p : Program) (l : Launch) (e : Env) (s : State) (m : MethodId) (args : Array Value) (below : List Frame) (meth : Method) (c : Code) (z0 u0 n : Nat) : Prop :=
  (∀ (v0I : Int32) (σ : AM), VX eI G p l e s m args below meth c 0 z0 u0 1 (lpn F_Md_isLetter n (0, v0I, 0, σ)) 0 [(0, .int v0I)] [] σ) ∧
  (∀ (σ : AM), VX eI G p l e s m args below meth c 0 z0 u0 1 (lpn F_Md_isLetter n (1, 0, 0, σ)) 16 [] [] σ) ∧
  (∀ (s0I : Int32) (σ : AM), VX eI G p l e s m args below meth c 0 z0 u0 1 (lpn F_Md_isLetter n (2, 0, s0I, σ)) 17 [] [.int s0I] σ)
set_option maxRecDepth 20000 in
theorem s_Md_isLetter_0 {G : GX} {p : Program} {l : Launch} {e : Env} {s : State} {m : MethodId} {args : Array Value} {below : List Frame} {meth : Method} {c : Code} {z0 u0 n : Nat} (C : Cx G p s m args meth c prog_14_method_5_code 1 "BellPlateModel" ((some FieldType.boolean))) (IH : I_Md_isLetter G p l e s m args below meth c z0 u0 n) (v0I : Int32) (σ : AM) : VX eI G p l e s m args below meth c 0 z0 u0 1 (lpK (lpn F_Md_isLetter n) (T_Md_isLetter_0 v0I σ)) 0 [(0, .int v0I)] [] σ := by
  unfold T_Md_isLetter_0
  refine x_iload_n C d_Md_isLetter_0 0 rfl ?_
  refine x_bipush (v := (97 : Int32)) C d_Md_isLetter_1 (by decide) ?_
  refine x_icmp_lt (tgt := 16) C d_Md_isLetter_3 (by decide) (fun _ => ?_) (fun _ => ?_)
  · refine x_lv [] rfl ?_
    exact IH.2.1  (σ)
  · refine x_iload_n C d_Md_isLetter_6 0 rfl ?_
    refine x_bipush (v := (122 : Int32)) C d_Md_isLetter_7 (by decide) ?_
    refine x_icmp_gt (tgt := 16) C d_Md_isLetter_9 (by decide) (fun _ => ?_) (fun _ => ?_)
    · refine x_lv [] rfl ?_
      exact IH.2.1  (σ)
    · refine x_iconst (v := (1 : Int32)) C d_Md_isLetter_12 (by decide) ?_
      refine x_goto (tgt := 17) C d_Md_isLetter_13 (by decide) ?_
      refine x_lv [] rfl ?_
      exact IH.2.2 ((1 : Int32)) (σ)
set_option maxRecDepth 20000 in
theorem s_Md_isLetter_1 {G : GX} {p : Program} {l : Launch} {e : Env} {s : State} {m : MethodId} {args : Array Value} {below : List Frame} {meth : Method} {c : Code} {z0 u0 n : Nat} (C : Cx G p s m args meth c prog_14_method_5_code 1 "BellPlateModel" ((some FieldType.boolean))) (IH : I_Md_isLetter G p l e s m args below meth c z0 u0 n)  (σ : AM) : VX eI G p l e s m args below meth c 0 z0 u0 1 (lpK (lpn F_Md_isLetter n) (T_Md_isLetter_1  σ)) 16 [] [] σ := by
  unfold T_Md_isLetter_1
  refine x_iconst (v := (0 : Int32)) C d_Md_isLetter_16 (by decide) ?_
  exact IH.2.2 ((0 : Int32)) (σ)
set_option maxRecDepth 20000 in
theorem s_Md_isLetter_2 {G : GX} {p : Program} {l : Launch} {e : Env} {s : State} {m : MethodId} {args : Array Value} {below : List Frame} {meth : Method} {c : Code} {z0 u0 n : Nat} (C : Cx G p s m args meth c prog_14_method_5_code 1 "BellPlateModel" ((some FieldType.boolean))) (IH : I_Md_isLetter G p l e s m args below meth c z0 u0 n) (s0I : Int32) (σ : AM) : VX eI G p l e s m args below meth c 0 z0 u0 1 (lpK (lpn F_Md_isLetter n) (T_Md_isLetter_2 s0I σ)) 17 [] [.int s0I] σ := by
  unfold T_Md_isLetter_2
  refine x_gd (fun h1 => ?_)
  exact x_zret C (isB_narrow h1) d_Md_isLetter_17
theorem i_Md_isLetter {G : GX} {p : Program} {l : Launch} {e : Env} {s : State} {m : MethodId} {args : Array Value} {below : List Frame} {meth : Method} {c : Code} {z0 u0 : Nat} (C : Cx G p s m args meth c prog_14_method_5_code 1 "BellPlateModel" ((some FieldType.boolean))) (n : Nat) : I_Md_isLetter G p l e s m args below meth c z0 u0 n := by
  induction n with
  | zero => exact ⟨fun _ _ => x_none, fun _ => x_none, fun _ _ => x_none⟩
  | succ n IH => exact ⟨fun v0I σ => s_Md_isLetter_0 C IH v0I σ, fun σ => s_Md_isLetter_1 C IH σ, fun s0I σ => s_Md_isLetter_2 C IH s0I σ⟩
theorem c_Md_isLetter (G : GX) (l : Launch) (v0I : Int32) (σ : AM) : CT eI G l 0 y_Md_isLetter prog_14_method_5_code 1 ((some FieldType.boolean)) [.int v0I] σ (M_Md_isLetter v0I σ) := by
  refine ct_of (by decide +kernel) (Nat.le_of_ble_eq_true rfl) (fun p e s m args below meth c C hin => ?_)
  refine x_lve (lv' := [(0, .int v0I)]) rfl ?_
  intro r σ' h
  obtain ⟨n, hn⟩ := (lp_iff _ _ _).mp h
  exact (i_Md_isLetter C n).1 v0I σ r σ' hn
/-! BellPlateModel.within(III)Z -/
abbrev y_Md_within : MethodName := ⟨"BellPlateModel", "within", "(III)Z"⟩
theorem k_Md_within : y_Md_within.cls ≠ "java/lang/invoke/MethodHandle" ∧ y_Md_within.cls ≠ "java/lang/invoke/VarHandle" ∧ (parseMethodDescriptor y_Md_within.desc).map (fun d => d.parameters.length) = some 3 := by decide +kernel
theorem d_Md_within_0 : decode prog_14_method_17_code 0 = .ok (.iload_n 0, 1) := by decide +kernel
theorem d_Md_within_1 : decode prog_14_method_17_code 1 = .ok (.iload_n 1, 1) := by decide +kernel
theorem d_Md_within_2 : decode prog_14_method_17_code 2 = .ok (.if_icmp .lt 12, 3) := by decide +kernel
theorem d_Md_within_5 : decode prog_14_method_17_code 5 = .ok (.iload_n 0, 1) := by decide +kernel
theorem d_Md_within_6 : decode prog_14_method_17_code 6 = .ok (.iload_n 2, 1) := by decide +kernel
theorem d_Md_within_7 : decode prog_14_method_17_code 7 = .ok (.if_icmp .gt 7, 3) := by decide +kernel
theorem d_Md_within_10 : decode prog_14_method_17_code 10 = .ok (.iconst 1, 1) := by decide +kernel
theorem d_Md_within_11 : decode prog_14_method_17_code 11 = .ok (.goto 4, 3) := by decide +kernel
theorem d_Md_within_14 : decode prog_14_method_17_code 14 = .ok (.iconst 0, 1) := by decide +kernel
theorem d_Md_within_15 : decode prog_14_method_17_code 15 = .ok (.ireturn, 1) := by decide +kernel
abbrev S_Md_within : Type := Nat × Int32 × Int32 × Int32 × Int32 × AM
noncomputable def T_Md_within_0 (v0I : Int32) (v1I : Int32) (v2I : Int32) (σ : AM) : S_Md_within ⊕ Option (Int32 × AM) :=
  if v0I < v1I then (.inl (1, 0, 0, 0, 0, σ)) else (if v2I < v0I then (.inl (1, 0, 0, 0, 0, σ)) else (.inl (2, 0, 0, 0, (1 : Int32), σ)))
noncomputable def T_Md_within_1  (σ : AM) : S_Md_within ⊕ Option (Int32 × AM) :=
  .inl (2, 0, 0, 0, (0 : Int32), σ)
noncomputable def T_Md_within_2 (s0I : Int32) (σ : AM) : S_Md_within ⊕ Option (Int32 × AM) :=
  gdT (isB s0I) <| .inr (some (s0I, σ))
noncomputable def F_Md_within : S_Md_within → S_Md_within ⊕ Option (Int32 × AM) := fun s => match s.1 with
  | 0 => T_Md_within_0 (s.2.1) (s.2.2.1) (s.2.2.2.1) (s.2.2.2.2.2)
  | 1 => T_Md_within_1  (s.2.2.2.2.2)
  | _ => T_Md_within_2 (s.2.2.2.2.1) (s.2.2.2.2.2)
noncomputable def L_Md_within_0 (v0I : Int32) (v1I : Int32) (v2I : Int32) (σ : AM) : Option (Int32 × AM) := lp F_Md_within (0, v0I, v1I, v2I, 0, σ)
noncomputable def L_Md_within_1  (σ : AM) : Option (Int32 × AM) := lp F_Md_within (1, 0, 0, 0, 0, σ)
noncomputable def L_Md_within_2 (s0I : Int32) (σ : AM) : Option (Int32 × AM) := lp F_Md_within (2, 0, 0, 0, s0I, σ)
theorem E_Md_within_0 (v0I : Int32) (v1I : Int32) (v2I : Int32) (σ : AM) : L_Md_within_0 v0I v1I v2I σ = (if v0I < v1I then (L_Md_within_1 σ) else (if v2I < v0I then (L_Md_within_1 σ) else (L_Md_within_2 ((1 : Int32)) σ))) := by
  unfold L_Md_within_0
  rw [lp_eq]
  show lpK (lp F_Md_within) (T_Md_within_0 v0I v1I v2I σ) = _
  unfold T_Md_within_0
  simp only [lpK_ite, lpK_inl, lpK_inr, lpK_bnd, lpK_gd, lpK_let]
  try rfl
theorem E_Md_within_1  (σ : AM) : L_Md_within_1  σ = (L_Md_within_2 ((0 : Int32)) σ) := by
  unfold L_Md_within_1
  rw [lp_eq]
  show lpK (lp F_Md_within) (T_Md_within_1  σ) = _
  unfold T_Md_within_1
  simp only [lpK_ite, lpK_inl, lpK_inr, lpK_bnd, lpK_gd, lpK_let]
  try rfl
theorem E_Md_within_2 (s0I : Int32) (σ : AM) : L_Md_within_2 s0I σ = (gd (isB s0I) <| (some (s0I, σ))) := by
  unfold L_Md_within_2
  rw [lp_eq]
  show lpK (lp F_Md_within) (T_Md_within_2 s0I σ) = _
  unfold T_Md_within_2
  simp only [lpK_ite, lpK_inl, lpK_inr, lpK_bnd, lpK_gd, lpK_let]
  try rfl
noncomputable def M_Md_within (v0I : Int32) (v1I : Int32) (v2I : Int32) (σ : AM) : Option (Int32 × AM) := mw σ (L_Md_within_0 v0I v1I v2I σ)
def I_Md_within (G : GX) (p : Program) (l : Launch) (e : Env) (s : State) (m : MethodId) (args : Array Value) (below : List Frame) (meth : Method) (c : Code) (z0 u0 n : Nat) : Prop :=
  (∀ (v0I : Int32) (v1I : Int32) (v2I : Int32) (σ : AM), VX eI G p l e s m args below meth c 0 z0 u0 3 (lpn F_Md_within n (0, v0I, v1I, v2I, 0, σ)) 0 [(0, .int v0I), (1, .int v1I), (2, .int v2I)] [] σ) ∧
  (∀ (σ : AM), VX eI G p l e s m args below meth c 0 z0 u0 3 (lpn F_Md_within n (1, 0, 0, 0, 0, σ)) 14 [] [] σ) ∧
  (∀ (s0I : Int32) (σ : AM), VX eI G p l e s m args below meth c 0 z0 u0 3 (lpn F_Md_within n (2, 0, 0, 0, s0I, σ)) 15 [] [.int s0I] σ)
set_option maxRecDepth 20000 in
theorem s_Md_within_0 {G : GX} {p : Program} {l : Launch} {e : Env} {s : State} {m : MethodId} {args : Array Value} {below : List Frame} {meth : Method} {c : Code} {z0 u0 n : Nat} (C : Cx G p s m args meth c prog_14_method_17_code 3 "BellPlateModel" ((some FieldType.boolean))) (IH : I_Md_within G p l e s m args below meth c z0 u0 n) (v0I : Int32) (v1I : Int32) (v2I : Int32) (σ : AM) : VX eI G p l e s m args below meth c 0 z0 u0 3 (lpK (lpn F_Md_within n) (T_Md_within_0 v0I v1I v2I σ)) 0 [(0, .int v0I), (1, .int v1I), (2, .int v2I)] [] σ := by
  unfold T_Md_within_0
  refine x_iload_n C d_Md_within_0 0 rfl ?_
  refine x_iload_n C d_Md_within_1 1 rfl ?_
  refine x_icmp_lt (tgt := 14) C d_Md_within_2 (by decide) (fun _ => ?_) (fun _ => ?_)
  · refine x_lv [] rfl ?_
    exact IH.2.1  (σ)
  · refine x_iload_n C d_Md_within_5 0 rfl ?_
    refine x_iload_n C d_Md_within_6 2 rfl ?_
    refine x_icmp_gt (tgt := 14) C d_Md_within_7 (by decide) (fun _ => ?_) (fun _ => ?_)
    · refine x_lv [] rfl ?_
      exact IH.2.1  (σ)
    · refine x_iconst (v := (1 : Int32)) C d_Md_within_10 (by decide) ?_
      refine x_goto (tgt := 15) C d_Md_within_11 (by decide) ?_
      refine x_lv [] rfl ?_
      exact IH.2.2 ((1 : Int32)) (σ)
set_option maxRecDepth 20000 in
theorem s_Md_within_1 {G : GX} {p : Program} {l : Launch} {e : Env} {s : State} {m : MethodId} {args : Array Value} {below : List Frame} {meth : Method} {c : Code} {z0 u0 n : Nat} (C : Cx G p s m args meth c prog_14_method_17_code 3 "BellPlateModel" ((some FieldType.boolean))) (IH : I_Md_within G p l e s m args below meth c z0 u0 n)  (σ : AM) : VX eI G p l e s m args below meth c 0 z0 u0 3 (lpK (lpn F_Md_within n) (T_Md_within_1  σ)) 14 [] [] σ := by
  unfold T_Md_within_1
  refine x_iconst (v := (0 : Int32)) C d_Md_within_14 (by decide) ?_
  exact IH.2.2 ((0 : Int32)) (σ)
set_option maxRecDepth 20000 in
theorem s_Md_within_2 {G : GX} {p : Program} {l : Launch} {e : Env} {s : State} {m : MethodId} {args : Array Value} {below : List Frame} {meth : Method} {c : Code} {z0 u0 n : Nat} (C : Cx G p s m args meth c prog_14_method_17_code 3 "BellPlateModel" ((some FieldType.boolean))) (IH : I_Md_within G p l e s m args below meth c z0 u0 n) (s0I : Int32) (σ : AM) : VX eI G p l e s m args below meth c 0 z0 u0 3 (lpK (lpn F_Md_within n) (T_Md_within_2 s0I σ)) 15 [] [.int s0I] σ := by
  unfold T_Md_within_2
  refine x_gd (fun h1 => ?_)
  exact x_zret C (isB_narrow h1) d_Md_within_15
theorem i_Md_within {G : GX} {p : Program} {l : Launch} {e : Env} {s : State} {m : MethodId} {args : Array Value} {below : List Frame} {meth : Method} {c : Code} {z0 u0 : Nat} (C : Cx G p s m args meth c prog_14_method_17_code 3 "BellPlateModel" ((some FieldType.boolean))) (n : Nat) : I_Md_within G p l e s m args below meth c z0 u0 n := by
  induction n with
  | zero => exact ⟨fun _ _ _ _ => x_none, fun _ => x_none, fun _ _ => x_none⟩
  | succ n IH => exact ⟨fun v0I v1I v2I σ => s_Md_within_0 C IH v0I v1I v2I σ, fun σ => s_Md_within_1 C IH σ, fun s0I σ => s_Md_within_2 C IH s0I σ⟩
theorem c_Md_within (G : GX) (l : Launch) (v0I : Int32) (v1I : Int32) (v2I : Int32) (σ : AM) : CT eI G l 0 y_Md_within prog_14_method_17_code 3 ((some FieldType.boolean)) [.int v0I, .int v1I, .int v2I] σ (M_Md_within v0I v1I v2I σ) := by
  refine ct_of (by decide +kernel) (Nat.le_of_ble_eq_true rfl) (fun p e s m args below meth c C hin => ?_)
  refine x_lve (lv' := [(0, .int v0I), (1, .int v1I), (2, .int v2I)]) rfl ?_
  intro r σ' h
  obtain ⟨n, hn⟩ := (lp_iff _ _ _).mp h
  exact (i_Md_within C n).1 v0I v1I v2I σ r σ' hn
/-! BellPlateModel.lays(J)V -/
abbrev y_Md_lays : MethodName := ⟨"BellPlateModel", "lays", "(J)V"⟩
theorem k_Md_lays : y_Md_lays.cls ≠ "java/lang/invoke/MethodHandle" ∧ y_Md_lays.cls ≠ "java/lang/invoke/VarHandle" ∧ (parseMethodDescriptor y_Md_lays.desc).map (fun d => d.parameters.length) = some 1 := by decide +kernel
theorem d_Md_lays_0 : decode prog_14_method_3_code 0 = .ok (.bipush 56, 2) := by decide +kernel
theorem d_Md_lays_2 : decode prog_14_method_3_code 2 = .ok (.istore_n 3, 1) := by decide +kernel
theorem d_Md_lays_3 : decode prog_14_method_3_code 3 = .ok (.iload_n 3, 1) := by decide +kernel
theorem d_Md_lays_4 : decode prog_14_method_3_code 4 = .ok (.ifCond .lt 71, 3) := by decide +kernel
theorem d_Md_lays_7 : decode prog_14_method_3_code 7 = .ok (.lload_n 1, 1) := by decide +kernel
theorem d_Md_lays_8 : decode prog_14_method_3_code 8 = .ok (.iload_n 3, 1) := by decide +kernel
theorem d_Md_lays_9 : decode prog_14_method_3_code 9 = .ok (.lshr, 1) := by decide +kernel
theorem d_Md_lays_10 : decode prog_14_method_3_code 10 = .ok (.l2i, 1) := by decide +kernel
theorem d_Md_lays_11 : decode prog_14_method_3_code 11 = .ok (.sipush 255, 3) := by decide +kernel
theorem d_Md_lays_14 : decode prog_14_method_3_code 14 = .ok (.iand, 1) := by decide +kernel
theorem d_Md_lays_15 : decode prog_14_method_3_code 15 = .ok (.istore 4, 2) := by decide +kernel
theorem d_Md_lays_17 : decode prog_14_method_3_code 17 = .ok (.iload 4, 2) := by decide +kernel
theorem d_Md_lays_19 : decode prog_14_method_3_code 19 = .ok (.bipush 10, 2) := by decide +kernel
theorem d_Md_lays_21 : decode prog_14_method_3_code 21 = .ok (.if_icmp .eq 17, 3) := by decide +kernel
theorem d_Md_lays_24 : decode prog_14_method_3_code 24 = .ok (.iload 4, 2) := by decide +kernel
theorem d_Md_lays_26 : decode prog_14_method_3_code 26 = .ok (.bipush 32, 2) := by decide +kernel
theorem d_Md_lays_28 : decode prog_14_method_3_code 28 = .ok (.if_icmp .lt 41, 3) := by decide +kernel
theorem d_Md_lays_31 : decode prog_14_method_3_code 31 = .ok (.iload 4, 2) := by decide +kernel
theorem d_Md_lays_33 : decode prog_14_method_3_code 33 = .ok (.bipush 126, 2) := by decide +kernel
theorem d_Md_lays_35 : decode prog_14_method_3_code 35 = .ok (.if_icmp .gt 34, 3) := by decide +kernel
theorem d_Md_lays_38 : decode prog_14_method_3_code 38 = .ok (.aload_n 0, 1) := by decide +kernel
theorem d_Md_lays_39 : decode prog_14_method_3_code 39 = .ok (.getfield 11, 3) := by decide +kernel
theorem d_Md_lays_42 : decode prog_14_method_3_code 42 = .ok (.sipush 1000, 3) := by decide +kernel
theorem d_Md_lays_45 : decode prog_14_method_3_code 45 = .ok (.if_icmp .ge 24, 3) := by decide +kernel
theorem d_Md_lays_48 : decode prog_14_method_3_code 48 = .ok (.aload_n 0, 1) := by decide +kernel
theorem d_Md_lays_49 : decode prog_14_method_3_code 49 = .ok (.getfield 14, 3) := by decide +kernel
theorem d_Md_lays_52 : decode prog_14_method_3_code 52 = .ok (.aload_n 0, 1) := by decide +kernel
theorem d_Md_lays_53 : decode prog_14_method_3_code 53 = .ok (.getfield 11, 3) := by decide +kernel
theorem d_Md_lays_56 : decode prog_14_method_3_code 56 = .ok (.iload 4, 2) := by decide +kernel
theorem d_Md_lays_58 : decode prog_14_method_3_code 58 = .ok (.iastore, 1) := by decide +kernel
theorem d_Md_lays_59 : decode prog_14_method_3_code 59 = .ok (.aload_n 0, 1) := by decide +kernel
theorem d_Md_lays_60 : decode prog_14_method_3_code 60 = .ok (.dup, 1) := by decide +kernel
theorem d_Md_lays_61 : decode prog_14_method_3_code 61 = .ok (.getfield 11, 3) := by decide +kernel
theorem d_Md_lays_64 : decode prog_14_method_3_code 64 = .ok (.iconst 1, 1) := by decide +kernel
theorem d_Md_lays_65 : decode prog_14_method_3_code 65 = .ok (.iadd, 1) := by decide +kernel
theorem d_Md_lays_66 : decode prog_14_method_3_code 66 = .ok (.putfield 11, 3) := by decide +kernel
theorem d_Md_lays_69 : decode prog_14_method_3_code 69 = .ok (.iinc 3 (-8), 3) := by decide +kernel
theorem d_Md_lays_72 : decode prog_14_method_3_code 72 = .ok (.goto (-69), 3) := by decide +kernel
theorem d_Md_lays_75 : decode prog_14_method_3_code 75 = .ok (.return_, 1) := by decide +kernel
abbrev S_Md_lays : Type := Nat × Nat × Int64 × Int32 × Int32 × AM
noncomputable def T_Md_lays_0 (v0R : Nat) (v1J : Int64) (σ : AM) : S_Md_lays ⊕ Option (Unit × AM) :=
  .inl (1, v0R, v1J, (56 : Int32), 0, σ)
noncomputable def T_Md_lays_1 (v0R : Nat) (v1J : Int64) (v3I : Int32) (σ : AM) : S_Md_lays ⊕ Option (Unit × AM) :=
  if v3I < 0 then (.inr (some ((), σ))) else (letT (((v1J >>> (v3I.toInt64 &&& 63)).toInt32) &&& (255 : Int32)) fun x1 => if x1 = (10 : Int32) then (.inl (2, v0R, v1J, v3I, x1, σ)) else (if x1 < (32 : Int32) then (.inl (3, v0R, v1J, v3I, 0, σ)) else (if (126 : Int32) < x1 then (.inl (3, v0R, v1J, v3I, 0, σ)) else (.inl (2, v0R, v1J, v3I, x1, σ)))))
noncomputable def T_Md_lays_2 (v0R : Nat) (v1J : Int64) (v3I : Int32) (v4I : Int32) (σ : AM) : S_Md_lays ⊕ Option (Unit × AM) :=
  gdT (okO σ v0R 12) <| if (aI σ v0R 2) < (1000 : Int32) then (gdT (okO σ (aR σ v0R 1) 101) <| gdT (inB (aI σ v0R 2) (aN σ (aR σ v0R 1))) <| letT (sI σ (aR σ v0R 1) (aI σ v0R 2).toNatClampNeg v4I) fun σ4 => letT (sI σ4 v0R 2 ((aI σ4 v0R 2) + (1 : Int32))) fun σ6 => .inl (3, v0R, v1J, v3I, 0, σ6)) else (.inl (3, v0R, v1J, v3I, 0, σ))
noncomputable def T_Md_lays_3 (v0R : Nat) (v1J : Int64) (v3I : Int32) (σ : AM) : S_Md_lays ⊕ Option (Unit × AM) :=
  .inl (1, v0R, v1J, v3I + ((-8) : Int32), 0, σ)
noncomputable def F_Md_lays : S_Md_lays → S_Md_lays ⊕ Option (Unit × AM) := fun s => match s.1 with
  | 0 => T_Md_lays_0 (s.2.1) (s.2.2.1) (s.2.2.2.2.2)
  | 1 => T_Md_lays_1 (s.2.1) (s.2.2.1) (s.2.2.2.1) (s.2.2.2.2.2)
  | 2 => T_Md_lays_2 (s.2.1) (s.2.2.1) (s.2.2.2.1) (s.2.2.2.2.1) (s.2.2.2.2.2)
  | _ => T_Md_lays_3 (s.2.1) (s.2.2.1) (s.2.2.2.1) (s.2.2.2.2.2)
noncomputable def L_Md_lays_0 (v0R : Nat) (v1J : Int64) (σ : AM) : Option (Unit × AM) := lp F_Md_lays (0, v0R, v1J, 0, 0, σ)
noncomputable def L_Md_lays_1 (v0R : Nat) (v1J : Int64) (v3I : Int32) (σ : AM) : Option (Unit × AM) := lp F_Md_lays (1, v0R, v1J, v3I, 0, σ)
noncomputable def L_Md_lays_2 (v0R : Nat) (v1J : Int64) (v3I : Int32) (v4I : Int32) (σ : AM) : Option (Unit × AM) := lp F_Md_lays (2, v0R, v1J, v3I, v4I, σ)
noncomputable def L_Md_lays_3 (v0R : Nat) (v1J : Int64) (v3I : Int32) (σ : AM) : Option (Unit × AM) := lp F_Md_lays (3, v0R, v1J, v3I, 0, σ)
theorem E_Md_lays_0 (v0R : Nat) (v1J : Int64) (σ : AM) : L_Md_lays_0 v0R v1J σ = (L_Md_lays_1 v0R v1J ((56 : Int32)) σ) := by
  unfold L_Md_lays_0
  rw [lp_eq]
  show lpK (lp F_Md_lays) (T_Md_lays_0 v0R v1J σ) = _
  unfold T_Md_lays_0
  simp only [lpK_ite, lpK_inl, lpK_inr, lpK_bnd, lpK_gd, lpK_let]
  try rfl
theorem E_Md_lays_1 (v0R : Nat) (v1J : Int64) (v3I : Int32) (σ : AM) : L_Md_lays_1 v0R v1J v3I σ = (if v3I < 0 then ((some ((), σ))) else (letT (((v1J >>> (v3I.toInt64 &&& 63)).toInt32) &&& (255 : Int32)) fun x1 => if x1 = (10 : Int32) then (L_Md_lays_2 v0R v1J v3I x1 σ) else (if x1 < (32 : Int32) then (L_Md_lays_3 v0R v1J v3I σ) else (if (126 : Int32) < x1 then (L_Md_lays_3 v0R v1J v3I σ) else (L_Md_lays_2 v0R v1J v3I x1 σ))))) := by
  unfold L_Md_lays_1
  rw [lp_eq]
  show lpK (lp F_Md_lays) (T_Md_lays_1 v0R v1J v3I σ) = _
  unfold T_Md_lays_1
  simp only [lpK_ite, lpK_inl, lpK_inr, lpK_bnd, lpK_gd, lpK_let]
  try rfl
theorem E_Md_lays_2 (v0R : Nat) (v1J : Int64) (v3I : Int32) (v4I : Int32) (σ : AM) : L_Md_lays_2 v0R v1J v3I v4I σ = (gd (okO σ v0R 12) <| if (aI σ v0R 2) < (1000 : Int32) then (gd (okO σ (aR σ v0R 1) 101) <| gd (inB (aI σ v0R 2) (aN σ (aR σ v0R 1))) <| letT (sI σ (aR σ v0R 1) (aI σ v0R 2).toNatClampNeg v4I) fun σ4 => letT (sI σ4 v0R 2 ((aI σ4 v0R 2) + (1 : Int32))) fun σ6 => L_Md_lays_3 v0R v1J v3I σ6) else (L_Md_lays_3 v0R v1J v3I σ)) := by
  unfold L_Md_lays_2
  rw [lp_eq]
  show lpK (lp F_Md_lays) (T_Md_lays_2 v0R v1J v3I v4I σ) = _
  unfold T_Md_lays_2
  simp only [lpK_ite, lpK_inl, lpK_inr, lpK_bnd, lpK_gd, lpK_let]
  try rfl
theorem E_Md_lays_3 (v0R : Nat) (v1J : Int64) (v3I : Int32) (σ : AM) : L_Md_lays_3 v0R v1J v3I σ = (L_Md_lays_1 v0R v1J (v3I + ((-8) : Int32)) σ) := by
  unfold L_Md_lays_3
  rw [lp_eq]
  show lpK (lp F_Md_lays) (T_Md_lays_3 v0R v1J v3I σ) = _
  unfold T_Md_lays_3
  simp only [lpK_ite, lpK_inl, lpK_inr, lpK_bnd, lpK_gd, lpK_let]
  try rfl
noncomputable def M_Md_lays (v0R : Nat) (v1J : Int64) (σ : AM) : Option (Unit × AM) := mw σ (L_Md_lays_0 v0R v1J σ)
def I_Md_lays (G : GX) (p : Program) (l : Launch) (e : Env) (s : State) (m : MethodId) (args : Array Value) (below : List Frame) (meth : Method) (c : Code) (z0 u0 n : Nat) : Prop :=
  (∀ (v0R : Nat) (v1J : Int64) (σ : AM), VX eV G p l e s m args below meth c 0 z0 u0 5 (lpn F_Md_lays n (0, v0R, v1J, 0, 0, σ)) 0 [(0, .ref v0R), (1, .long v1J)] [] σ) ∧
  (∀ (v0R : Nat) (v1J : Int64) (v3I : Int32) (σ : AM), VX eV G p l e s m args below meth c 0 z0 u0 5 (lpn F_Md_lays n (1, v0R, v1J, v3I, 0, σ)) 3 [(0, .ref v0R), (1, .long v1J), (3, .int v3I)] [] σ) ∧
  (∀ (v0R : Nat) (v1J : Int64) (v3I : Int32) (v4I : Int32) (σ : AM), VX eV G p l e s m args below meth c 0 z0 u0 5 (lpn F_Md_lays n (2, v0R, v1J, v3I, v4I, σ)) 38 [(0, .ref v0R), (1, .long v1J), (3, .int v3I), (4, .int v4I)] [] σ) ∧
  (∀ (v0R : Nat) (v1J : Int64) (v3I : Int32) (σ : AM), VX eV G p l e s m args below meth c 0 z0 u0 5 (lpn F_Md_lays n (3, v0R, v1J, v3I, 0, σ)) 69 [(0, .ref v0R), (1, .long v1J), (3, .int v3I)] [] σ)
set_option maxRecDepth 20000 in
theorem s_Md_lays_0 {G : GX} {p : Program} {l : Launch} {e : Env} {s : State} {m : MethodId} {args : Array Value} {below : List Frame} {meth : Method} {c : Code} {z0 u0 n : Nat} (C : Cx G p s m args meth c prog_14_method_3_code 5 "BellPlateModel" ((none))) (IH : I_Md_lays G p l e s m args below meth c z0 u0 n) (v0R : Nat) (v1J : Int64) (σ : AM) : VX eV G p l e s m args below meth c 0 z0 u0 5 (lpK (lpn F_Md_lays n) (T_Md_lays_0 v0R v1J σ)) 0 [(0, .ref v0R), (1, .long v1J)] [] σ := by
  unfold T_Md_lays_0
  refine x_bipush (v := (56 : Int32)) C d_Md_lays_0 (by decide) ?_
  refine x_istore_n (lv' := [(3, .int (56 : Int32)), (0, .ref v0R), (1, .long v1J)]) C d_Md_lays_2 (by decide) rfl rfl ?_
  refine x_lv [1, 2, 0] rfl ?_
  exact IH.2.1 v0R v1J ((56 : Int32)) (σ)
set_option maxRecDepth 20000 in
theorem s_Md_lays_1 {G : GX} {p : Program} {l : Launch} {e : Env} {s : State} {m : MethodId} {args : Array Value} {below : List Frame} {meth : Method} {c : Code} {z0 u0 n : Nat} (C : Cx G p s m args meth c prog_14_method_3_code 5 "BellPlateModel" ((none))) (IH : I_Md_lays G p l e s m args below meth c z0 u0 n) (v0R : Nat) (v1J : Int64) (v3I : Int32) (σ : AM) : VX eV G p l e s m args below meth c 0 z0 u0 5 (lpK (lpn F_Md_lays n) (T_Md_lays_1 v0R v1J v3I σ)) 3 [(0, .ref v0R), (1, .long v1J), (3, .int v3I)] [] σ := by
  unfold T_Md_lays_1
  refine x_iload_n C d_Md_lays_3 2 rfl ?_
  refine x_if_lt (tgt := 75) C d_Md_lays_4 (by decide) (fun _ => ?_) (fun _ => ?_)
  · exact x_vret C d_Md_lays_75
  · refine x_lload_n C d_Md_lays_7 1 rfl ?_
    refine x_iload_n C d_Md_lays_8 2 rfl ?_
    refine x_lshr C d_Md_lays_9 ?_
    refine x_l2i C d_Md_lays_10 ?_
    refine x_sipush (v := (255 : Int32)) C d_Md_lays_11 (by decide) ?_
    refine x_iand C d_Md_lays_14 ?_
    refine x_letI (fun x1 _ => ?_)
    refine x_istore (lv' := [(4, .int x1), (0, .ref v0R), (1, .long v1J), (3, .int v3I)]) C d_Md_lays_15 (by decide) rfl ?_
    refine x_iload C d_Md_lays_17 0 rfl ?_
    refine x_bipush (v := (10 : Int32)) C d_Md_lays_19 (by decide) ?_
    refine x_icmp_eq (tgt := 38) C d_Md_lays_21 (by decide) (fun _ => ?_) (fun _ => ?_)
    · refine x_lv [1, 2, 3, 0] rfl ?_
      exact IH.2.2.1 v0R v1J v3I x1 (σ)
    · refine x_iload C d_Md_lays_24 0 rfl ?_
      refine x_bipush (v := (32 : Int32)) C d_Md_lays_26 (by decide) ?_
      refine x_icmp_lt (tgt := 69) C d_Md_lays_28 (by decide) (fun _ => ?_) (fun _ => ?_)
      · refine x_lv [1, 2, 3] rfl ?_
        exact IH.2.2.2 v0R v1J v3I (σ)
      · refine x_iload C d_Md_lays_31 0 rfl ?_
        refine x_bipush (v := (126 : Int32)) C d_Md_lays_33 (by decide) ?_
        refine x_icmp_gt (tgt := 69) C d_Md_lays_35 (by decide) (fun _ => ?_) (fun _ => ?_)
        · refine x_lv [1, 2, 3] rfl ?_
          exact IH.2.2.2 v0R v1J v3I (σ)
        · refine x_lv [1, 2, 3, 0] rfl ?_
          exact IH.2.2.1 v0R v1J v3I x1 (σ)
set_option maxRecDepth 20000 in
theorem s_Md_lays_2 {G : GX} {p : Program} {l : Launch} {e : Env} {s : State} {m : MethodId} {args : Array Value} {below : List Frame} {meth : Method} {c : Code} {z0 u0 n : Nat} (C : Cx G p s m args meth c prog_14_method_3_code 5 "BellPlateModel" ((none))) (IH : I_Md_lays G p l e s m args below meth c z0 u0 n) (v0R : Nat) (v1J : Int64) (v3I : Int32) (v4I : Int32) (σ : AM) : VX eV G p l e s m args below meth c 0 z0 u0 5 (lpK (lpn F_Md_lays n) (T_Md_lays_2 v0R v1J v3I v4I σ)) 38 [(0, .ref v0R), (1, .long v1J), (3, .int v3I), (4, .int v4I)] [] σ := by
  unfold T_Md_lays_2
  refine x_aload_n C d_Md_lays_38 0 rfl ?_
  refine x_gd (fun h1 => ?_)
  refine x_getI (k := 2) C (okO_iff.mp h1) rfl j11_ok (by decide) rfl w1854 d_Md_lays_39 ?_
  refine x_sipush (v := (1000 : Int32)) C d_Md_lays_42 (by decide) ?_
  refine x_icmp_ge (tgt := 69) C d_Md_lays_45 (by decide) (fun _ => ?_) (fun _ => ?_)
  · refine x_aload_n C d_Md_lays_48 0 rfl ?_
    refine x_gd (fun h2 => ?_)
    refine x_getR (k := 1) C (okO_iff.mp h1) rfl j11_ok (by decide) rfl (okO_iff.mp h2) (by decide) w1853 d_Md_lays_49 ?_
    refine x_aload_n C d_Md_lays_52 0 rfl ?_
    refine x_getI (k := 2) C (okO_iff.mp h1) rfl j11_ok (by decide) rfl w1854 d_Md_lays_53 ?_
    refine x_iload C d_Md_lays_56 3 rfl ?_
    refine x_gd (fun h3 => ?_)
    refine x_astI C (okO_iff.mp h2) (inB_iff.mp h3) d_Md_lays_58 ?_
    refine x_letS (fun σ4 e5 => ?_)
    refine x_aload_n C d_Md_lays_59 0 rfl ?_
    refine x_dup C d_Md_lays_60 rfl ?_
    refine x_getI (k := 2) C (by rw [e5]; exact (okO_iff.mp h1)) rfl j11_ok (by decide) rfl w1854 d_Md_lays_61 ?_
    refine x_iconst (v := (1 : Int32)) C d_Md_lays_64 (by decide) ?_
    refine x_iadd C d_Md_lays_65 ?_
    refine x_putI (k := 2) C (by rw [e5]; exact (okO_iff.mp h1)) rfl j11_ok y11_ok n11_ok (by decide) rfl rfl rfl rfl w1854 d_Md_lays_66 ?_
    refine x_letS (fun σ6 e7 => ?_)
    refine x_lv [0, 1, 2] rfl ?_
    exact IH.2.2.2 v0R v1J v3I (σ6)
  · refine x_lv [0, 1, 2] rfl ?_
    exact IH.2.2.2 v0R v1J v3I (σ)
set_option maxRecDepth 20000 in
theorem s_Md_lays_3 {G : GX} {p : Program} {l : Launch} {e : Env} {s : State} {m : MethodId} {args : Array Value} {below : List Frame} {meth : Method} {c : Code} {z0 u0 n : Nat} (C : Cx G p s m args meth c prog_14_method_3_code 5 "BellPlateModel" ((none))) (IH : I_Md_lays G p l e s m args below meth c z0 u0 n) (v0R : Nat) (v1J : Int64) (v3I : Int32) (σ : AM) : VX eV G p l e s m args below meth c 0 z0 u0 5 (lpK (lpn F_Md_lays n) (T_Md_lays_3 v0R v1J v3I σ)) 69 [(0, .ref v0R), (1, .long v1J), (3, .int v3I)] [] σ := by
  unfold T_Md_lays_3
  refine x_iinc (v := v3I + ((-8) : Int32)) (lv' := [(3, .int (v3I + ((-8) : Int32))), (0, .ref v0R), (1, .long v1J)]) C d_Md_lays_69 2 rfl rfl (by decide) rfl ?_
  refine x_goto (tgt := 3) C d_Md_lays_72 (by decide) ?_
  refine x_lv [1, 2, 0] rfl ?_
  exact IH.2.1 v0R v1J (v3I + ((-8) : Int32)) (σ)
theorem i_Md_lays {G : GX} {p : Program} {l : Launch} {e : Env} {s : State} {m : MethodId} {args : Array Value} {below : List Frame} {meth : Method} {c : Code} {z0 u0 : Nat} (C : Cx G p s m args meth c prog_14_method_3_code 5 "BellPlateModel" ((none))) (n : Nat) : I_Md_lays G p l e s m args below meth c z0 u0 n := by
  induction n with
  | zero => exact ⟨fun _ _ _ => x_none, fun _ _ _ _ => x_none, fun _ _ _ _ _ => x_none, fun _ _ _ _ => x_none⟩
  | succ n IH => exact ⟨fun v0R v1J σ => s_Md_lays_0 C IH v0R v1J σ, fun v0R v1J v3I σ => s_Md_lays_1 C IH v0R v1J v3I σ, fun v0R v1J v3I v4I σ => s_Md_lays_2 C IH v0R v1J v3I v4I σ, fun v0R v1J v3I σ => s_Md_lays_3 C IH v0R v1J v3I σ⟩
theorem c_Md_lays (G : GX) (l : Launch) (v0R : Nat) (v1J : Int64) (σ : AM) : CT eV G l 0 y_Md_lays prog_14_method_3_code 5 (none) [.ref v0R, .long v1J] σ (M_Md_lays v0R v1J σ) := by
  refine ct_of (by decide +kernel) (Nat.le_of_ble_eq_true rfl) (fun p e s m args below meth c C hin => ?_)
  refine x_lve (lv' := [(0, .ref v0R), (1, .long v1J)]) rfl ?_
  intro r σ' h
  obtain ⟨n, hn⟩ := (lp_iff _ _ _).mp h
  exact (i_Md_lays C n).1 v0R v1J σ r σ' hn
/-! BellPlateModel.feed(JJJ)I -/
abbrev y_Md_feed : MethodName := ⟨"BellPlateModel", "feed", "(JJJ)I"⟩
theorem k_Md_feed : y_Md_feed.cls ≠ "java/lang/invoke/MethodHandle" ∧ y_Md_feed.cls ≠ "java/lang/invoke/VarHandle" ∧ (parseMethodDescriptor y_Md_feed.desc).map (fun d => d.parameters.length) = some 3 := by decide +kernel
theorem d_Md_feed_0 : decode prog_14_method_2_code 0 = .ok (.aload_n 0, 1) := by decide +kernel
theorem d_Md_feed_1 : decode prog_14_method_2_code 1 = .ok (.iconst 0, 1) := by decide +kernel
theorem d_Md_feed_2 : decode prog_14_method_2_code 2 = .ok (.putfield 1, 3) := by decide +kernel
theorem d_Md_feed_5 : decode prog_14_method_2_code 5 = .ok (.aload_n 0, 1) := by decide +kernel
theorem d_Md_feed_6 : decode prog_14_method_2_code 6 = .ok (.lload_n 1, 1) := by decide +kernel
theorem d_Md_feed_7 : decode prog_14_method_2_code 7 = .ok (.invokevirtual 7, 3) := by decide +kernel
theorem d_Md_feed_10 : decode prog_14_method_2_code 10 = .ok (.aload_n 0, 1) := by decide +kernel
theorem d_Md_feed_11 : decode prog_14_method_2_code 11 = .ok (.lload_n 3, 1) := by decide +kernel
theorem d_Md_feed_12 : decode prog_14_method_2_code 12 = .ok (.invokevirtual 7, 3) := by decide +kernel
theorem d_Md_feed_15 : decode prog_14_method_2_code 15 = .ok (.aload_n 0, 1) := by decide +kernel
theorem d_Md_feed_16 : decode prog_14_method_2_code 16 = .ok (.lload 5, 2) := by decide +kernel
theorem d_Md_feed_18 : decode prog_14_method_2_code 18 = .ok (.invokevirtual 7, 3) := by decide +kernel
theorem d_Md_feed_21 : decode prog_14_method_2_code 21 = .ok (.aload_n 0, 1) := by decide +kernel
theorem d_Md_feed_22 : decode prog_14_method_2_code 22 = .ok (.getfield 11, 3) := by decide +kernel
theorem d_Md_feed_25 : decode prog_14_method_2_code 25 = .ok (.ireturn, 1) := by decide +kernel
abbrev S_Md_feed : Type := Nat × Nat × Int64 × Int64 × Int64 × AM
noncomputable def T_Md_feed_0 (v0R : Nat) (v1J : Int64) (v3J : Int64) (v5J : Int64) (σ : AM) : S_Md_feed ⊕ Option (Int32 × AM) :=
  gdT (okO σ v0R 12) <| letT (sI σ v0R 0 (0 : Int32)) fun σ2 => bndT (M_Md_lays v0R v1J σ2) fun _ σ5 => gdT (okO σ5 v0R 12) <| bndT (M_Md_lays v0R v3J σ5) fun _ σ7 => gdT (okO σ7 v0R 12) <| bndT (M_Md_lays v0R v5J σ7) fun _ σ10 => gdT (okO σ10 v0R 12) <| .inr (some ((aI σ10 v0R 2), σ10))
noncomputable def F_Md_feed : S_Md_feed → S_Md_feed ⊕ Option (Int32 × AM) := fun s => match s.1 with
  | _ => T_Md_feed_0 (s.2.1) (s.2.2.1) (s.2.2.2.1) (s.2.2.2.2.1) (s.2.2.2.2.2)
noncomputable def L_Md_feed_0 (v0R : Nat) (v1J : Int64) (v3J : Int64) (v5J : Int64) (σ : AM) : Option (Int32 × AM) := lp F_Md_feed (0, v0R, v1J, v3J, v5J, σ)
theorem E_Md_feed_0 (v0R : Nat) (v1J : Int64) (v3J : Int64) (v5J : Int64) (σ : AM) : L_Md_feed_0 v0R v1J v3J v5J σ = (gd (okO σ v0R 12) <| letT (sI σ v0R 0 (0 : Int32)) fun σ2 => bnd (M_Md_lays v0R v1J σ2) fun _ σ5 => gd (okO σ5 v0R 12) <| bnd (M_Md_lays v0R v3J σ5) fun _ σ7 => gd (okO σ7 v0R 12) <| bnd (M_Md_lays v0R v5J σ7) fun _ σ10 => gd (okO σ10 v0R 12) <| (some ((aI σ10 v0R 2), σ10))) := by
  unfold L_Md_feed_0
  rw [lp_eq]
  show lpK (lp F_Md_feed) (T_Md_feed_0 v0R v1J v3J v5J σ) = _
  unfold T_Md_feed_0
  simp only [lpK_ite, lpK_inl, lpK_inr, lpK_bnd, lpK_gd, lpK_let]
  try rfl
noncomputable def M_Md_feed (v0R : Nat) (v1J : Int64) (v3J : Int64) (v5J : Int64) (σ : AM) : Option (Int32 × AM) := mw σ (L_Md_feed_0 v0R v1J v3J v5J σ)
def I_Md_feed (G : GX) (p : Program) (l : Launch) (e : Env) (s : State) (m : MethodId) (args : Array Value) (below : List Frame) (meth : Method) (c : Code) (z0 u0 n : Nat) : Prop :=
  (∀ (v0R : Nat) (v1J : Int64) (v3J : Int64) (v5J : Int64) (σ : AM), VX eI G p l e s m args below meth c 1 z0 u0 7 (lpn F_Md_feed n (0, v0R, v1J, v3J, v5J, σ)) 0 [(0, .ref v0R), (1, .long v1J), (3, .long v3J), (5, .long v5J)] [] σ)
set_option maxRecDepth 20000 in
theorem s_Md_feed_0 {G : GX} {p : Program} {l : Launch} {e : Env} {s : State} {m : MethodId} {args : Array Value} {below : List Frame} {meth : Method} {c : Code} {z0 u0 n : Nat} (C : Cx G p s m args meth c prog_14_method_2_code 7 "BellPlateModel" ((some FieldType.int))) (IH : I_Md_feed G p l e s m args below meth c z0 u0 n) (v0R : Nat) (v1J : Int64) (v3J : Int64) (v5J : Int64) (σ : AM) : VX eI G p l e s m args below meth c 1 z0 u0 7 (lpK (lpn F_Md_feed n) (T_Md_feed_0 v0R v1J v3J v5J σ)) 0 [(0, .ref v0R), (1, .long v1J), (3, .long v3J), (5, .long v5J)] [] σ := by
  unfold T_Md_feed_0
  refine x_aload_n C d_Md_feed_0 0 rfl ?_
  refine x_iconst (v := (0 : Int32)) C d_Md_feed_1 (by decide) ?_
  refine x_gd (fun h1 => ?_)
  refine x_putI (k := 0) C (okO_iff.mp h1) rfl j11_ok y11_ok n11_ok (by decide) rfl rfl rfl rfl w1852 d_Md_feed_2 ?_
  refine x_letS (fun σ2 e3 => ?_)
  refine x_aload_n C d_Md_feed_5 0 rfl ?_
  refine x_lload_n C d_Md_feed_6 1 rfl ?_
  refine x_callVV (As := [.long v1J]) C (c_Md_lays G l v0R v1J σ2) (by rw [e3]; exact (okO_iff.mp h1)) rfl w1793 w54 w1791 w1795 w134 k_Md_lays rfl (by decide) (by decide) rfl (Nat.le_of_ble_eq_true rfl) d_Md_feed_7 (fun r4 σ5 => ?_)
  refine x_aload_n C d_Md_feed_10 0 rfl ?_
  refine x_lload_n C d_Md_feed_11 2 rfl ?_
  refine x_gd (fun h8 => ?_)
  refine x_callVV (As := [.long v3J]) C (c_Md_lays G l v0R v3J σ5) (okO_iff.mp h8) rfl w1793 w54 w1791 w1795 w134 k_Md_lays rfl (by decide) (by decide) rfl (Nat.le_of_ble_eq_true rfl) d_Md_feed_12 (fun r6 σ7 => ?_)
  refine x_aload_n C d_Md_feed_15 0 rfl ?_
  refine x_lload C d_Md_feed_16 3 rfl ?_
  refine x_gd (fun h11 => ?_)
  refine x_callVV (As := [.long v5J]) C (c_Md_lays G l v0R v5J σ7) (okO_iff.mp h11) rfl w1793 w54 w1791 w1795 w134 k_Md_lays rfl (by decide) (by decide) rfl (Nat.le_of_ble_eq_true rfl) d_Md_feed_18 (fun r9 σ10 => ?_)
  refine x_aload_n C d_Md_feed_21 0 rfl ?_
  refine x_gd (fun h12 => ?_)
  refine x_getI (k := 2) C (okO_iff.mp h12) rfl j11_ok (by decide) rfl w1854 d_Md_feed_22 ?_
  exact x_iret C d_Md_feed_25
theorem i_Md_feed {G : GX} {p : Program} {l : Launch} {e : Env} {s : State} {m : MethodId} {args : Array Value} {below : List Frame} {meth : Method} {c : Code} {z0 u0 : Nat} (C : Cx G p s m args meth c prog_14_method_2_code 7 "BellPlateModel" ((some FieldType.int))) (n : Nat) : I_Md_feed G p l e s m args below meth c z0 u0 n := by
  induction n with
  | zero => exact fun _ _ _ _ _ => x_none
  | succ n IH => exact fun v0R v1J v3J v5J σ => s_Md_feed_0 C IH v0R v1J v3J v5J σ
theorem c_Md_feed (G : GX) (l : Launch) (v0R : Nat) (v1J : Int64) (v3J : Int64) (v5J : Int64) (σ : AM) : CT eI G l 1 y_Md_feed prog_14_method_2_code 7 ((some FieldType.int)) [.ref v0R, .long v1J, .long v3J, .long v5J] σ (M_Md_feed v0R v1J v3J v5J σ) := by
  refine ct_of (by decide +kernel) (Nat.le_of_ble_eq_true rfl) (fun p e s m args below meth c C hin => ?_)
  refine x_lve (lv' := [(0, .ref v0R), (1, .long v1J), (3, .long v3J), (5, .long v5J)]) rfl ?_
  intro r σ' h
  obtain ⟨n, hn⟩ := (lp_iff _ _ _).mp h
  exact (i_Md_feed C n) v0R v1J v3J v5J σ r σ' hn
