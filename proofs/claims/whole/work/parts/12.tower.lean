/-! BellPlate$Tower.sets()I -/
abbrev y_Tw_sets : MethodName := ⟨"BellPlate$Tower", "sets", "()I"⟩
theorem k_Tw_sets : y_Tw_sets.cls ≠ "java/lang/invoke/MethodHandle" ∧ y_Tw_sets.cls ≠ "java/lang/invoke/VarHandle" ∧ (parseMethodDescriptor y_Tw_sets.desc).map (fun d => d.parameters.length) = some 0 := by decide +kernel
theorem d_Tw_sets_0 : decode prog_12_method_18_code 0 = .ok (.iconst 1, 1) := by decide +kernel
theorem d_Tw_sets_1 : decode prog_12_method_18_code 1 = .ok (.aload_n 0, 1) := by decide +kernel
theorem d_Tw_sets_2 : decode prog_12_method_18_code 2 = .ok (.getfield 43, 3) := by decide +kernel
theorem d_Tw_sets_5 : decode prog_12_method_18_code 5 = .ok (.ishl, 1) := by decide +kernel
theorem d_Tw_sets_6 : decode prog_12_method_18_code 6 = .ok (.ireturn, 1) := by decide +kernel
abbrev S_Tw_sets : Type := Nat × Nat × AM
noncomputable def T_Tw_sets_0 (v0R : Nat) (σ : AM) : S_Tw_sets ⊕ Option (Int32 × AM) :=
  gdT (okO σ v0R 1) <| .inr (some (((1 : Int32) <<< ((aI σ v0R 7) &&& 31)), σ))
noncomputable def F_Tw_sets : S_Tw_sets → S_Tw_sets ⊕ Option (Int32 × AM) := fun s => match s.1 with
  | _ => T_Tw_sets_0 (s.2.1) (s.2.2)
noncomputable def L_Tw_sets_0 (v0R : Nat) (σ : AM) : Option (Int32 × AM) := lp F_Tw_sets (0, v0R, σ)
set_option maxRecDepth 20000 in
theorem E_Tw_sets_0 (v0R : Nat) (σ : AM) : L_Tw_sets_0 v0R σ = (gd (okO σ v0R 1) <| (some (((1 : Int32) <<< ((aI σ v0R 7) &&& 31)), σ))) := by
  unfold L_Tw_sets_0
  rw [lp_eq]
  show lpK (lp F_Tw_sets) (T_Tw_sets_0 v0R σ) = _
  unfold T_Tw_sets_0
  simp only [lpK_ite, lq_inl, lq_inr, lpK_bnd, lpK_gd, lq_let]
  try rfl
noncomputable def M_Tw_sets (v0R : Nat) (σ : AM) : Option (Int32 × AM) := mw σ (L_Tw_sets_0 v0R σ)
def I_Tw_sets (G : GX) (p : Program) (l : Launch) (e : Env) (s : State) (m : MethodId) (args : Array Value) (below : List Frame) (meth : Method) (c : Code) (z0 u0 n : Nat) : Prop :=
  (∀ (v0R : Nat) (σ : AM), VX (QM eI G args s below z0 u0) G p l e s m args below meth c 0 z0 u0 1 (lpn F_Tw_sets n (0, v0R, σ)) 0 [(0, .ref v0R)] [] σ)
set_option maxRecDepth 20000 in
theorem s_Tw_sets_0 {G : GX} {p : Program} {l : Launch} {e : Env} {s : State} {m : MethodId} {args : Array Value} {below : List Frame} {meth : Method} {c : Code} {z0 u0 n : Nat} (C : Cx G p s m args meth c prog_12_method_18_code 1 "BellPlate$Tower" ((some FieldType.int))) (IH : I_Tw_sets G p l e s m args below meth c z0 u0 n) (v0R : Nat) (σ : AM) : VX (QM eI G args s below z0 u0) G p l e s m args below meth c 0 z0 u0 1 (lpK (lpn F_Tw_sets n) (T_Tw_sets_0 v0R σ)) 0 [(0, .ref v0R)] [] σ := by
  unfold T_Tw_sets_0
  refine x_iconst (v := (1 : Int32)) C d_Tw_sets_0 (by decide) ?_
  refine x_aload_n C d_Tw_sets_1 0 rfl ?_
  refine x_gd (fun h1 => ?_)
  refine x_getI (k := 7) C (okO_iff.mp h1) rfl j0_ok (by decide) rfl w174 d_Tw_sets_2 ?_
  refine x_ishl C d_Tw_sets_5 ?_
  exact x_iret C d_Tw_sets_6
theorem i_Tw_sets {G : GX} {p : Program} {l : Launch} {e : Env} {s : State} {m : MethodId} {args : Array Value} {below : List Frame} {meth : Method} {c : Code} {z0 u0 : Nat} (C : Cx G p s m args meth c prog_12_method_18_code 1 "BellPlate$Tower" ((some FieldType.int))) (n : Nat) : I_Tw_sets G p l e s m args below meth c z0 u0 n := by
  induction n with
  | zero => exact fun _ _ => x_none
  | succ n IH => exact fun v0R σ => s_Tw_sets_0 C IH v0R σ
theorem c_Tw_sets (G : GX) (l : Launch) (v0R : Nat) (σ : AM) : CT eI G l 0 y_Tw_sets prog_12_method_18_code 1 ((some FieldType.int)) [.ref v0R] σ (M_Tw_sets v0R σ) := by
  refine ct_of (by decide +kernel) (Nat.le_of_ble_eq_true rfl) (fun p e s m args below meth c C hin => ?_)
  refine x_lve (lv' := [(0, .ref v0R)]) rfl ?_
  intro r σ' h
  obtain ⟨n, hn⟩ := (lp_iff _ _ _).mp h
  exact (i_Tw_sets C n) v0R σ r σ' hn
/-! BellPlate$Tower.hasSet(I)Z -/
abbrev y_Tw_hasSet : MethodName := ⟨"BellPlate$Tower", "hasSet", "(I)Z"⟩
theorem k_Tw_hasSet : y_Tw_hasSet.cls ≠ "java/lang/invoke/MethodHandle" ∧ y_Tw_hasSet.cls ≠ "java/lang/invoke/VarHandle" ∧ (parseMethodDescriptor y_Tw_hasSet.desc).map (fun d => d.parameters.length) = some 1 := by decide +kernel
theorem d_Tw_hasSet_0 : decode prog_12_method_21_code 0 = .ok (.iload_n 1, 1) := by decide +kernel
theorem d_Tw_hasSet_1 : decode prog_12_method_21_code 1 = .ok (.ifCond .lt 15, 3) := by decide +kernel
theorem d_Tw_hasSet_4 : decode prog_12_method_21_code 4 = .ok (.iload_n 1, 1) := by decide +kernel
theorem d_Tw_hasSet_5 : decode prog_12_method_21_code 5 = .ok (.aload_n 0, 1) := by decide +kernel
theorem d_Tw_hasSet_6 : decode prog_12_method_21_code 6 = .ok (.invokevirtual 60, 3) := by decide +kernel
theorem d_Tw_hasSet_9 : decode prog_12_method_21_code 9 = .ok (.if_icmp .ge 7, 3) := by decide +kernel
theorem d_Tw_hasSet_12 : decode prog_12_method_21_code 12 = .ok (.iconst 1, 1) := by decide +kernel
theorem d_Tw_hasSet_13 : decode prog_12_method_21_code 13 = .ok (.goto 4, 3) := by decide +kernel
theorem d_Tw_hasSet_16 : decode prog_12_method_21_code 16 = .ok (.iconst 0, 1) := by decide +kernel
theorem d_Tw_hasSet_17 : decode prog_12_method_21_code 17 = .ok (.ireturn, 1) := by decide +kernel
abbrev S_Tw_hasSet : Type := Nat × Nat × Int32 × Int32 × AM
noncomputable def T_Tw_hasSet_0 (v0R : Nat) (v1I : Int32) (σ : AM) : S_Tw_hasSet ⊕ Option (Int32 × AM) :=
  if v1I < 0 then (.inl (1, 0, 0, 0, σ)) else (gdT (okO σ v0R 1) <| bndT (M_Tw_sets v0R σ) fun r1 σ2 => if v1I < r1 then (.inl (2, 0, 0, (1 : Int32), σ2)) else (.inl (1, 0, 0, 0, σ2)))
noncomputable def T_Tw_hasSet_1  (σ : AM) : S_Tw_hasSet ⊕ Option (Int32 × AM) :=
  .inl (2, 0, 0, (0 : Int32), σ)
noncomputable def T_Tw_hasSet_2 (s0I : Int32) (σ : AM) : S_Tw_hasSet ⊕ Option (Int32 × AM) :=
  gdT (isB s0I) <| .inr (some (s0I, σ))
noncomputable def F_Tw_hasSet : S_Tw_hasSet → S_Tw_hasSet ⊕ Option (Int32 × AM) := fun s => match s.1 with
  | 0 => T_Tw_hasSet_0 (s.2.1) (s.2.2.1) (s.2.2.2.2)
  | 1 => T_Tw_hasSet_1  (s.2.2.2.2)
  | _ => T_Tw_hasSet_2 (s.2.2.2.1) (s.2.2.2.2)
noncomputable def L_Tw_hasSet_0 (v0R : Nat) (v1I : Int32) (σ : AM) : Option (Int32 × AM) := lp F_Tw_hasSet (0, v0R, v1I, 0, σ)
noncomputable def L_Tw_hasSet_1  (σ : AM) : Option (Int32 × AM) := lp F_Tw_hasSet (1, 0, 0, 0, σ)
noncomputable def L_Tw_hasSet_2 (s0I : Int32) (σ : AM) : Option (Int32 × AM) := lp F_Tw_hasSet (2, 0, 0, s0I, σ)
set_option maxRecDepth 20000 in
theorem E_Tw_hasSet_0 (v0R : Nat) (v1I : Int32) (σ : AM) : L_Tw_hasSet_0 v0R v1I σ = (if v1I < 0 then (L_Tw_hasSet_1 σ) else (gd (okO σ v0R 1) <| bnd (M_Tw_sets v0R σ) fun r1 σ2 => if v1I < r1 then (L_Tw_hasSet_2 ((1 : Int32)) σ2) else (L_Tw_hasSet_1 σ2))) := by
  unfold L_Tw_hasSet_0
  rw [lp_eq]
  show lpK (lp F_Tw_hasSet) (T_Tw_hasSet_0 v0R v1I σ) = _
  unfold T_Tw_hasSet_0
  simp only [lpK_ite, lq_inl, lq_inr, lpK_bnd, lpK_gd, lq_let]
  try rfl
set_option maxRecDepth 20000 in
theorem E_Tw_hasSet_1  (σ : AM) : L_Tw_hasSet_1  σ = (L_Tw_hasSet_2 ((0 : Int32)) σ) := by
  unfold L_Tw_hasSet_1
  rw [lp_eq]
  show lpK (lp F_Tw_hasSet) (T_Tw_hasSet_1  σ) = _
  unfold T_Tw_hasSet_1
  simp only [lpK_ite, lq_inl, lq_inr, lpK_bnd, lpK_gd, lq_let]
  try rfl
set_option maxRecDepth 20000 in
theorem E_Tw_hasSet_2 (s0I : Int32) (σ : AM) : L_Tw_hasSet_2 s0I σ = (gd (isB s0I) <| (some (s0I, σ))) := by
  unfold L_Tw_hasSet_2
  rw [lp_eq]
  show lpK (lp F_Tw_hasSet) (T_Tw_hasSet_2 s0I σ) = _
  unfold T_Tw_hasSet_2
  simp only [lpK_ite, lq_inl, lq_inr, lpK_bnd, lpK_gd, lq_let]
  try rfl
noncomputable def M_Tw_hasSet (v0R : Nat) (v1I : Int32) (σ : AM) : Option (Int32 × AM) := mw σ (L_Tw_hasSet_0 v0R v1I σ)
def I_Tw_hasSet (G : GX) (p : Program) (l : Launch) (e : Env) (s : State) (m : MethodId) (args : Array Value) (below : List Frame) (meth : Method) (c : Code) (z0 u0 n : Nat) : Prop :=
  (∀ (v0R : Nat) (v1I : Int32) (σ : AM), VX (QM eI G args s below z0 u0) G p l e s m args below meth c 1 z0 u0 2 (lpn F_Tw_hasSet n (0, v0R, v1I, 0, σ)) 0 [(0, .ref v0R), (1, .int v1I)] [] σ) ∧
  (∀ (σ : AM), VX (QM eI G args s below z0 u0) G p l e s m args below meth c 1 z0 u0 2 (lpn F_Tw_hasSet n (1, 0, 0, 0, σ)) 16 [] [] σ) ∧
  (∀ (s0I : Int32) (σ : AM), VX (QM eI G args s below z0 u0) G p l e s m args below meth c 1 z0 u0 2 (lpn F_Tw_hasSet n (2, 0, 0, s0I, σ)) 17 [] [.int s0I] σ)
set_option maxRecDepth 20000 in
theorem s_Tw_hasSet_0 {G : GX} {p : Program} {l : Launch} {e : Env} {s : State} {m : MethodId} {args : Array Value} {below : List Frame} {meth : Method} {c : Code} {z0 u0 n : Nat} (C : Cx G p s m args meth c prog_12_method_21_code 2 "BellPlate$Tower" ((some FieldType.boolean))) (IH : I_Tw_hasSet G p l e s m args below meth c z0 u0 n) (v0R : Nat) (v1I : Int32) (σ : AM) : VX (QM eI G args s below z0 u0) G p l e s m args below meth c 1 z0 u0 2 (lpK (lpn F_Tw_hasSet n) (T_Tw_hasSet_0 v0R v1I σ)) 0 [(0, .ref v0R), (1, .int v1I)] [] σ := by
  unfold T_Tw_hasSet_0
  refine x_iload_n C d_Tw_hasSet_0 1 rfl ?_
  refine x_if_lt (tgt := 16) C d_Tw_hasSet_1 (by decide) (fun _ => ?_) (fun _ => ?_)
  · refine x_lv [] rfl ?_
    exact IH.2.1  (σ)
  · refine x_iload_n C d_Tw_hasSet_4 1 rfl ?_
    refine x_aload_n C d_Tw_hasSet_5 0 rfl ?_
    refine x_gd (fun h3 => ?_)
    refine x_callVI (As := []) C (c_Tw_sets G l v0R  σ) (okO_iff.mp h3) rfl w600 w601 w599 w602 w122 k_Tw_sets rfl (by decide) (by decide) rfl (Nat.le_of_ble_eq_true rfl) d_Tw_hasSet_6 (fun r1 σ2 => ?_)
    refine x_icmp_ge (tgt := 16) C d_Tw_hasSet_9 (by decide) (fun _ => ?_) (fun _ => ?_)
    · refine x_iconst (v := (1 : Int32)) C d_Tw_hasSet_12 (by decide) ?_
      refine x_goto (tgt := 17) C d_Tw_hasSet_13 (by decide) ?_
      refine x_lv [] rfl ?_
      exact IH.2.2 ((1 : Int32)) (σ2)
    · refine x_lv [] rfl ?_
      exact IH.2.1  (σ2)
set_option maxRecDepth 20000 in
theorem s_Tw_hasSet_1 {G : GX} {p : Program} {l : Launch} {e : Env} {s : State} {m : MethodId} {args : Array Value} {below : List Frame} {meth : Method} {c : Code} {z0 u0 n : Nat} (C : Cx G p s m args meth c prog_12_method_21_code 2 "BellPlate$Tower" ((some FieldType.boolean))) (IH : I_Tw_hasSet G p l e s m args below meth c z0 u0 n)  (σ : AM) : VX (QM eI G args s below z0 u0) G p l e s m args below meth c 1 z0 u0 2 (lpK (lpn F_Tw_hasSet n) (T_Tw_hasSet_1  σ)) 16 [] [] σ := by
  unfold T_Tw_hasSet_1
  refine x_iconst (v := (0 : Int32)) C d_Tw_hasSet_16 (by decide) ?_
  exact IH.2.2 ((0 : Int32)) (σ)
set_option maxRecDepth 20000 in
theorem s_Tw_hasSet_2 {G : GX} {p : Program} {l : Launch} {e : Env} {s : State} {m : MethodId} {args : Array Value} {below : List Frame} {meth : Method} {c : Code} {z0 u0 n : Nat} (C : Cx G p s m args meth c prog_12_method_21_code 2 "BellPlate$Tower" ((some FieldType.boolean))) (IH : I_Tw_hasSet G p l e s m args below meth c z0 u0 n) (s0I : Int32) (σ : AM) : VX (QM eI G args s below z0 u0) G p l e s m args below meth c 1 z0 u0 2 (lpK (lpn F_Tw_hasSet n) (T_Tw_hasSet_2 s0I σ)) 17 [] [.int s0I] σ := by
  unfold T_Tw_hasSet_2
  refine x_gd (fun h1 => ?_)
  exact x_zret C (isB_narrow h1) d_Tw_hasSet_17
theorem i_Tw_hasSet {G : GX} {p : Program} {l : Launch} {e : Env} {s : State} {m : MethodId} {args : Array Value} {below : List Frame} {meth : Method} {c : Code} {z0 u0 : Nat} (C : Cx G p s m args meth c prog_12_method_21_code 2 "BellPlate$Tower" ((some FieldType.boolean))) (n : Nat) : I_Tw_hasSet G p l e s m args below meth c z0 u0 n := by
  induction n with
  | zero => exact ⟨fun _ _ _ => x_none, fun _ => x_none, fun _ _ => x_none⟩
  | succ n IH => exact ⟨fun v0R v1I σ => s_Tw_hasSet_0 C IH v0R v1I σ, fun σ => s_Tw_hasSet_1 C IH σ, fun s0I σ => s_Tw_hasSet_2 C IH s0I σ⟩
theorem c_Tw_hasSet (G : GX) (l : Launch) (v0R : Nat) (v1I : Int32) (σ : AM) : CT eI G l 1 y_Tw_hasSet prog_12_method_21_code 2 ((some FieldType.boolean)) [.ref v0R, .int v1I] σ (M_Tw_hasSet v0R v1I σ) := by
  refine ct_of (by decide +kernel) (Nat.le_of_ble_eq_true rfl) (fun p e s m args below meth c C hin => ?_)
  refine x_lve (lv' := [(0, .ref v0R), (1, .int v1I)]) rfl ?_
  intro r σ' h
  obtain ⟨n, hn⟩ := (lp_iff _ _ _).mp h
  exact (i_Tw_hasSet C n).1 v0R v1I σ r σ' hn
/-! BellPlate$Tower.costOf(I)I -/
abbrev y_Tw_costOf : MethodName := ⟨"BellPlate$Tower", "costOf", "(I)I"⟩
theorem k_Tw_costOf : y_Tw_costOf.cls ≠ "java/lang/invoke/MethodHandle" ∧ y_Tw_costOf.cls ≠ "java/lang/invoke/VarHandle" ∧ (parseMethodDescriptor y_Tw_costOf.desc).map (fun d => d.parameters.length) = some 1 := by decide +kernel
theorem d_Tw_costOf_0 : decode prog_12_method_23_code 0 = .ok (.aload_n 0, 1) := by decide +kernel
theorem d_Tw_costOf_1 : decode prog_12_method_23_code 1 = .ok (.iload_n 1, 1) := by decide +kernel
theorem d_Tw_costOf_2 : decode prog_12_method_23_code 2 = .ok (.invokevirtual 67, 3) := by decide +kernel
theorem d_Tw_costOf_5 : decode prog_12_method_23_code 5 = .ok (.ifCond .eq 12, 3) := by decide +kernel
theorem d_Tw_costOf_8 : decode prog_12_method_23_code 8 = .ok (.aload_n 0, 1) := by decide +kernel
theorem d_Tw_costOf_9 : decode prog_12_method_23_code 9 = .ok (.getfield 27, 3) := by decide +kernel
theorem d_Tw_costOf_12 : decode prog_12_method_23_code 12 = .ok (.iload_n 1, 1) := by decide +kernel
theorem d_Tw_costOf_13 : decode prog_12_method_23_code 13 = .ok (.iaload, 1) := by decide +kernel
theorem d_Tw_costOf_14 : decode prog_12_method_23_code 14 = .ok (.goto 4, 3) := by decide +kernel
theorem d_Tw_costOf_17 : decode prog_12_method_23_code 17 = .ok (.iconst 0, 1) := by decide +kernel
theorem d_Tw_costOf_18 : decode prog_12_method_23_code 18 = .ok (.ireturn, 1) := by decide +kernel
abbrev S_Tw_costOf : Type := Nat × Nat × Int32 × Int32 × AM
noncomputable def T_Tw_costOf_0 (v0R : Nat) (v1I : Int32) (σ : AM) : S_Tw_costOf ⊕ Option (Int32 × AM) :=
  gdT (okO σ v0R 1) <| bndT (M_Tw_hasSet v0R v1I σ) fun r1 σ2 => if r1 = 0 then (.inl (1, 0, 0, (0 : Int32), σ2)) else (gdT (okO σ2 v0R 1) <| gdT (okO σ2 (aR σ2 v0R 4) 101) <| gdT (inB v1I (aN σ2 (aR σ2 v0R 4))) <| .inl (1, 0, 0, aI σ2 (aR σ2 v0R 4) v1I.toNatClampNeg, σ2))
noncomputable def T_Tw_costOf_1 (s0I : Int32) (σ : AM) : S_Tw_costOf ⊕ Option (Int32 × AM) :=
  .inr (some (s0I, σ))
noncomputable def F_Tw_costOf : S_Tw_costOf → S_Tw_costOf ⊕ Option (Int32 × AM) := fun s => match s.1 with
  | 0 => T_Tw_costOf_0 (s.2.1) (s.2.2.1) (s.2.2.2.2)
  | _ => T_Tw_costOf_1 (s.2.2.2.1) (s.2.2.2.2)
noncomputable def L_Tw_costOf_0 (v0R : Nat) (v1I : Int32) (σ : AM) : Option (Int32 × AM) := lp F_Tw_costOf (0, v0R, v1I, 0, σ)
noncomputable def L_Tw_costOf_1 (s0I : Int32) (σ : AM) : Option (Int32 × AM) := lp F_Tw_costOf (1, 0, 0, s0I, σ)
set_option maxRecDepth 20000 in
theorem E_Tw_costOf_0 (v0R : Nat) (v1I : Int32) (σ : AM) : L_Tw_costOf_0 v0R v1I σ = (gd (okO σ v0R 1) <| bnd (M_Tw_hasSet v0R v1I σ) fun r1 σ2 => if r1 = 0 then (L_Tw_costOf_1 ((0 : Int32)) σ2) else (gd (okO σ2 v0R 1) <| gd (okO σ2 (aR σ2 v0R 4) 101) <| gd (inB v1I (aN σ2 (aR σ2 v0R 4))) <| L_Tw_costOf_1 (aI σ2 (aR σ2 v0R 4) v1I.toNatClampNeg) σ2)) := by
  unfold L_Tw_costOf_0
  rw [lp_eq]
  show lpK (lp F_Tw_costOf) (T_Tw_costOf_0 v0R v1I σ) = _
  unfold T_Tw_costOf_0
  simp only [lpK_ite, lq_inl, lq_inr, lpK_bnd, lpK_gd, lq_let]
  try rfl
set_option maxRecDepth 20000 in
theorem E_Tw_costOf_1 (s0I : Int32) (σ : AM) : L_Tw_costOf_1 s0I σ = ((some (s0I, σ))) := by
  unfold L_Tw_costOf_1
  rw [lp_eq]
  show lpK (lp F_Tw_costOf) (T_Tw_costOf_1 s0I σ) = _
  unfold T_Tw_costOf_1
  simp only [lpK_ite, lq_inl, lq_inr, lpK_bnd, lpK_gd, lq_let]
  try rfl
noncomputable def M_Tw_costOf (v0R : Nat) (v1I : Int32) (σ : AM) : Option (Int32 × AM) := mw σ (L_Tw_costOf_0 v0R v1I σ)
def I_Tw_costOf (G : GX) (p : Program) (l : Launch) (e : Env) (s : State) (m : MethodId) (args : Array Value) (below : List Frame) (meth : Method) (c : Code) (z0 u0 n : Nat) : Prop :=
  (∀ (v0R : Nat) (v1I : Int32) (σ : AM), VX (QM eI G args s below z0 u0) G p l e s m args below meth c 2 z0 u0 2 (lpn F_Tw_costOf n (0, v0R, v1I, 0, σ)) 0 [(0, .ref v0R), (1, .int v1I)] [] σ) ∧
  (∀ (s0I : Int32) (σ : AM), VX (QM eI G args s below z0 u0) G p l e s m args below meth c 2 z0 u0 2 (lpn F_Tw_costOf n (1, 0, 0, s0I, σ)) 18 [] [.int s0I] σ)
set_option maxRecDepth 20000 in
theorem s_Tw_costOf_0 {G : GX} {p : Program} {l : Launch} {e : Env} {s : State} {m : MethodId} {args : Array Value} {below : List Frame} {meth : Method} {c : Code} {z0 u0 n : Nat} (C : Cx G p s m args meth c prog_12_method_23_code 2 "BellPlate$Tower" ((some FieldType.int))) (IH : I_Tw_costOf G p l e s m args below meth c z0 u0 n) (v0R : Nat) (v1I : Int32) (σ : AM) : VX (QM eI G args s below z0 u0) G p l e s m args below meth c 2 z0 u0 2 (lpK (lpn F_Tw_costOf n) (T_Tw_costOf_0 v0R v1I σ)) 0 [(0, .ref v0R), (1, .int v1I)] [] σ := by
  unfold T_Tw_costOf_0
  refine x_aload_n C d_Tw_costOf_0 0 rfl ?_
  refine x_iload_n C d_Tw_costOf_1 1 rfl ?_
  refine x_gd (fun h3 => ?_)
  refine x_callVI (As := [.int v1I]) C (c_Tw_hasSet G l v0R v1I σ) (okO_iff.mp h3) rfl w1005 w1006 w1012 w1007 w122 k_Tw_hasSet rfl (by decide) (by decide) rfl (Nat.le_of_ble_eq_true rfl) d_Tw_costOf_2 (fun r1 σ2 => ?_)
  refine x_if_eq (tgt := 17) C d_Tw_costOf_5 (by decide) (fun _ => ?_) (fun _ => ?_)
  · refine x_iconst (v := (0 : Int32)) C d_Tw_costOf_17 (by decide) ?_
    refine x_lv [] rfl ?_
    exact IH.2 ((0 : Int32)) (σ2)
  · refine x_aload_n C d_Tw_costOf_8 0 rfl ?_
    refine x_gd (fun h4 => ?_)
    refine x_gd (fun h5 => ?_)
    refine x_getR (k := 4) (kv := 101) C (okO_iff.mp h4) rfl j0_ok (by decide) rfl (okO_iff.mp h5) (by decide) w171 d_Tw_costOf_9 ?_
    refine x_iload_n C d_Tw_costOf_12 1 rfl ?_
    refine x_gd (fun h6 => ?_)
    refine x_aldI C (okO_iff.mp h5) (inB_iff.mp h6) d_Tw_costOf_13 ?_
    refine x_goto (tgt := 18) C d_Tw_costOf_14 (by decide) ?_
    refine x_lv [] rfl ?_
    exact IH.2 (aI σ2 (aR σ2 v0R 4) v1I.toNatClampNeg) (σ2)
set_option maxRecDepth 20000 in
theorem s_Tw_costOf_1 {G : GX} {p : Program} {l : Launch} {e : Env} {s : State} {m : MethodId} {args : Array Value} {below : List Frame} {meth : Method} {c : Code} {z0 u0 n : Nat} (C : Cx G p s m args meth c prog_12_method_23_code 2 "BellPlate$Tower" ((some FieldType.int))) (IH : I_Tw_costOf G p l e s m args below meth c z0 u0 n) (s0I : Int32) (σ : AM) : VX (QM eI G args s below z0 u0) G p l e s m args below meth c 2 z0 u0 2 (lpK (lpn F_Tw_costOf n) (T_Tw_costOf_1 s0I σ)) 18 [] [.int s0I] σ := by
  unfold T_Tw_costOf_1
  exact x_iret C d_Tw_costOf_18
theorem i_Tw_costOf {G : GX} {p : Program} {l : Launch} {e : Env} {s : State} {m : MethodId} {args : Array Value} {below : List Frame} {meth : Method} {c : Code} {z0 u0 : Nat} (C : Cx G p s m args meth c prog_12_method_23_code 2 "BellPlate$Tower" ((some FieldType.int))) (n : Nat) : I_Tw_costOf G p l e s m args below meth c z0 u0 n := by
  induction n with
  | zero => exact ⟨fun _ _ _ => x_none, fun _ _ => x_none⟩
  | succ n IH => exact ⟨fun v0R v1I σ => s_Tw_costOf_0 C IH v0R v1I σ, fun s0I σ => s_Tw_costOf_1 C IH s0I σ⟩
theorem c_Tw_costOf (G : GX) (l : Launch) (v0R : Nat) (v1I : Int32) (σ : AM) : CT eI G l 2 y_Tw_costOf prog_12_method_23_code 2 ((some FieldType.int)) [.ref v0R, .int v1I] σ (M_Tw_costOf v0R v1I σ) := by
  refine ct_of (by decide +kernel) (Nat.le_of_ble_eq_true rfl) (fun p e s m args below meth c C hin => ?_)
  refine x_lve (lv' := [(0, .ref v0R), (1, .int v1I)]) rfl ?_
  intro r σ' h
  obtain ⟨n, hn⟩ := (lp_iff _ _ _).mp h
  exact (i_Tw_costOf C n).1 v0R v1I σ r σ' hn
/-! BellPlate$Tower.spread(I[I)V -/
abbrev y_Tw_spread : MethodName := ⟨"BellPlate$Tower", "spread", "(I[I)V"⟩
theorem k_Tw_spread : y_Tw_spread.cls ≠ "java/lang/invoke/MethodHandle" ∧ y_Tw_spread.cls ≠ "java/lang/invoke/VarHandle" ∧ (parseMethodDescriptor y_Tw_spread.desc).map (fun d => d.parameters.length) = some 2 := by decide +kernel
theorem d_Tw_spread_0 : decode prog_12_method_24_code 0 = .ok (.iload_n 1, 1) := by decide +kernel
theorem d_Tw_spread_1 : decode prog_12_method_24_code 1 = .ok (.istore_n 3, 1) := by decide +kernel
theorem d_Tw_spread_2 : decode prog_12_method_24_code 2 = .ok (.aload_n 0, 1) := by decide +kernel
theorem d_Tw_spread_3 : decode prog_12_method_24_code 3 = .ok (.getfield 33, 3) := by decide +kernel
theorem d_Tw_spread_6 : decode prog_12_method_24_code 6 = .ok (.iconst 1, 1) := by decide +kernel
theorem d_Tw_spread_7 : decode prog_12_method_24_code 7 = .ok (.iadd, 1) := by decide +kernel
theorem d_Tw_spread_8 : decode prog_12_method_24_code 8 = .ok (.iconst 1, 1) := by decide +kernel
theorem d_Tw_spread_9 : decode prog_12_method_24_code 9 = .ok (.invokestatic 71, 3) := by decide +kernel
theorem d_Tw_spread_12 : decode prog_12_method_24_code 12 = .ok (.istore 4, 2) := by decide +kernel
theorem d_Tw_spread_14 : decode prog_12_method_24_code 14 = .ok (.iconst 0, 1) := by decide +kernel
theorem d_Tw_spread_15 : decode prog_12_method_24_code 15 = .ok (.istore 5, 2) := by decide +kernel
theorem d_Tw_spread_17 : decode prog_12_method_24_code 17 = .ok (.iload 5, 2) := by decide +kernel
theorem d_Tw_spread_19 : decode prog_12_method_24_code 19 = .ok (.aload_n 0, 1) := by decide +kernel
theorem d_Tw_spread_20 : decode prog_12_method_24_code 20 = .ok (.getfield 43, 3) := by decide +kernel
theorem d_Tw_spread_23 : decode prog_12_method_24_code 23 = .ok (.if_icmp .ge 29, 3) := by decide +kernel
theorem d_Tw_spread_26 : decode prog_12_method_24_code 26 = .ok (.iload 5, 2) := by decide +kernel
theorem d_Tw_spread_28 : decode prog_12_method_24_code 28 = .ok (.aload_n 2, 1) := by decide +kernel
theorem d_Tw_spread_29 : decode prog_12_method_24_code 29 = .ok (.arraylength, 1) := by decide +kernel
theorem d_Tw_spread_30 : decode prog_12_method_24_code 30 = .ok (.if_icmp .ge 22, 3) := by decide +kernel
theorem d_Tw_spread_33 : decode prog_12_method_24_code 33 = .ok (.aload_n 2, 1) := by decide +kernel
theorem d_Tw_spread_34 : decode prog_12_method_24_code 34 = .ok (.iload 5, 2) := by decide +kernel
theorem d_Tw_spread_36 : decode prog_12_method_24_code 36 = .ok (.iload_n 3, 1) := by decide +kernel
theorem d_Tw_spread_37 : decode prog_12_method_24_code 37 = .ok (.iload 4, 2) := by decide +kernel
theorem d_Tw_spread_39 : decode prog_12_method_24_code 39 = .ok (.irem, 1) := by decide +kernel
theorem d_Tw_spread_40 : decode prog_12_method_24_code 40 = .ok (.iastore, 1) := by decide +kernel
theorem d_Tw_spread_41 : decode prog_12_method_24_code 41 = .ok (.iload_n 3, 1) := by decide +kernel
theorem d_Tw_spread_42 : decode prog_12_method_24_code 42 = .ok (.iload 4, 2) := by decide +kernel
theorem d_Tw_spread_44 : decode prog_12_method_24_code 44 = .ok (.idiv, 1) := by decide +kernel
theorem d_Tw_spread_45 : decode prog_12_method_24_code 45 = .ok (.istore_n 3, 1) := by decide +kernel
theorem d_Tw_spread_46 : decode prog_12_method_24_code 46 = .ok (.iinc 5 1, 3) := by decide +kernel
theorem d_Tw_spread_49 : decode prog_12_method_24_code 49 = .ok (.goto (-32), 3) := by decide +kernel
theorem d_Tw_spread_52 : decode prog_12_method_24_code 52 = .ok (.return_, 1) := by decide +kernel
abbrev S_Tw_spread : Type := Nat × Nat × Int32 × Nat × Int32 × Int32 × Int32 × AM
noncomputable def T_Tw_spread_0 (v0R : Nat) (v1I : Int32) (v2R : Nat) (σ : AM) : S_Tw_spread ⊕ Option (Unit × AM) :=
  gdT (okO σ v0R 1) <| letT (mxI ((aI σ v0R 8) + (1 : Int32)) (1 : Int32)) fun x2 => .inl (1, v0R, 0, v2R, v1I, x2, (0 : Int32), σ)
noncomputable def T_Tw_spread_1 (v0R : Nat) (v2R : Nat) (v3I : Int32) (v4I : Int32) (v5I : Int32) (σ : AM) : S_Tw_spread ⊕ Option (Unit × AM) :=
  gdT (okO σ v0R 1) <| if v5I < (aI σ v0R 7) then (gdT (okO σ v2R 101) <| if v5I < (nI (aN σ v2R)) then (gdT (nzI v4I) <| gdT (inB v5I (aN σ v2R)) <| letT (sI σ v2R v5I.toNatClampNeg (v3I - v3I / v4I * v4I)) fun σ5 => letT (v3I / v4I) fun x7 => .inl (1, v0R, 0, v2R, x7, v4I, v5I + (1 : Int32), σ5)) else (.inl (2, 0, 0, 0, 0, 0, 0, σ))) else (.inl (2, 0, 0, 0, 0, 0, 0, σ))
noncomputable def T_Tw_spread_2  (σ : AM) : S_Tw_spread ⊕ Option (Unit × AM) :=
  .inr (some ((), σ))
noncomputable def F_Tw_spread : S_Tw_spread → S_Tw_spread ⊕ Option (Unit × AM) := fun s => match s.1 with
  | 0 => T_Tw_spread_0 (s.2.1) (s.2.2.1) (s.2.2.2.1) (s.2.2.2.2.2.2.2)
  | 1 => T_Tw_spread_1 (s.2.1) (s.2.2.2.1) (s.2.2.2.2.1) (s.2.2.2.2.2.1) (s.2.2.2.2.2.2.1) (s.2.2.2.2.2.2.2)
  | _ => T_Tw_spread_2  (s.2.2.2.2.2.2.2)
noncomputable def L_Tw_spread_0 (v0R : Nat) (v1I : Int32) (v2R : Nat) (σ : AM) : Option (Unit × AM) := lp F_Tw_spread (0, v0R, v1I, v2R, 0, 0, 0, σ)
noncomputable def L_Tw_spread_1 (v0R : Nat) (v2R : Nat) (v3I : Int32) (v4I : Int32) (v5I : Int32) (σ : AM) : Option (Unit × AM) := lp F_Tw_spread (1, v0R, 0, v2R, v3I, v4I, v5I, σ)
noncomputable def L_Tw_spread_2  (σ : AM) : Option (Unit × AM) := lp F_Tw_spread (2, 0, 0, 0, 0, 0, 0, σ)
set_option maxRecDepth 20000 in
theorem E_Tw_spread_0 (v0R : Nat) (v1I : Int32) (v2R : Nat) (σ : AM) : L_Tw_spread_0 v0R v1I v2R σ = (gd (okO σ v0R 1) <| letT (mxI ((aI σ v0R 8) + (1 : Int32)) (1 : Int32)) fun x2 => L_Tw_spread_1 v0R v2R v1I x2 ((0 : Int32)) σ) := by
  unfold L_Tw_spread_0
  rw [lp_eq]
  show lpK (lp F_Tw_spread) (T_Tw_spread_0 v0R v1I v2R σ) = _
  unfold T_Tw_spread_0
  simp only [lpK_ite, lq_inl, lq_inr, lpK_bnd, lpK_gd, lq_let]
  try rfl
set_option maxRecDepth 20000 in
theorem E_Tw_spread_1 (v0R : Nat) (v2R : Nat) (v3I : Int32) (v4I : Int32) (v5I : Int32) (σ : AM) : L_Tw_spread_1 v0R v2R v3I v4I v5I σ = (gd (okO σ v0R 1) <| if v5I < (aI σ v0R 7) then (gd (okO σ v2R 101) <| if v5I < (nI (aN σ v2R)) then (gd (nzI v4I) <| gd (inB v5I (aN σ v2R)) <| letT (sI σ v2R v5I.toNatClampNeg (v3I - v3I / v4I * v4I)) fun σ5 => letT (v3I / v4I) fun x7 => L_Tw_spread_1 v0R v2R x7 v4I (v5I + (1 : Int32)) σ5) else (L_Tw_spread_2 σ)) else (L_Tw_spread_2 σ)) := by
  unfold L_Tw_spread_1
  rw [lp_eq]
  show lpK (lp F_Tw_spread) (T_Tw_spread_1 v0R v2R v3I v4I v5I σ) = _
  unfold T_Tw_spread_1
  simp only [lpK_ite, lq_inl, lq_inr, lpK_bnd, lpK_gd, lq_let]
  try rfl
set_option maxRecDepth 20000 in
theorem E_Tw_spread_2  (σ : AM) : L_Tw_spread_2  σ = ((some ((), σ))) := by
  unfold L_Tw_spread_2
  rw [lp_eq]
  show lpK (lp F_Tw_spread) (T_Tw_spread_2  σ) = _
  unfold T_Tw_spread_2
  simp only [lpK_ite, lq_inl, lq_inr, lpK_bnd, lpK_gd, lq_let]
  try rfl
noncomputable def M_Tw_spread (v0R : Nat) (v1I : Int32) (v2R : Nat) (σ : AM) : Option (Unit × AM) := mw σ (L_Tw_spread_0 v0R v1I v2R σ)
def I_Tw_spread (G : GX) (p : Program) (l : Launch) (e : Env) (s : State) (m : MethodId) (args : Array Value) (below : List Frame) (meth : Method) (c : Code) (z0 u0 n : Nat) : Prop :=
  (∀ (v0R : Nat) (v1I : Int32) (v2R : Nat) (σ : AM), VX (QM eV G args s below z0 u0) G p l e s m args below meth c 1 z0 u0 6 (lpn F_Tw_spread n (0, v0R, v1I, v2R, 0, 0, 0, σ)) 0 [(0, .ref v0R), (1, .int v1I), (2, .ref v2R)] [] σ) ∧
  (∀ (v0R : Nat) (v2R : Nat) (v3I : Int32) (v4I : Int32) (v5I : Int32) (σ : AM), VX (QM eV G args s below z0 u0) G p l e s m args below meth c 1 z0 u0 6 (lpn F_Tw_spread n (1, v0R, 0, v2R, v3I, v4I, v5I, σ)) 17 [(0, .ref v0R), (2, .ref v2R), (3, .int v3I), (4, .int v4I), (5, .int v5I)] [] σ) ∧
  (∀ (σ : AM), VX (QM eV G args s below z0 u0) G p l e s m args below meth c 1 z0 u0 6 (lpn F_Tw_spread n (2, 0, 0, 0, 0, 0, 0, σ)) 52 [] [] σ)
set_option maxRecDepth 20000 in
theorem s_Tw_spread_0 {G : GX} {p : Program} {l : Launch} {e : Env} {s : State} {m : MethodId} {args : Array Value} {below : List Frame} {meth : Method} {c : Code} {z0 u0 n : Nat} (C : Cx G p s m args meth c prog_12_method_24_code 6 "BellPlate$Tower" ((none))) (IH : I_Tw_spread G p l e s m args below meth c z0 u0 n) (v0R : Nat) (v1I : Int32) (v2R : Nat) (σ : AM) : VX (QM eV G args s below z0 u0) G p l e s m args below meth c 1 z0 u0 6 (lpK (lpn F_Tw_spread n) (T_Tw_spread_0 v0R v1I v2R σ)) 0 [(0, .ref v0R), (1, .int v1I), (2, .ref v2R)] [] σ := by
  unfold T_Tw_spread_0
  refine x_iload_n C d_Tw_spread_0 1 rfl ?_
  refine x_istore_n (lv' := [(3, .int v1I), (0, .ref v0R), (1, .int v1I), (2, .ref v2R)]) C d_Tw_spread_1 (by decide) rfl rfl ?_
  refine x_aload_n C d_Tw_spread_2 1 rfl ?_
  refine x_gd (fun h1 => ?_)
  refine x_getI (k := 8) C (okO_iff.mp h1) rfl j0_ok (by decide) rfl w175 d_Tw_spread_3 ?_
  refine x_iconst (v := (1 : Int32)) C d_Tw_spread_6 (by decide) ?_
  refine x_iadd C d_Tw_spread_7 ?_
  refine x_iconst (v := (1 : Int32)) C d_Tw_spread_8 (by decide) ?_
  refine x_mmax C w622 (by decide) (Nat.le_of_ble_eq_true rfl) d_Tw_spread_9 ?_
  refine x_letI (fun x2 _ => ?_)
  refine x_istore (lv' := [(4, .int x2), (3, .int v1I), (0, .ref v0R), (1, .int v1I), (2, .ref v2R)]) C d_Tw_spread_12 (by decide) rfl ?_
  refine x_iconst (v := (0 : Int32)) C d_Tw_spread_14 (by decide) ?_
  refine x_istore (lv' := [(5, .int (0 : Int32)), (4, .int x2), (3, .int v1I), (0, .ref v0R), (1, .int v1I), (2, .ref v2R)]) C d_Tw_spread_15 (by decide) rfl ?_
  refine x_lv [3, 5, 2, 1, 0] rfl ?_
  exact IH.2.1 v0R v2R v1I x2 ((0 : Int32)) (σ)
set_option maxRecDepth 20000 in
theorem s_Tw_spread_1 {G : GX} {p : Program} {l : Launch} {e : Env} {s : State} {m : MethodId} {args : Array Value} {below : List Frame} {meth : Method} {c : Code} {z0 u0 n : Nat} (C : Cx G p s m args meth c prog_12_method_24_code 6 "BellPlate$Tower" ((none))) (IH : I_Tw_spread G p l e s m args below meth c z0 u0 n) (v0R : Nat) (v2R : Nat) (v3I : Int32) (v4I : Int32) (v5I : Int32) (σ : AM) : VX (QM eV G args s below z0 u0) G p l e s m args below meth c 1 z0 u0 6 (lpK (lpn F_Tw_spread n) (T_Tw_spread_1 v0R v2R v3I v4I v5I σ)) 17 [(0, .ref v0R), (2, .ref v2R), (3, .int v3I), (4, .int v4I), (5, .int v5I)] [] σ := by
  unfold T_Tw_spread_1
  refine x_iload C d_Tw_spread_17 4 rfl ?_
  refine x_aload_n C d_Tw_spread_19 0 rfl ?_
  refine x_gd (fun h1 => ?_)
  refine x_getI (k := 7) C (okO_iff.mp h1) rfl j0_ok (by decide) rfl w174 d_Tw_spread_20 ?_
  refine x_icmp_ge (tgt := 52) C d_Tw_spread_23 (by decide) (fun _ => ?_) (fun _ => ?_)
  · refine x_iload C d_Tw_spread_26 4 rfl ?_
    refine x_aload_n C d_Tw_spread_28 1 rfl ?_
    refine x_gd (fun h2 => ?_)
    refine x_alen (t := 0) C (okO_iff.mp h2) (by decide) d_Tw_spread_29 ?_
    refine x_icmp_ge (tgt := 52) C d_Tw_spread_30 (by decide) (fun _ => ?_) (fun _ => ?_)
    · refine x_aload_n C d_Tw_spread_33 1 rfl ?_
      refine x_iload C d_Tw_spread_34 4 rfl ?_
      refine x_iload_n C d_Tw_spread_36 2 rfl ?_
      refine x_iload C d_Tw_spread_37 3 rfl ?_
      refine x_gd (fun h3 => ?_)
      refine x_irem C d_Tw_spread_39 (nzI_iff.mp h3) ?_
      refine x_gd (fun h4 => ?_)
      refine x_astI C (okO_iff.mp h2) (inB_iff.mp h4) d_Tw_spread_40 ?_
      refine x_letS (fun σ5 e6 => ?_)
      refine x_iload_n C d_Tw_spread_41 2 rfl ?_
      refine x_iload C d_Tw_spread_42 3 rfl ?_
      refine x_idiv C d_Tw_spread_44 (by first | exact (nzI_iff.mp h3) | (rw [e6]; exact (nzI_iff.mp h3))) ?_
      refine x_letI (fun x7 _ => ?_)
      refine x_istore_n (lv' := [(3, .int x7), (0, .ref v0R), (2, .ref v2R), (4, .int v4I), (5, .int v5I)]) C d_Tw_spread_45 (by decide) rfl rfl ?_
      refine x_iinc (v := v5I + (1 : Int32)) (lv' := [(5, .int (v5I + (1 : Int32))), (3, .int x7), (0, .ref v0R), (2, .ref v2R), (4, .int v4I)]) C d_Tw_spread_46 4 rfl rfl (by decide) rfl ?_
      refine x_goto (tgt := 17) C d_Tw_spread_49 (by decide) ?_
      refine x_lv [2, 3, 1, 4, 0] rfl ?_
      exact IH.2.1 v0R v2R x7 v4I (v5I + (1 : Int32)) (σ5)
    · refine x_lv [] rfl ?_
      exact IH.2.2  (σ)
  · refine x_lv [] rfl ?_
    exact IH.2.2  (σ)
set_option maxRecDepth 20000 in
theorem s_Tw_spread_2 {G : GX} {p : Program} {l : Launch} {e : Env} {s : State} {m : MethodId} {args : Array Value} {below : List Frame} {meth : Method} {c : Code} {z0 u0 n : Nat} (C : Cx G p s m args meth c prog_12_method_24_code 6 "BellPlate$Tower" ((none))) (IH : I_Tw_spread G p l e s m args below meth c z0 u0 n)  (σ : AM) : VX (QM eV G args s below z0 u0) G p l e s m args below meth c 1 z0 u0 6 (lpK (lpn F_Tw_spread n) (T_Tw_spread_2  σ)) 52 [] [] σ := by
  unfold T_Tw_spread_2
  exact x_vret C d_Tw_spread_52
theorem i_Tw_spread {G : GX} {p : Program} {l : Launch} {e : Env} {s : State} {m : MethodId} {args : Array Value} {below : List Frame} {meth : Method} {c : Code} {z0 u0 : Nat} (C : Cx G p s m args meth c prog_12_method_24_code 6 "BellPlate$Tower" ((none))) (n : Nat) : I_Tw_spread G p l e s m args below meth c z0 u0 n := by
  induction n with
  | zero => exact ⟨fun _ _ _ _ => x_none, fun _ _ _ _ _ _ => x_none, fun _ => x_none⟩
  | succ n IH => exact ⟨fun v0R v1I v2R σ => s_Tw_spread_0 C IH v0R v1I v2R σ, fun v0R v2R v3I v4I v5I σ => s_Tw_spread_1 C IH v0R v2R v3I v4I v5I σ, fun σ => s_Tw_spread_2 C IH σ⟩
theorem c_Tw_spread (G : GX) (l : Launch) (v0R : Nat) (v1I : Int32) (v2R : Nat) (σ : AM) : CT eV G l 1 y_Tw_spread prog_12_method_24_code 6 (none) [.ref v0R, .int v1I, .ref v2R] σ (M_Tw_spread v0R v1I v2R σ) := by
  refine ct_of (by decide +kernel) (Nat.le_of_ble_eq_true rfl) (fun p e s m args below meth c C hin => ?_)
  refine x_lve (lv' := [(0, .ref v0R), (1, .int v1I), (2, .ref v2R)]) rfl ?_
  intro r σ' h
  obtain ⟨n, hn⟩ := (lp_iff _ _ _).mp h
  exact (i_Tw_spread C n).1 v0R v1I v2R σ r σ' hn
/-! BellPlate$Tower.things()I -/
abbrev y_Tw_things : MethodName := ⟨"BellPlate$Tower", "things", "()I"⟩
theorem k_Tw_things : y_Tw_things.cls ≠ "java/lang/invoke/MethodHandle" ∧ y_Tw_things.cls ≠ "java/lang/invoke/VarHandle" ∧ (parseMethodDescriptor y_Tw_things.desc).map (fun d => d.parameters.length) = some 0 := by decide +kernel
theorem d_Tw_things_0 : decode prog_12_method_4_code 0 = .ok (.aload_n 0, 1) := by decide +kernel
theorem d_Tw_things_1 : decode prog_12_method_4_code 1 = .ok (.getfield 43, 3) := by decide +kernel
theorem d_Tw_things_4 : decode prog_12_method_4_code 4 = .ok (.ireturn, 1) := by decide +kernel
abbrev S_Tw_things : Type := Nat × Nat × AM
noncomputable def T_Tw_things_0 (v0R : Nat) (σ : AM) : S_Tw_things ⊕ Option (Int32 × AM) :=
  gdT (okO σ v0R 1) <| .inr (some ((aI σ v0R 7), σ))
noncomputable def F_Tw_things : S_Tw_things → S_Tw_things ⊕ Option (Int32 × AM) := fun s => match s.1 with
  | _ => T_Tw_things_0 (s.2.1) (s.2.2)
noncomputable def L_Tw_things_0 (v0R : Nat) (σ : AM) : Option (Int32 × AM) := lp F_Tw_things (0, v0R, σ)
set_option maxRecDepth 20000 in
theorem E_Tw_things_0 (v0R : Nat) (σ : AM) : L_Tw_things_0 v0R σ = (gd (okO σ v0R 1) <| (some ((aI σ v0R 7), σ))) := by
  unfold L_Tw_things_0
  rw [lp_eq]
  show lpK (lp F_Tw_things) (T_Tw_things_0 v0R σ) = _
  unfold T_Tw_things_0
  simp only [lpK_ite, lq_inl, lq_inr, lpK_bnd, lpK_gd, lq_let]
  try rfl
noncomputable def M_Tw_things (v0R : Nat) (σ : AM) : Option (Int32 × AM) := mw σ (L_Tw_things_0 v0R σ)
def I_Tw_things (G : GX) (p : Program) (l : Launch) (e : Env) (s : State) (m : MethodId) (args : Array Value) (below : List Frame) (meth : Method) (c : Code) (z0 u0 n : Nat) : Prop :=
  (∀ (v0R : Nat) (σ : AM), VX (QM eI G args s below z0 u0) G p l e s m args below meth c 0 z0 u0 1 (lpn F_Tw_things n (0, v0R, σ)) 0 [(0, .ref v0R)] [] σ)
set_option maxRecDepth 20000 in
theorem s_Tw_things_0 {G : GX} {p : Program} {l : Launch} {e : Env} {s : State} {m : MethodId} {args : Array Value} {below : List Frame} {meth : Method} {c : Code} {z0 u0 n : Nat} (C : Cx G p s m args meth c prog_12_method_4_code 1 "BellPlate$Tower" ((some FieldType.int))) (IH : I_Tw_things G p l e s m args below meth c z0 u0 n) (v0R : Nat) (σ : AM) : VX (QM eI G args s below z0 u0) G p l e s m args below meth c 0 z0 u0 1 (lpK (lpn F_Tw_things n) (T_Tw_things_0 v0R σ)) 0 [(0, .ref v0R)] [] σ := by
  unfold T_Tw_things_0
  refine x_aload_n C d_Tw_things_0 0 rfl ?_
  refine x_gd (fun h1 => ?_)
  refine x_getI (k := 7) C (okO_iff.mp h1) rfl j0_ok (by decide) rfl w174 d_Tw_things_1 ?_
  exact x_iret C d_Tw_things_4
theorem i_Tw_things {G : GX} {p : Program} {l : Launch} {e : Env} {s : State} {m : MethodId} {args : Array Value} {below : List Frame} {meth : Method} {c : Code} {z0 u0 : Nat} (C : Cx G p s m args meth c prog_12_method_4_code 1 "BellPlate$Tower" ((some FieldType.int))) (n : Nat) : I_Tw_things G p l e s m args below meth c z0 u0 n := by
  induction n with
  | zero => exact fun _ _ => x_none
  | succ n IH => exact fun v0R σ => s_Tw_things_0 C IH v0R σ
theorem c_Tw_things (G : GX) (l : Launch) (v0R : Nat) (σ : AM) : CT eI G l 0 y_Tw_things prog_12_method_4_code 1 ((some FieldType.int)) [.ref v0R] σ (M_Tw_things v0R σ) := by
  refine ct_of (by decide +kernel) (Nat.le_of_ble_eq_true rfl) (fun p e s m args below meth c C hin => ?_)
  refine x_lve (lv' := [(0, .ref v0R)]) rfl ?_
  intro r σ' h
  obtain ⟨n, hn⟩ := (lp_iff _ _ _).mp h
  exact (i_Tw_things C n) v0R σ r σ' hn
/-! BellPlate$Tower.bar()I -/
abbrev y_Tw_bar : MethodName := ⟨"BellPlate$Tower", "bar", "()I"⟩
theorem k_Tw_bar : y_Tw_bar.cls ≠ "java/lang/invoke/MethodHandle" ∧ y_Tw_bar.cls ≠ "java/lang/invoke/VarHandle" ∧ (parseMethodDescriptor y_Tw_bar.desc).map (fun d => d.parameters.length) = some 0 := by decide +kernel
theorem d_Tw_bar_0 : decode prog_12_method_6_code 0 = .ok (.aload_n 0, 1) := by decide +kernel
theorem d_Tw_bar_1 : decode prog_12_method_6_code 1 = .ok (.getfield 37, 3) := by decide +kernel
theorem d_Tw_bar_4 : decode prog_12_method_6_code 4 = .ok (.ireturn, 1) := by decide +kernel
abbrev S_Tw_bar : Type := Nat × Nat × AM
noncomputable def T_Tw_bar_0 (v0R : Nat) (σ : AM) : S_Tw_bar ⊕ Option (Int32 × AM) :=
  gdT (okO σ v0R 1) <| .inr (some ((aI σ v0R 9), σ))
noncomputable def F_Tw_bar : S_Tw_bar → S_Tw_bar ⊕ Option (Int32 × AM) := fun s => match s.1 with
  | _ => T_Tw_bar_0 (s.2.1) (s.2.2)
noncomputable def L_Tw_bar_0 (v0R : Nat) (σ : AM) : Option (Int32 × AM) := lp F_Tw_bar (0, v0R, σ)
set_option maxRecDepth 20000 in
theorem E_Tw_bar_0 (v0R : Nat) (σ : AM) : L_Tw_bar_0 v0R σ = (gd (okO σ v0R 1) <| (some ((aI σ v0R 9), σ))) := by
  unfold L_Tw_bar_0
  rw [lp_eq]
  show lpK (lp F_Tw_bar) (T_Tw_bar_0 v0R σ) = _
  unfold T_Tw_bar_0
  simp only [lpK_ite, lq_inl, lq_inr, lpK_bnd, lpK_gd, lq_let]
  try rfl
noncomputable def M_Tw_bar (v0R : Nat) (σ : AM) : Option (Int32 × AM) := mw σ (L_Tw_bar_0 v0R σ)
def I_Tw_bar (G : GX) (p : Program) (l : Launch) (e : Env) (s : State) (m : MethodId) (args : Array Value) (below : List Frame) (meth : Method) (c : Code) (z0 u0 n : Nat) : Prop :=
  (∀ (v0R : Nat) (σ : AM), VX (QM eI G args s below z0 u0) G p l e s m args below meth c 0 z0 u0 1 (lpn F_Tw_bar n (0, v0R, σ)) 0 [(0, .ref v0R)] [] σ)
set_option maxRecDepth 20000 in
theorem s_Tw_bar_0 {G : GX} {p : Program} {l : Launch} {e : Env} {s : State} {m : MethodId} {args : Array Value} {below : List Frame} {meth : Method} {c : Code} {z0 u0 n : Nat} (C : Cx G p s m args meth c prog_12_method_6_code 1 "BellPlate$Tower" ((some FieldType.int))) (IH : I_Tw_bar G p l e s m args below meth c z0 u0 n) (v0R : Nat) (σ : AM) : VX (QM eI G args s below z0 u0) G p l e s m args below meth c 0 z0 u0 1 (lpK (lpn F_Tw_bar n) (T_Tw_bar_0 v0R σ)) 0 [(0, .ref v0R)] [] σ := by
  unfold T_Tw_bar_0
  refine x_aload_n C d_Tw_bar_0 0 rfl ?_
  refine x_gd (fun h1 => ?_)
  refine x_getI (k := 9) C (okO_iff.mp h1) rfl j0_ok (by decide) rfl w176 d_Tw_bar_1 ?_
  exact x_iret C d_Tw_bar_4
theorem i_Tw_bar {G : GX} {p : Program} {l : Launch} {e : Env} {s : State} {m : MethodId} {args : Array Value} {below : List Frame} {meth : Method} {c : Code} {z0 u0 : Nat} (C : Cx G p s m args meth c prog_12_method_6_code 1 "BellPlate$Tower" ((some FieldType.int))) (n : Nat) : I_Tw_bar G p l e s m args below meth c z0 u0 n := by
  induction n with
  | zero => exact fun _ _ => x_none
  | succ n IH => exact fun v0R σ => s_Tw_bar_0 C IH v0R σ
theorem c_Tw_bar (G : GX) (l : Launch) (v0R : Nat) (σ : AM) : CT eI G l 0 y_Tw_bar prog_12_method_6_code 1 ((some FieldType.int)) [.ref v0R] σ (M_Tw_bar v0R σ) := by
  refine ct_of (by decide +kernel) (Nat.le_of_ble_eq_true rfl) (fun p e s m args below meth c C hin => ?_)
  refine x_lve (lv' := [(0, .ref v0R)]) rfl ?_
  intro r σ' h
  obtain ⟨n, hn⟩ := (lp_iff _ _ _).mp h
  exact (i_Tw_bar C n) v0R σ r σ' hn
/-! BellPlate$Tower.all()I -/
abbrev y_Tw_all : MethodName := ⟨"BellPlate$Tower", "all", "()I"⟩
theorem k_Tw_all : y_Tw_all.cls ≠ "java/lang/invoke/MethodHandle" ∧ y_Tw_all.cls ≠ "java/lang/invoke/VarHandle" ∧ (parseMethodDescriptor y_Tw_all.desc).map (fun d => d.parameters.length) = some 0 := by decide +kernel
theorem d_Tw_all_0 : decode prog_12_method_17_code 0 = .ok (.iconst 1, 1) := by decide +kernel
theorem d_Tw_all_1 : decode prog_12_method_17_code 1 = .ok (.istore_n 1, 1) := by decide +kernel
theorem d_Tw_all_2 : decode prog_12_method_17_code 2 = .ok (.iconst 0, 1) := by decide +kernel
theorem d_Tw_all_3 : decode prog_12_method_17_code 3 = .ok (.istore_n 2, 1) := by decide +kernel
theorem d_Tw_all_4 : decode prog_12_method_17_code 4 = .ok (.iload_n 2, 1) := by decide +kernel
theorem d_Tw_all_5 : decode prog_12_method_17_code 5 = .ok (.aload_n 0, 1) := by decide +kernel
theorem d_Tw_all_6 : decode prog_12_method_17_code 6 = .ok (.getfield 43, 3) := by decide +kernel
theorem d_Tw_all_9 : decode prog_12_method_17_code 9 = .ok (.if_icmp .ge 18, 3) := by decide +kernel
theorem d_Tw_all_12 : decode prog_12_method_17_code 12 = .ok (.iload_n 1, 1) := by decide +kernel
theorem d_Tw_all_13 : decode prog_12_method_17_code 13 = .ok (.aload_n 0, 1) := by decide +kernel
theorem d_Tw_all_14 : decode prog_12_method_17_code 14 = .ok (.getfield 33, 3) := by decide +kernel
theorem d_Tw_all_17 : decode prog_12_method_17_code 17 = .ok (.iconst 1, 1) := by decide +kernel
theorem d_Tw_all_18 : decode prog_12_method_17_code 18 = .ok (.iadd, 1) := by decide +kernel
theorem d_Tw_all_19 : decode prog_12_method_17_code 19 = .ok (.imul, 1) := by decide +kernel
theorem d_Tw_all_20 : decode prog_12_method_17_code 20 = .ok (.istore_n 1, 1) := by decide +kernel
theorem d_Tw_all_21 : decode prog_12_method_17_code 21 = .ok (.iinc 2 1, 3) := by decide +kernel
theorem d_Tw_all_24 : decode prog_12_method_17_code 24 = .ok (.goto (-20), 3) := by decide +kernel
theorem d_Tw_all_27 : decode prog_12_method_17_code 27 = .ok (.iload_n 1, 1) := by decide +kernel
theorem d_Tw_all_28 : decode prog_12_method_17_code 28 = .ok (.ireturn, 1) := by decide +kernel
abbrev S_Tw_all : Type := Nat × Nat × Int32 × Int32 × AM
noncomputable def T_Tw_all_0 (v0R : Nat) (σ : AM) : S_Tw_all ⊕ Option (Int32 × AM) :=
  .inl (1, v0R, (1 : Int32), (0 : Int32), σ)
noncomputable def T_Tw_all_1 (v0R : Nat) (v1I : Int32) (v2I : Int32) (σ : AM) : S_Tw_all ⊕ Option (Int32 × AM) :=
  gdT (okO σ v0R 1) <| if v2I < (aI σ v0R 7) then (letT (v1I * ((aI σ v0R 8) + (1 : Int32))) fun x2 => .inl (1, v0R, x2, v2I + (1 : Int32), σ)) else (.inr (some (v1I, σ)))
noncomputable def F_Tw_all : S_Tw_all → S_Tw_all ⊕ Option (Int32 × AM) := fun s => match s.1 with
  | 0 => T_Tw_all_0 (s.2.1) (s.2.2.2.2)
  | _ => T_Tw_all_1 (s.2.1) (s.2.2.1) (s.2.2.2.1) (s.2.2.2.2)
noncomputable def L_Tw_all_0 (v0R : Nat) (σ : AM) : Option (Int32 × AM) := lp F_Tw_all (0, v0R, 0, 0, σ)
noncomputable def L_Tw_all_1 (v0R : Nat) (v1I : Int32) (v2I : Int32) (σ : AM) : Option (Int32 × AM) := lp F_Tw_all (1, v0R, v1I, v2I, σ)
set_option maxRecDepth 20000 in
theorem E_Tw_all_0 (v0R : Nat) (σ : AM) : L_Tw_all_0 v0R σ = (L_Tw_all_1 v0R ((1 : Int32)) ((0 : Int32)) σ) := by
  unfold L_Tw_all_0
  rw [lp_eq]
  show lpK (lp F_Tw_all) (T_Tw_all_0 v0R σ) = _
  unfold T_Tw_all_0
  simp only [lpK_ite, lq_inl, lq_inr, lpK_bnd, lpK_gd, lq_let]
  try rfl
set_option maxRecDepth 20000 in
theorem E_Tw_all_1 (v0R : Nat) (v1I : Int32) (v2I : Int32) (σ : AM) : L_Tw_all_1 v0R v1I v2I σ = (gd (okO σ v0R 1) <| if v2I < (aI σ v0R 7) then (letT (v1I * ((aI σ v0R 8) + (1 : Int32))) fun x2 => L_Tw_all_1 v0R x2 (v2I + (1 : Int32)) σ) else ((some (v1I, σ)))) := by
  unfold L_Tw_all_1
  rw [lp_eq]
  show lpK (lp F_Tw_all) (T_Tw_all_1 v0R v1I v2I σ) = _
  unfold T_Tw_all_1
  simp only [lpK_ite, lq_inl, lq_inr, lpK_bnd, lpK_gd, lq_let]
  try rfl
noncomputable def M_Tw_all (v0R : Nat) (σ : AM) : Option (Int32 × AM) := mw σ (L_Tw_all_0 v0R σ)
def I_Tw_all (G : GX) (p : Program) (l : Launch) (e : Env) (s : State) (m : MethodId) (args : Array Value) (below : List Frame) (meth : Method) (c : Code) (z0 u0 n : Nat) : Prop :=
  (∀ (v0R : Nat) (σ : AM), VX (QM eI G args s below z0 u0) G p l e s m args below meth c 0 z0 u0 3 (lpn F_Tw_all n (0, v0R, 0, 0, σ)) 0 [(0, .ref v0R)] [] σ) ∧
  (∀ (v0R : Nat) (v1I : Int32) (v2I : Int32) (σ : AM), VX (QM eI G args s below z0 u0) G p l e s m args below meth c 0 z0 u0 3 (lpn F_Tw_all n (1, v0R, v1I, v2I, σ)) 4 [(0, .ref v0R), (1, .int v1I), (2, .int v2I)] [] σ)
set_option maxRecDepth 20000 in
theorem s_Tw_all_0 {G : GX} {p : Program} {l : Launch} {e : Env} {s : State} {m : MethodId} {args : Array Value} {below : List Frame} {meth : Method} {c : Code} {z0 u0 n : Nat} (C : Cx G p s m args meth c prog_12_method_17_code 3 "BellPlate$Tower" ((some FieldType.int))) (IH : I_Tw_all G p l e s m args below meth c z0 u0 n) (v0R : Nat) (σ : AM) : VX (QM eI G args s below z0 u0) G p l e s m args below meth c 0 z0 u0 3 (lpK (lpn F_Tw_all n) (T_Tw_all_0 v0R σ)) 0 [(0, .ref v0R)] [] σ := by
  unfold T_Tw_all_0
  refine x_iconst (v := (1 : Int32)) C d_Tw_all_0 (by decide) ?_
  refine x_istore_n (lv' := [(1, .int (1 : Int32)), (0, .ref v0R)]) C d_Tw_all_1 (by decide) rfl rfl ?_
  refine x_iconst (v := (0 : Int32)) C d_Tw_all_2 (by decide) ?_
  refine x_istore_n (lv' := [(2, .int (0 : Int32)), (1, .int (1 : Int32)), (0, .ref v0R)]) C d_Tw_all_3 (by decide) rfl rfl ?_
  refine x_lv [2, 1, 0] rfl ?_
  exact IH.2 v0R ((1 : Int32)) ((0 : Int32)) (σ)
set_option maxRecDepth 20000 in
theorem s_Tw_all_1 {G : GX} {p : Program} {l : Launch} {e : Env} {s : State} {m : MethodId} {args : Array Value} {below : List Frame} {meth : Method} {c : Code} {z0 u0 n : Nat} (C : Cx G p s m args meth c prog_12_method_17_code 3 "BellPlate$Tower" ((some FieldType.int))) (IH : I_Tw_all G p l e s m args below meth c z0 u0 n) (v0R : Nat) (v1I : Int32) (v2I : Int32) (σ : AM) : VX (QM eI G args s below z0 u0) G p l e s m args below meth c 0 z0 u0 3 (lpK (lpn F_Tw_all n) (T_Tw_all_1 v0R v1I v2I σ)) 4 [(0, .ref v0R), (1, .int v1I), (2, .int v2I)] [] σ := by
  unfold T_Tw_all_1
  refine x_iload_n C d_Tw_all_4 2 rfl ?_
  refine x_aload_n C d_Tw_all_5 0 rfl ?_
  refine x_gd (fun h1 => ?_)
  refine x_getI (k := 7) C (okO_iff.mp h1) rfl j0_ok (by decide) rfl w174 d_Tw_all_6 ?_
  refine x_icmp_ge (tgt := 27) C d_Tw_all_9 (by decide) (fun _ => ?_) (fun _ => ?_)
  · refine x_iload_n C d_Tw_all_12 1 rfl ?_
    refine x_aload_n C d_Tw_all_13 0 rfl ?_
    refine x_getI (k := 8) C (okO_iff.mp h1) rfl j0_ok (by decide) rfl w175 d_Tw_all_14 ?_
    refine x_iconst (v := (1 : Int32)) C d_Tw_all_17 (by decide) ?_
    refine x_iadd C d_Tw_all_18 ?_
    refine x_imul C d_Tw_all_19 ?_
    refine x_letI (fun x2 _ => ?_)
    refine x_istore_n (lv' := [(1, .int x2), (0, .ref v0R), (2, .int v2I)]) C d_Tw_all_20 (by decide) rfl rfl ?_
    refine x_iinc (v := v2I + (1 : Int32)) (lv' := [(2, .int (v2I + (1 : Int32))), (1, .int x2), (0, .ref v0R)]) C d_Tw_all_21 2 rfl rfl (by decide) rfl ?_
    refine x_goto (tgt := 4) C d_Tw_all_24 (by decide) ?_
    refine x_lv [2, 1, 0] rfl ?_
    exact IH.2 v0R x2 (v2I + (1 : Int32)) (σ)
  · refine x_iload_n C d_Tw_all_27 1 rfl ?_
    exact x_iret C d_Tw_all_28
theorem i_Tw_all {G : GX} {p : Program} {l : Launch} {e : Env} {s : State} {m : MethodId} {args : Array Value} {below : List Frame} {meth : Method} {c : Code} {z0 u0 : Nat} (C : Cx G p s m args meth c prog_12_method_17_code 3 "BellPlate$Tower" ((some FieldType.int))) (n : Nat) : I_Tw_all G p l e s m args below meth c z0 u0 n := by
  induction n with
  | zero => exact ⟨fun _ _ => x_none, fun _ _ _ _ => x_none⟩
  | succ n IH => exact ⟨fun v0R σ => s_Tw_all_0 C IH v0R σ, fun v0R v1I v2I σ => s_Tw_all_1 C IH v0R v1I v2I σ⟩
theorem c_Tw_all (G : GX) (l : Launch) (v0R : Nat) (σ : AM) : CT eI G l 0 y_Tw_all prog_12_method_17_code 3 ((some FieldType.int)) [.ref v0R] σ (M_Tw_all v0R σ) := by
  refine ct_of (by decide +kernel) (Nat.le_of_ble_eq_true rfl) (fun p e s m args below meth c C hin => ?_)
  refine x_lve (lv' := [(0, .ref v0R)]) rfl ?_
  intro r σ' h
  obtain ⟨n, hn⟩ := (lp_iff _ _ _).mp h
  exact (i_Tw_all C n).1 v0R σ r σ' hn
/-! BellPlate$Tower.sumOf(I[I)I -/
abbrev y_Tw_sumOf : MethodName := ⟨"BellPlate$Tower", "sumOf", "(I[I)I"⟩
theorem k_Tw_sumOf : y_Tw_sumOf.cls ≠ "java/lang/invoke/MethodHandle" ∧ y_Tw_sumOf.cls ≠ "java/lang/invoke/VarHandle" ∧ (parseMethodDescriptor y_Tw_sumOf.desc).map (fun d => d.parameters.length) = some 2 := by decide +kernel
theorem d_Tw_sumOf_0 : decode prog_12_method_26_code 0 = .ok (.iconst 0, 1) := by decide +kernel
theorem d_Tw_sumOf_1 : decode prog_12_method_26_code 1 = .ok (.istore_n 2, 1) := by decide +kernel
theorem d_Tw_sumOf_2 : decode prog_12_method_26_code 2 = .ok (.iconst 0, 1) := by decide +kernel
theorem d_Tw_sumOf_3 : decode prog_12_method_26_code 3 = .ok (.istore_n 3, 1) := by decide +kernel
theorem d_Tw_sumOf_4 : decode prog_12_method_26_code 4 = .ok (.iload_n 3, 1) := by decide +kernel
theorem d_Tw_sumOf_5 : decode prog_12_method_26_code 5 = .ok (.aload_n 1, 1) := by decide +kernel
theorem d_Tw_sumOf_6 : decode prog_12_method_26_code 6 = .ok (.arraylength, 1) := by decide +kernel
theorem d_Tw_sumOf_7 : decode prog_12_method_26_code 7 = .ok (.if_icmp .ge 23, 3) := by decide +kernel
theorem d_Tw_sumOf_10 : decode prog_12_method_26_code 10 = .ok (.iload_n 0, 1) := by decide +kernel
theorem d_Tw_sumOf_11 : decode prog_12_method_26_code 11 = .ok (.iload_n 3, 1) := by decide +kernel
theorem d_Tw_sumOf_12 : decode prog_12_method_26_code 12 = .ok (.ishr, 1) := by decide +kernel
theorem d_Tw_sumOf_13 : decode prog_12_method_26_code 13 = .ok (.iconst 1, 1) := by decide +kernel
theorem d_Tw_sumOf_14 : decode prog_12_method_26_code 14 = .ok (.iand, 1) := by decide +kernel
theorem d_Tw_sumOf_15 : decode prog_12_method_26_code 15 = .ok (.ifCond .eq 9, 3) := by decide +kernel
theorem d_Tw_sumOf_18 : decode prog_12_method_26_code 18 = .ok (.iload_n 2, 1) := by decide +kernel
theorem d_Tw_sumOf_19 : decode prog_12_method_26_code 19 = .ok (.aload_n 1, 1) := by decide +kernel
theorem d_Tw_sumOf_20 : decode prog_12_method_26_code 20 = .ok (.iload_n 3, 1) := by decide +kernel
theorem d_Tw_sumOf_21 : decode prog_12_method_26_code 21 = .ok (.iaload, 1) := by decide +kernel
theorem d_Tw_sumOf_22 : decode prog_12_method_26_code 22 = .ok (.iadd, 1) := by decide +kernel
theorem d_Tw_sumOf_23 : decode prog_12_method_26_code 23 = .ok (.istore_n 2, 1) := by decide +kernel
theorem d_Tw_sumOf_24 : decode prog_12_method_26_code 24 = .ok (.iinc 3 1, 3) := by decide +kernel
theorem d_Tw_sumOf_27 : decode prog_12_method_26_code 27 = .ok (.goto (-23), 3) := by decide +kernel
theorem d_Tw_sumOf_30 : decode prog_12_method_26_code 30 = .ok (.iload_n 2, 1) := by decide +kernel
theorem d_Tw_sumOf_31 : decode prog_12_method_26_code 31 = .ok (.ireturn, 1) := by decide +kernel
abbrev S_Tw_sumOf : Type := Nat × Int32 × Nat × Int32 × Int32 × AM
noncomputable def T_Tw_sumOf_0 (v0I : Int32) (v1R : Nat) (σ : AM) : S_Tw_sumOf ⊕ Option (Int32 × AM) :=
  .inl (1, v0I, v1R, (0 : Int32), (0 : Int32), σ)
noncomputable def T_Tw_sumOf_1 (v0I : Int32) (v1R : Nat) (v2I : Int32) (v3I : Int32) (σ : AM) : S_Tw_sumOf ⊕ Option (Int32 × AM) :=
  gdT (okO σ v1R 101) <| if v3I < (nI (aN σ v1R)) then (if ((v0I >>> (v3I &&& 31)) &&& (1 : Int32)) = 0 then (.inl (2, v0I, v1R, v2I, v3I, σ)) else (gdT (inB v3I (aN σ v1R)) <| letT (v2I + (aI σ v1R v3I.toNatClampNeg)) fun x3 => .inl (2, v0I, v1R, x3, v3I, σ))) else (.inr (some (v2I, σ)))
noncomputable def T_Tw_sumOf_2 (v0I : Int32) (v1R : Nat) (v2I : Int32) (v3I : Int32) (σ : AM) : S_Tw_sumOf ⊕ Option (Int32 × AM) :=
  .inl (1, v0I, v1R, v2I, v3I + (1 : Int32), σ)
noncomputable def F_Tw_sumOf : S_Tw_sumOf → S_Tw_sumOf ⊕ Option (Int32 × AM) := fun s => match s.1 with
  | 0 => T_Tw_sumOf_0 (s.2.1) (s.2.2.1) (s.2.2.2.2.2)
  | 1 => T_Tw_sumOf_1 (s.2.1) (s.2.2.1) (s.2.2.2.1) (s.2.2.2.2.1) (s.2.2.2.2.2)
  | _ => T_Tw_sumOf_2 (s.2.1) (s.2.2.1) (s.2.2.2.1) (s.2.2.2.2.1) (s.2.2.2.2.2)
noncomputable def L_Tw_sumOf_0 (v0I : Int32) (v1R : Nat) (σ : AM) : Option (Int32 × AM) := lp F_Tw_sumOf (0, v0I, v1R, 0, 0, σ)
noncomputable def L_Tw_sumOf_1 (v0I : Int32) (v1R : Nat) (v2I : Int32) (v3I : Int32) (σ : AM) : Option (Int32 × AM) := lp F_Tw_sumOf (1, v0I, v1R, v2I, v3I, σ)
noncomputable def L_Tw_sumOf_2 (v0I : Int32) (v1R : Nat) (v2I : Int32) (v3I : Int32) (σ : AM) : Option (Int32 × AM) := lp F_Tw_sumOf (2, v0I, v1R, v2I, v3I, σ)
set_option maxRecDepth 20000 in
theorem E_Tw_sumOf_0 (v0I : Int32) (v1R : Nat) (σ : AM) : L_Tw_sumOf_0 v0I v1R σ = (L_Tw_sumOf_1 v0I v1R ((0 : Int32)) ((0 : Int32)) σ) := by
  unfold L_Tw_sumOf_0
  rw [lp_eq]
  show lpK (lp F_Tw_sumOf) (T_Tw_sumOf_0 v0I v1R σ) = _
  unfold T_Tw_sumOf_0
  simp only [lpK_ite, lq_inl, lq_inr, lpK_bnd, lpK_gd, lq_let]
  try rfl
set_option maxRecDepth 20000 in
theorem E_Tw_sumOf_1 (v0I : Int32) (v1R : Nat) (v2I : Int32) (v3I : Int32) (σ : AM) : L_Tw_sumOf_1 v0I v1R v2I v3I σ = (gd (okO σ v1R 101) <| if v3I < (nI (aN σ v1R)) then (if ((v0I >>> (v3I &&& 31)) &&& (1 : Int32)) = 0 then (L_Tw_sumOf_2 v0I v1R v2I v3I σ) else (gd (inB v3I (aN σ v1R)) <| letT (v2I + (aI σ v1R v3I.toNatClampNeg)) fun x3 => L_Tw_sumOf_2 v0I v1R x3 v3I σ)) else ((some (v2I, σ)))) := by
  unfold L_Tw_sumOf_1
  rw [lp_eq]
  show lpK (lp F_Tw_sumOf) (T_Tw_sumOf_1 v0I v1R v2I v3I σ) = _
  unfold T_Tw_sumOf_1
  simp only [lpK_ite, lq_inl, lq_inr, lpK_bnd, lpK_gd, lq_let]
  try rfl
set_option maxRecDepth 20000 in
theorem E_Tw_sumOf_2 (v0I : Int32) (v1R : Nat) (v2I : Int32) (v3I : Int32) (σ : AM) : L_Tw_sumOf_2 v0I v1R v2I v3I σ = (L_Tw_sumOf_1 v0I v1R v2I (v3I + (1 : Int32)) σ) := by
  unfold L_Tw_sumOf_2
  rw [lp_eq]
  show lpK (lp F_Tw_sumOf) (T_Tw_sumOf_2 v0I v1R v2I v3I σ) = _
  unfold T_Tw_sumOf_2
  simp only [lpK_ite, lq_inl, lq_inr, lpK_bnd, lpK_gd, lq_let]
  try rfl
noncomputable def M_Tw_sumOf (v0I : Int32) (v1R : Nat) (σ : AM) : Option (Int32 × AM) := mw σ (L_Tw_sumOf_0 v0I v1R σ)
def I_Tw_sumOf (G : GX) (p : Program) (l : Launch) (e : Env) (s : State) (m : MethodId) (args : Array Value) (below : List Frame) (meth : Method) (c : Code) (z0 u0 n : Nat) : Prop :=
  (∀ (v0I : Int32) (v1R : Nat) (σ : AM), VX (QM eI G args s below z0 u0) G p l e s m args below meth c 0 z0 u0 4 (lpn F_Tw_sumOf n (0, v0I, v1R, 0, 0, σ)) 0 [(0, .int v0I), (1, .ref v1R)] [] σ) ∧
  (∀ (v0I : Int32) (v1R : Nat) (v2I : Int32) (v3I : Int32) (σ : AM), VX (QM eI G args s below z0 u0) G p l e s m args below meth c 0 z0 u0 4 (lpn F_Tw_sumOf n (1, v0I, v1R, v2I, v3I, σ)) 4 [(0, .int v0I), (1, .ref v1R), (2, .int v2I), (3, .int v3I)] [] σ) ∧
  (∀ (v0I : Int32) (v1R : Nat) (v2I : Int32) (v3I : Int32) (σ : AM), VX (QM eI G args s below z0 u0) G p l e s m args below meth c 0 z0 u0 4 (lpn F_Tw_sumOf n (2, v0I, v1R, v2I, v3I, σ)) 24 [(0, .int v0I), (1, .ref v1R), (2, .int v2I), (3, .int v3I)] [] σ)
set_option maxRecDepth 20000 in
theorem s_Tw_sumOf_0 {G : GX} {p : Program} {l : Launch} {e : Env} {s : State} {m : MethodId} {args : Array Value} {below : List Frame} {meth : Method} {c : Code} {z0 u0 n : Nat} (C : Cx G p s m args meth c prog_12_method_26_code 4 "BellPlate$Tower" ((some FieldType.int))) (IH : I_Tw_sumOf G p l e s m args below meth c z0 u0 n) (v0I : Int32) (v1R : Nat) (σ : AM) : VX (QM eI G args s below z0 u0) G p l e s m args below meth c 0 z0 u0 4 (lpK (lpn F_Tw_sumOf n) (T_Tw_sumOf_0 v0I v1R σ)) 0 [(0, .int v0I), (1, .ref v1R)] [] σ := by
  unfold T_Tw_sumOf_0
  refine x_iconst (v := (0 : Int32)) C d_Tw_sumOf_0 (by decide) ?_
  refine x_istore_n (lv' := [(2, .int (0 : Int32)), (0, .int v0I), (1, .ref v1R)]) C d_Tw_sumOf_1 (by decide) rfl rfl ?_
  refine x_iconst (v := (0 : Int32)) C d_Tw_sumOf_2 (by decide) ?_
  refine x_istore_n (lv' := [(3, .int (0 : Int32)), (2, .int (0 : Int32)), (0, .int v0I), (1, .ref v1R)]) C d_Tw_sumOf_3 (by decide) rfl rfl ?_
  refine x_lv [2, 3, 1, 0] rfl ?_
  exact IH.2.1 v0I v1R ((0 : Int32)) ((0 : Int32)) (σ)
set_option maxRecDepth 20000 in
theorem s_Tw_sumOf_1 {G : GX} {p : Program} {l : Launch} {e : Env} {s : State} {m : MethodId} {args : Array Value} {below : List Frame} {meth : Method} {c : Code} {z0 u0 n : Nat} (C : Cx G p s m args meth c prog_12_method_26_code 4 "BellPlate$Tower" ((some FieldType.int))) (IH : I_Tw_sumOf G p l e s m args below meth c z0 u0 n) (v0I : Int32) (v1R : Nat) (v2I : Int32) (v3I : Int32) (σ : AM) : VX (QM eI G args s below z0 u0) G p l e s m args below meth c 0 z0 u0 4 (lpK (lpn F_Tw_sumOf n) (T_Tw_sumOf_1 v0I v1R v2I v3I σ)) 4 [(0, .int v0I), (1, .ref v1R), (2, .int v2I), (3, .int v3I)] [] σ := by
  unfold T_Tw_sumOf_1
  refine x_iload_n C d_Tw_sumOf_4 3 rfl ?_
  refine x_aload_n C d_Tw_sumOf_5 1 rfl ?_
  refine x_gd (fun h1 => ?_)
  refine x_alen (t := 0) C (okO_iff.mp h1) (by decide) d_Tw_sumOf_6 ?_
  refine x_icmp_ge (tgt := 30) C d_Tw_sumOf_7 (by decide) (fun _ => ?_) (fun _ => ?_)
  · refine x_iload_n C d_Tw_sumOf_10 0 rfl ?_
    refine x_iload_n C d_Tw_sumOf_11 3 rfl ?_
    refine x_ishr C d_Tw_sumOf_12 ?_
    refine x_iconst (v := (1 : Int32)) C d_Tw_sumOf_13 (by decide) ?_
    refine x_iand C d_Tw_sumOf_14 ?_
    refine x_if_eq (tgt := 24) C d_Tw_sumOf_15 (by decide) (fun _ => ?_) (fun _ => ?_)
    · exact IH.2.2 v0I v1R v2I v3I (σ)
    · refine x_iload_n C d_Tw_sumOf_18 2 rfl ?_
      refine x_aload_n C d_Tw_sumOf_19 1 rfl ?_
      refine x_iload_n C d_Tw_sumOf_20 3 rfl ?_
      refine x_gd (fun h2 => ?_)
      refine x_aldI C (okO_iff.mp h1) (inB_iff.mp h2) d_Tw_sumOf_21 ?_
      refine x_iadd C d_Tw_sumOf_22 ?_
      refine x_letI (fun x3 _ => ?_)
      refine x_istore_n (lv' := [(2, .int x3), (0, .int v0I), (1, .ref v1R), (3, .int v3I)]) C d_Tw_sumOf_23 (by decide) rfl rfl ?_
      refine x_lv [1, 2, 0, 3] rfl ?_
      exact IH.2.2 v0I v1R x3 v3I (σ)
  · refine x_iload_n C d_Tw_sumOf_30 2 rfl ?_
    exact x_iret C d_Tw_sumOf_31
set_option maxRecDepth 20000 in
theorem s_Tw_sumOf_2 {G : GX} {p : Program} {l : Launch} {e : Env} {s : State} {m : MethodId} {args : Array Value} {below : List Frame} {meth : Method} {c : Code} {z0 u0 n : Nat} (C : Cx G p s m args meth c prog_12_method_26_code 4 "BellPlate$Tower" ((some FieldType.int))) (IH : I_Tw_sumOf G p l e s m args below meth c z0 u0 n) (v0I : Int32) (v1R : Nat) (v2I : Int32) (v3I : Int32) (σ : AM) : VX (QM eI G args s below z0 u0) G p l e s m args below meth c 0 z0 u0 4 (lpK (lpn F_Tw_sumOf n) (T_Tw_sumOf_2 v0I v1R v2I v3I σ)) 24 [(0, .int v0I), (1, .ref v1R), (2, .int v2I), (3, .int v3I)] [] σ := by
  unfold T_Tw_sumOf_2
  refine x_iinc (v := v3I + (1 : Int32)) (lv' := [(3, .int (v3I + (1 : Int32))), (0, .int v0I), (1, .ref v1R), (2, .int v2I)]) C d_Tw_sumOf_24 3 rfl rfl (by decide) rfl ?_
  refine x_goto (tgt := 4) C d_Tw_sumOf_27 (by decide) ?_
  refine x_lv [1, 2, 3, 0] rfl ?_
  exact IH.2.1 v0I v1R v2I (v3I + (1 : Int32)) (σ)
theorem i_Tw_sumOf {G : GX} {p : Program} {l : Launch} {e : Env} {s : State} {m : MethodId} {args : Array Value} {below : List Frame} {meth : Method} {c : Code} {z0 u0 : Nat} (C : Cx G p s m args meth c prog_12_method_26_code 4 "BellPlate$Tower" ((some FieldType.int))) (n : Nat) : I_Tw_sumOf G p l e s m args below meth c z0 u0 n := by
  induction n with
  | zero => exact ⟨fun _ _ _ => x_none, fun _ _ _ _ _ => x_none, fun _ _ _ _ _ => x_none⟩
  | succ n IH => exact ⟨fun v0I v1R σ => s_Tw_sumOf_0 C IH v0I v1R σ, fun v0I v1R v2I v3I σ => s_Tw_sumOf_1 C IH v0I v1R v2I v3I σ, fun v0I v1R v2I v3I σ => s_Tw_sumOf_2 C IH v0I v1R v2I v3I σ⟩
theorem c_Tw_sumOf (G : GX) (l : Launch) (v0I : Int32) (v1R : Nat) (σ : AM) : CT eI G l 0 y_Tw_sumOf prog_12_method_26_code 4 ((some FieldType.int)) [.int v0I, .ref v1R] σ (M_Tw_sumOf v0I v1R σ) := by
  refine ct_of (by decide +kernel) (Nat.le_of_ble_eq_true rfl) (fun p e s m args below meth c C hin => ?_)
  refine x_lve (lv' := [(0, .int v0I), (1, .ref v1R)]) rfl ?_
  intro r σ' h
  obtain ⟨n, hn⟩ := (lp_iff _ _ _).mp h
  exact (i_Tw_sumOf C n).1 v0I v1R σ r σ' hn
/-! BellPlate$Tower.step([I)I -/
abbrev y_Tw_step : MethodName := ⟨"BellPlate$Tower", "step", "([I)I"⟩
theorem k_Tw_step : y_Tw_step.cls ≠ "java/lang/invoke/MethodHandle" ∧ y_Tw_step.cls ≠ "java/lang/invoke/VarHandle" ∧ (parseMethodDescriptor y_Tw_step.desc).map (fun d => d.parameters.length) = some 1 := by decide +kernel
theorem d_Tw_step_0 : decode prog_12_method_25_code 0 = .ok (.iconst 0, 1) := by decide +kernel
theorem d_Tw_step_1 : decode prog_12_method_25_code 1 = .ok (.istore_n 2, 1) := by decide +kernel
theorem d_Tw_step_2 : decode prog_12_method_25_code 2 = .ok (.iconst 0, 1) := by decide +kernel
theorem d_Tw_step_3 : decode prog_12_method_25_code 3 = .ok (.istore_n 3, 1) := by decide +kernel
theorem d_Tw_step_4 : decode prog_12_method_25_code 4 = .ok (.iload_n 3, 1) := by decide +kernel
theorem d_Tw_step_5 : decode prog_12_method_25_code 5 = .ok (.aload_n 0, 1) := by decide +kernel
theorem d_Tw_step_6 : decode prog_12_method_25_code 6 = .ok (.getfield 43, 3) := by decide +kernel
theorem d_Tw_step_9 : decode prog_12_method_25_code 9 = .ok (.if_icmp .ge 46, 3) := by decide +kernel
theorem d_Tw_step_12 : decode prog_12_method_25_code 12 = .ok (.iload_n 3, 1) := by decide +kernel
theorem d_Tw_step_13 : decode prog_12_method_25_code 13 = .ok (.aload_n 1, 1) := by decide +kernel
theorem d_Tw_step_14 : decode prog_12_method_25_code 14 = .ok (.arraylength, 1) := by decide +kernel
theorem d_Tw_step_15 : decode prog_12_method_25_code 15 = .ok (.if_icmp .ge 40, 3) := by decide +kernel
theorem d_Tw_step_18 : decode prog_12_method_25_code 18 = .ok (.aload_n 1, 1) := by decide +kernel
theorem d_Tw_step_19 : decode prog_12_method_25_code 19 = .ok (.iload_n 3, 1) := by decide +kernel
theorem d_Tw_step_20 : decode prog_12_method_25_code 20 = .ok (.iaload, 1) := by decide +kernel
theorem d_Tw_step_21 : decode prog_12_method_25_code 21 = .ok (.aload_n 0, 1) := by decide +kernel
theorem d_Tw_step_22 : decode prog_12_method_25_code 22 = .ok (.getfield 33, 3) := by decide +kernel
theorem d_Tw_step_25 : decode prog_12_method_25_code 25 = .ok (.if_icmp .ge 14, 3) := by decide +kernel
theorem d_Tw_step_28 : decode prog_12_method_25_code 28 = .ok (.aload_n 1, 1) := by decide +kernel
theorem d_Tw_step_29 : decode prog_12_method_25_code 29 = .ok (.iload_n 3, 1) := by decide +kernel
theorem d_Tw_step_30 : decode prog_12_method_25_code 30 = .ok (.dup2, 1) := by decide +kernel
theorem d_Tw_step_31 : decode prog_12_method_25_code 31 = .ok (.iaload, 1) := by decide +kernel
theorem d_Tw_step_32 : decode prog_12_method_25_code 32 = .ok (.iconst 1, 1) := by decide +kernel
theorem d_Tw_step_33 : decode prog_12_method_25_code 33 = .ok (.iadd, 1) := by decide +kernel
theorem d_Tw_step_34 : decode prog_12_method_25_code 34 = .ok (.iastore, 1) := by decide +kernel
theorem d_Tw_step_35 : decode prog_12_method_25_code 35 = .ok (.iload_n 2, 1) := by decide +kernel
theorem d_Tw_step_36 : decode prog_12_method_25_code 36 = .ok (.iconst 1, 1) := by decide +kernel
theorem d_Tw_step_37 : decode prog_12_method_25_code 37 = .ok (.iadd, 1) := by decide +kernel
theorem d_Tw_step_38 : decode prog_12_method_25_code 38 = .ok (.ireturn, 1) := by decide +kernel
theorem d_Tw_step_39 : decode prog_12_method_25_code 39 = .ok (.iload_n 2, 1) := by decide +kernel
theorem d_Tw_step_40 : decode prog_12_method_25_code 40 = .ok (.aload_n 1, 1) := by decide +kernel
theorem d_Tw_step_41 : decode prog_12_method_25_code 41 = .ok (.iload_n 3, 1) := by decide +kernel
theorem d_Tw_step_42 : decode prog_12_method_25_code 42 = .ok (.iaload, 1) := by decide +kernel
theorem d_Tw_step_43 : decode prog_12_method_25_code 43 = .ok (.isub, 1) := by decide +kernel
theorem d_Tw_step_44 : decode prog_12_method_25_code 44 = .ok (.istore_n 2, 1) := by decide +kernel
theorem d_Tw_step_45 : decode prog_12_method_25_code 45 = .ok (.aload_n 1, 1) := by decide +kernel
theorem d_Tw_step_46 : decode prog_12_method_25_code 46 = .ok (.iload_n 3, 1) := by decide +kernel
theorem d_Tw_step_47 : decode prog_12_method_25_code 47 = .ok (.iconst 0, 1) := by decide +kernel
theorem d_Tw_step_48 : decode prog_12_method_25_code 48 = .ok (.iastore, 1) := by decide +kernel
theorem d_Tw_step_49 : decode prog_12_method_25_code 49 = .ok (.iinc 3 1, 3) := by decide +kernel
theorem d_Tw_step_52 : decode prog_12_method_25_code 52 = .ok (.goto (-48), 3) := by decide +kernel
theorem d_Tw_step_55 : decode prog_12_method_25_code 55 = .ok (.iload_n 2, 1) := by decide +kernel
theorem d_Tw_step_56 : decode prog_12_method_25_code 56 = .ok (.ireturn, 1) := by decide +kernel
abbrev S_Tw_step : Type := Nat × Nat × Nat × Int32 × Int32 × AM
noncomputable def T_Tw_step_0 (v0R : Nat) (v1R : Nat) (σ : AM) : S_Tw_step ⊕ Option (Int32 × AM) :=
  .inl (1, v0R, v1R, (0 : Int32), (0 : Int32), σ)
noncomputable def T_Tw_step_1 (v0R : Nat) (v1R : Nat) (v2I : Int32) (v3I : Int32) (σ : AM) : S_Tw_step ⊕ Option (Int32 × AM) :=
  gdT (okO σ v0R 1) <| if v3I < (aI σ v0R 7) then (gdT (okO σ v1R 101) <| if v3I < (nI (aN σ v1R)) then (gdT (inB v3I (aN σ v1R)) <| if (aI σ v1R v3I.toNatClampNeg) < (aI σ v0R 8) then (letT (sI σ v1R v3I.toNatClampNeg ((aI σ v1R v3I.toNatClampNeg) + (1 : Int32))) fun σ4 => .inr (some ((v2I + (1 : Int32)), σ4))) else (letT (v2I - (aI σ v1R v3I.toNatClampNeg)) fun x6 => letT (sI σ v1R v3I.toNatClampNeg (0 : Int32)) fun σ7 => .inl (1, v0R, v1R, x6, v3I + (1 : Int32), σ7))) else (.inl (2, 0, 0, v2I, 0, σ))) else (.inl (2, 0, 0, v2I, 0, σ))
noncomputable def T_Tw_step_2 (v2I : Int32) (σ : AM) : S_Tw_step ⊕ Option (Int32 × AM) :=
  .inr (some (v2I, σ))
noncomputable def F_Tw_step : S_Tw_step → S_Tw_step ⊕ Option (Int32 × AM) := fun s => match s.1 with
  | 0 => T_Tw_step_0 (s.2.1) (s.2.2.1) (s.2.2.2.2.2)
  | 1 => T_Tw_step_1 (s.2.1) (s.2.2.1) (s.2.2.2.1) (s.2.2.2.2.1) (s.2.2.2.2.2)
  | _ => T_Tw_step_2 (s.2.2.2.1) (s.2.2.2.2.2)
noncomputable def L_Tw_step_0 (v0R : Nat) (v1R : Nat) (σ : AM) : Option (Int32 × AM) := lp F_Tw_step (0, v0R, v1R, 0, 0, σ)
noncomputable def L_Tw_step_1 (v0R : Nat) (v1R : Nat) (v2I : Int32) (v3I : Int32) (σ : AM) : Option (Int32 × AM) := lp F_Tw_step (1, v0R, v1R, v2I, v3I, σ)
noncomputable def L_Tw_step_2 (v2I : Int32) (σ : AM) : Option (Int32 × AM) := lp F_Tw_step (2, 0, 0, v2I, 0, σ)
set_option maxRecDepth 20000 in
theorem E_Tw_step_0 (v0R : Nat) (v1R : Nat) (σ : AM) : L_Tw_step_0 v0R v1R σ = (L_Tw_step_1 v0R v1R ((0 : Int32)) ((0 : Int32)) σ) := by
  unfold L_Tw_step_0
  rw [lp_eq]
  show lpK (lp F_Tw_step) (T_Tw_step_0 v0R v1R σ) = _
  unfold T_Tw_step_0
  simp only [lpK_ite, lq_inl, lq_inr, lpK_bnd, lpK_gd, lq_let]
  try rfl
set_option maxRecDepth 20000 in
theorem E_Tw_step_1 (v0R : Nat) (v1R : Nat) (v2I : Int32) (v3I : Int32) (σ : AM) : L_Tw_step_1 v0R v1R v2I v3I σ = (gd (okO σ v0R 1) <| if v3I < (aI σ v0R 7) then (gd (okO σ v1R 101) <| if v3I < (nI (aN σ v1R)) then (gd (inB v3I (aN σ v1R)) <| if (aI σ v1R v3I.toNatClampNeg) < (aI σ v0R 8) then (letT (sI σ v1R v3I.toNatClampNeg ((aI σ v1R v3I.toNatClampNeg) + (1 : Int32))) fun σ4 => (some ((v2I + (1 : Int32)), σ4))) else (letT (v2I - (aI σ v1R v3I.toNatClampNeg)) fun x6 => letT (sI σ v1R v3I.toNatClampNeg (0 : Int32)) fun σ7 => L_Tw_step_1 v0R v1R x6 (v3I + (1 : Int32)) σ7)) else (L_Tw_step_2 v2I σ)) else (L_Tw_step_2 v2I σ)) := by
  unfold L_Tw_step_1
  rw [lp_eq]
  show lpK (lp F_Tw_step) (T_Tw_step_1 v0R v1R v2I v3I σ) = _
  unfold T_Tw_step_1
  simp only [lpK_ite, lq_inl, lq_inr, lpK_bnd, lpK_gd, lq_let]
  try rfl
set_option maxRecDepth 20000 in
theorem E_Tw_step_2 (v2I : Int32) (σ : AM) : L_Tw_step_2 v2I σ = ((some (v2I, σ))) := by
  unfold L_Tw_step_2
  rw [lp_eq]
  show lpK (lp F_Tw_step) (T_Tw_step_2 v2I σ) = _
  unfold T_Tw_step_2
  simp only [lpK_ite, lq_inl, lq_inr, lpK_bnd, lpK_gd, lq_let]
  try rfl
noncomputable def M_Tw_step (v0R : Nat) (v1R : Nat) (σ : AM) : Option (Int32 × AM) := mw σ (L_Tw_step_0 v0R v1R σ)
def I_Tw_step (G : GX) (p : Program) (l : Launch) (e : Env) (s : State) (m : MethodId) (args : Array Value) (below : List Frame) (meth : Method) (c : Code) (z0 u0 n : Nat) : Prop :=
  (∀ (v0R : Nat) (v1R : Nat) (σ : AM), VX (QM eI G args s below z0 u0) G p l e s m args below meth c 0 z0 u0 4 (lpn F_Tw_step n (0, v0R, v1R, 0, 0, σ)) 0 [(0, .ref v0R), (1, .ref v1R)] [] σ) ∧
  (∀ (v0R : Nat) (v1R : Nat) (v2I : Int32) (v3I : Int32) (σ : AM), VX (QM eI G args s below z0 u0) G p l e s m args below meth c 0 z0 u0 4 (lpn F_Tw_step n (1, v0R, v1R, v2I, v3I, σ)) 4 [(0, .ref v0R), (1, .ref v1R), (2, .int v2I), (3, .int v3I)] [] σ) ∧
  (∀ (v2I : Int32) (σ : AM), VX (QM eI G args s below z0 u0) G p l e s m args below meth c 0 z0 u0 4 (lpn F_Tw_step n (2, 0, 0, v2I, 0, σ)) 55 [(2, .int v2I)] [] σ)
set_option maxRecDepth 20000 in
theorem s_Tw_step_0 {G : GX} {p : Program} {l : Launch} {e : Env} {s : State} {m : MethodId} {args : Array Value} {below : List Frame} {meth : Method} {c : Code} {z0 u0 n : Nat} (C : Cx G p s m args meth c prog_12_method_25_code 4 "BellPlate$Tower" ((some FieldType.int))) (IH : I_Tw_step G p l e s m args below meth c z0 u0 n) (v0R : Nat) (v1R : Nat) (σ : AM) : VX (QM eI G args s below z0 u0) G p l e s m args below meth c 0 z0 u0 4 (lpK (lpn F_Tw_step n) (T_Tw_step_0 v0R v1R σ)) 0 [(0, .ref v0R), (1, .ref v1R)] [] σ := by
  unfold T_Tw_step_0
  refine x_iconst (v := (0 : Int32)) C d_Tw_step_0 (by decide) ?_
  refine x_istore_n (lv' := [(2, .int (0 : Int32)), (0, .ref v0R), (1, .ref v1R)]) C d_Tw_step_1 (by decide) rfl rfl ?_
  refine x_iconst (v := (0 : Int32)) C d_Tw_step_2 (by decide) ?_
  refine x_istore_n (lv' := [(3, .int (0 : Int32)), (2, .int (0 : Int32)), (0, .ref v0R), (1, .ref v1R)]) C d_Tw_step_3 (by decide) rfl rfl ?_
  refine x_lv [2, 3, 1, 0] rfl ?_
  exact IH.2.1 v0R v1R ((0 : Int32)) ((0 : Int32)) (σ)
set_option maxRecDepth 20000 in
theorem s_Tw_step_1 {G : GX} {p : Program} {l : Launch} {e : Env} {s : State} {m : MethodId} {args : Array Value} {below : List Frame} {meth : Method} {c : Code} {z0 u0 n : Nat} (C : Cx G p s m args meth c prog_12_method_25_code 4 "BellPlate$Tower" ((some FieldType.int))) (IH : I_Tw_step G p l e s m args below meth c z0 u0 n) (v0R : Nat) (v1R : Nat) (v2I : Int32) (v3I : Int32) (σ : AM) : VX (QM eI G args s below z0 u0) G p l e s m args below meth c 0 z0 u0 4 (lpK (lpn F_Tw_step n) (T_Tw_step_1 v0R v1R v2I v3I σ)) 4 [(0, .ref v0R), (1, .ref v1R), (2, .int v2I), (3, .int v3I)] [] σ := by
  unfold T_Tw_step_1
  refine x_iload_n C d_Tw_step_4 3 rfl ?_
  refine x_aload_n C d_Tw_step_5 0 rfl ?_
  refine x_gd (fun h1 => ?_)
  refine x_getI (k := 7) C (okO_iff.mp h1) rfl j0_ok (by decide) rfl w174 d_Tw_step_6 ?_
  refine x_icmp_ge (tgt := 55) C d_Tw_step_9 (by decide) (fun _ => ?_) (fun _ => ?_)
  · refine x_iload_n C d_Tw_step_12 3 rfl ?_
    refine x_aload_n C d_Tw_step_13 1 rfl ?_
    refine x_gd (fun h2 => ?_)
    refine x_alen (t := 0) C (okO_iff.mp h2) (by decide) d_Tw_step_14 ?_
    refine x_icmp_ge (tgt := 55) C d_Tw_step_15 (by decide) (fun _ => ?_) (fun _ => ?_)
    · refine x_aload_n C d_Tw_step_18 1 rfl ?_
      refine x_iload_n C d_Tw_step_19 3 rfl ?_
      refine x_gd (fun h3 => ?_)
      refine x_aldI C (okO_iff.mp h2) (inB_iff.mp h3) d_Tw_step_20 ?_
      refine x_aload_n C d_Tw_step_21 0 rfl ?_
      refine x_getI (k := 8) C (okO_iff.mp h1) rfl j0_ok (by decide) rfl w175 d_Tw_step_22 ?_
      refine x_icmp_ge (tgt := 39) C d_Tw_step_25 (by decide) (fun _ => ?_) (fun _ => ?_)
      · refine x_aload_n C d_Tw_step_28 1 rfl ?_
        refine x_iload_n C d_Tw_step_29 3 rfl ?_
        refine x_dup2 C d_Tw_step_30 rfl rfl ?_
        refine x_aldI C (okO_iff.mp h2) (inB_iff.mp h3) d_Tw_step_31 ?_
        refine x_iconst (v := (1 : Int32)) C d_Tw_step_32 (by decide) ?_
        refine x_iadd C d_Tw_step_33 ?_
        refine x_astI C (okO_iff.mp h2) (inB_iff.mp h3) d_Tw_step_34 ?_
        refine x_letS (fun σ4 e5 => ?_)
        refine x_iload_n C d_Tw_step_35 2 rfl ?_
        refine x_iconst (v := (1 : Int32)) C d_Tw_step_36 (by decide) ?_
        refine x_iadd C d_Tw_step_37 ?_
        exact x_iret C d_Tw_step_38
      · refine x_iload_n C d_Tw_step_39 2 rfl ?_
        refine x_aload_n C d_Tw_step_40 1 rfl ?_
        refine x_iload_n C d_Tw_step_41 3 rfl ?_
        refine x_aldI C (okO_iff.mp h2) (inB_iff.mp h3) d_Tw_step_42 ?_
        refine x_isub C d_Tw_step_43 ?_
        refine x_letI (fun x6 _ => ?_)
        refine x_istore_n (lv' := [(2, .int x6), (0, .ref v0R), (1, .ref v1R), (3, .int v3I)]) C d_Tw_step_44 (by decide) rfl rfl ?_
        refine x_aload_n C d_Tw_step_45 2 rfl ?_
        refine x_iload_n C d_Tw_step_46 3 rfl ?_
        refine x_iconst (v := (0 : Int32)) C d_Tw_step_47 (by decide) ?_
        refine x_astI C (okO_iff.mp h2) (inB_iff.mp h3) d_Tw_step_48 ?_
        refine x_letS (fun σ7 e8 => ?_)
        refine x_iinc (v := v3I + (1 : Int32)) (lv' := [(3, .int (v3I + (1 : Int32))), (2, .int x6), (0, .ref v0R), (1, .ref v1R)]) C d_Tw_step_49 3 rfl rfl (by decide) rfl ?_
        refine x_goto (tgt := 4) C d_Tw_step_52 (by decide) ?_
        refine x_lv [2, 3, 1, 0] rfl ?_
        exact IH.2.1 v0R v1R x6 (v3I + (1 : Int32)) (σ7)
    · refine x_lv [2] rfl ?_
      exact IH.2.2 v2I (σ)
  · refine x_lv [2] rfl ?_
    exact IH.2.2 v2I (σ)
set_option maxRecDepth 20000 in
theorem s_Tw_step_2 {G : GX} {p : Program} {l : Launch} {e : Env} {s : State} {m : MethodId} {args : Array Value} {below : List Frame} {meth : Method} {c : Code} {z0 u0 n : Nat} (C : Cx G p s m args meth c prog_12_method_25_code 4 "BellPlate$Tower" ((some FieldType.int))) (IH : I_Tw_step G p l e s m args below meth c z0 u0 n) (v2I : Int32) (σ : AM) : VX (QM eI G args s below z0 u0) G p l e s m args below meth c 0 z0 u0 4 (lpK (lpn F_Tw_step n) (T_Tw_step_2 v2I σ)) 55 [(2, .int v2I)] [] σ := by
  unfold T_Tw_step_2
  refine x_iload_n C d_Tw_step_55 0 rfl ?_
  exact x_iret C d_Tw_step_56
theorem i_Tw_step {G : GX} {p : Program} {l : Launch} {e : Env} {s : State} {m : MethodId} {args : Array Value} {below : List Frame} {meth : Method} {c : Code} {z0 u0 : Nat} (C : Cx G p s m args meth c prog_12_method_25_code 4 "BellPlate$Tower" ((some FieldType.int))) (n : Nat) : I_Tw_step G p l e s m args below meth c z0 u0 n := by
  induction n with
  | zero => exact ⟨fun _ _ _ => x_none, fun _ _ _ _ _ => x_none, fun _ _ => x_none⟩
  | succ n IH => exact ⟨fun v0R v1R σ => s_Tw_step_0 C IH v0R v1R σ, fun v0R v1R v2I v3I σ => s_Tw_step_1 C IH v0R v1R v2I v3I σ, fun v2I σ => s_Tw_step_2 C IH v2I σ⟩
theorem c_Tw_step (G : GX) (l : Launch) (v0R : Nat) (v1R : Nat) (σ : AM) : CT eI G l 0 y_Tw_step prog_12_method_25_code 4 ((some FieldType.int)) [.ref v0R, .ref v1R] σ (M_Tw_step v0R v1R σ) := by
  refine ct_of (by decide +kernel) (Nat.le_of_ble_eq_true rfl) (fun p e s m args below meth c C hin => ?_)
  refine x_lve (lv' := [(0, .ref v0R), (1, .ref v1R)]) rfl ?_
  intro r σ' h
  obtain ⟨n, hn⟩ := (lp_iff _ _ _).mp h
  exact (i_Tw_step C n).1 v0R v1R σ r σ' hn
/-! BellPlate$Tower.most()I -/
abbrev y_Tw_most : MethodName := ⟨"BellPlate$Tower", "most", "()I"⟩
theorem k_Tw_most : y_Tw_most.cls ≠ "java/lang/invoke/MethodHandle" ∧ y_Tw_most.cls ≠ "java/lang/invoke/VarHandle" ∧ (parseMethodDescriptor y_Tw_most.desc).map (fun d => d.parameters.length) = some 0 := by decide +kernel
theorem d_Tw_most_0 : decode prog_12_method_5_code 0 = .ok (.aload_n 0, 1) := by decide +kernel
theorem d_Tw_most_1 : decode prog_12_method_5_code 1 = .ok (.getfield 33, 3) := by decide +kernel
theorem d_Tw_most_4 : decode prog_12_method_5_code 4 = .ok (.ireturn, 1) := by decide +kernel
abbrev S_Tw_most : Type := Nat × Nat × AM
noncomputable def T_Tw_most_0 (v0R : Nat) (σ : AM) : S_Tw_most ⊕ Option (Int32 × AM) :=
  gdT (okO σ v0R 1) <| .inr (some ((aI σ v0R 8), σ))
noncomputable def F_Tw_most : S_Tw_most → S_Tw_most ⊕ Option (Int32 × AM) := fun s => match s.1 with
  | _ => T_Tw_most_0 (s.2.1) (s.2.2)
noncomputable def L_Tw_most_0 (v0R : Nat) (σ : AM) : Option (Int32 × AM) := lp F_Tw_most (0, v0R, σ)
set_option maxRecDepth 20000 in
theorem E_Tw_most_0 (v0R : Nat) (σ : AM) : L_Tw_most_0 v0R σ = (gd (okO σ v0R 1) <| (some ((aI σ v0R 8), σ))) := by
  unfold L_Tw_most_0
  rw [lp_eq]
  show lpK (lp F_Tw_most) (T_Tw_most_0 v0R σ) = _
  unfold T_Tw_most_0
  simp only [lpK_ite, lq_inl, lq_inr, lpK_bnd, lpK_gd, lq_let]
  try rfl
noncomputable def M_Tw_most (v0R : Nat) (σ : AM) : Option (Int32 × AM) := mw σ (L_Tw_most_0 v0R σ)
def I_Tw_most (G : GX) (p : Program) (l : Launch) (e : Env) (s : State) (m : MethodId) (args : Array Value) (below : List Frame) (meth : Method) (c : Code) (z0 u0 n : Nat) : Prop :=
  (∀ (v0R : Nat) (σ : AM), VX (QM eI G args s below z0 u0) G p l e s m args below meth c 0 z0 u0 1 (lpn F_Tw_most n (0, v0R, σ)) 0 [(0, .ref v0R)] [] σ)
set_option maxRecDepth 20000 in
theorem s_Tw_most_0 {G : GX} {p : Program} {l : Launch} {e : Env} {s : State} {m : MethodId} {args : Array Value} {below : List Frame} {meth : Method} {c : Code} {z0 u0 n : Nat} (C : Cx G p s m args meth c prog_12_method_5_code 1 "BellPlate$Tower" ((some FieldType.int))) (IH : I_Tw_most G p l e s m args below meth c z0 u0 n) (v0R : Nat) (σ : AM) : VX (QM eI G args s below z0 u0) G p l e s m args below meth c 0 z0 u0 1 (lpK (lpn F_Tw_most n) (T_Tw_most_0 v0R σ)) 0 [(0, .ref v0R)] [] σ := by
  unfold T_Tw_most_0
  refine x_aload_n C d_Tw_most_0 0 rfl ?_
  refine x_gd (fun h1 => ?_)
  refine x_getI (k := 8) C (okO_iff.mp h1) rfl j0_ok (by decide) rfl w175 d_Tw_most_1 ?_
  exact x_iret C d_Tw_most_4
theorem i_Tw_most {G : GX} {p : Program} {l : Launch} {e : Env} {s : State} {m : MethodId} {args : Array Value} {below : List Frame} {meth : Method} {c : Code} {z0 u0 : Nat} (C : Cx G p s m args meth c prog_12_method_5_code 1 "BellPlate$Tower" ((some FieldType.int))) (n : Nat) : I_Tw_most G p l e s m args below meth c z0 u0 n := by
  induction n with
  | zero => exact fun _ _ => x_none
  | succ n IH => exact fun v0R σ => s_Tw_most_0 C IH v0R σ
theorem c_Tw_most (G : GX) (l : Launch) (v0R : Nat) (σ : AM) : CT eI G l 0 y_Tw_most prog_12_method_5_code 1 ((some FieldType.int)) [.ref v0R] σ (M_Tw_most v0R σ) := by
  refine ct_of (by decide +kernel) (Nat.le_of_ble_eq_true rfl) (fun p e s m args below meth c C hin => ?_)
  refine x_lve (lv' := [(0, .ref v0R)]) rfl ?_
  intro r σ' h
  obtain ⟨n, hn⟩ := (lp_iff _ _ _).mp h
  exact (i_Tw_most C n) v0R σ r σ' hn
/-! BellPlate$Tower.operand(I[II)I -/
abbrev y_Tw_operand : MethodName := ⟨"BellPlate$Tower", "operand", "(I[II)I"⟩
theorem k_Tw_operand : y_Tw_operand.cls ≠ "java/lang/invoke/MethodHandle" ∧ y_Tw_operand.cls ≠ "java/lang/invoke/VarHandle" ∧ (parseMethodDescriptor y_Tw_operand.desc).map (fun d => d.parameters.length) = some 3 := by decide +kernel
theorem d_Tw_operand_0 : decode prog_12_method_30_code 0 = .ok (.iload_n 0, 1) := by decide +kernel
theorem d_Tw_operand_1 : decode prog_12_method_30_code 1 = .ok (.bipush 32, 2) := by decide +kernel
theorem d_Tw_operand_3 : decode prog_12_method_30_code 3 = .ok (.if_icmp .lt 8, 3) := by decide +kernel
theorem d_Tw_operand_6 : decode prog_12_method_30_code 6 = .ok (.iload_n 0, 1) := by decide +kernel
theorem d_Tw_operand_7 : decode prog_12_method_30_code 7 = .ok (.bipush 32, 2) := by decide +kernel
theorem d_Tw_operand_9 : decode prog_12_method_30_code 9 = .ok (.isub, 1) := by decide +kernel
theorem d_Tw_operand_10 : decode prog_12_method_30_code 10 = .ok (.ireturn, 1) := by decide +kernel
theorem d_Tw_operand_11 : decode prog_12_method_30_code 11 = .ok (.iload_n 0, 1) := by decide +kernel
theorem d_Tw_operand_12 : decode prog_12_method_30_code 12 = .ok (.bipush 16, 2) := by decide +kernel
theorem d_Tw_operand_14 : decode prog_12_method_30_code 14 = .ok (.isub, 1) := by decide +kernel
theorem d_Tw_operand_15 : decode prog_12_method_30_code 15 = .ok (.istore_n 3, 1) := by decide +kernel
theorem d_Tw_operand_16 : decode prog_12_method_30_code 16 = .ok (.iload_n 3, 1) := by decide +kernel
theorem d_Tw_operand_17 : decode prog_12_method_30_code 17 = .ok (.ifCond .lt 15, 3) := by decide +kernel
theorem d_Tw_operand_20 : decode prog_12_method_30_code 20 = .ok (.iload_n 3, 1) := by decide +kernel
theorem d_Tw_operand_21 : decode prog_12_method_30_code 21 = .ok (.aload_n 1, 1) := by decide +kernel
theorem d_Tw_operand_22 : decode prog_12_method_30_code 22 = .ok (.arraylength, 1) := by decide +kernel
theorem d_Tw_operand_23 : decode prog_12_method_30_code 23 = .ok (.if_icmp .ge 9, 3) := by decide +kernel
theorem d_Tw_operand_26 : decode prog_12_method_30_code 26 = .ok (.aload_n 1, 1) := by decide +kernel
theorem d_Tw_operand_27 : decode prog_12_method_30_code 27 = .ok (.iload_n 3, 1) := by decide +kernel
theorem d_Tw_operand_28 : decode prog_12_method_30_code 28 = .ok (.iaload, 1) := by decide +kernel
theorem d_Tw_operand_29 : decode prog_12_method_30_code 29 = .ok (.goto 4, 3) := by decide +kernel
theorem d_Tw_operand_32 : decode prog_12_method_30_code 32 = .ok (.iload_n 2, 1) := by decide +kernel
theorem d_Tw_operand_33 : decode prog_12_method_30_code 33 = .ok (.ireturn, 1) := by decide +kernel
abbrev S_Tw_operand : Type := Nat × Int32 × Nat × Int32 × Int32 × AM
noncomputable def T_Tw_operand_0 (v0I : Int32) (v1R : Nat) (v2I : Int32) (σ : AM) : S_Tw_operand ⊕ Option (Int32 × AM) :=
  if v0I < (32 : Int32) then (letT (v0I - (16 : Int32)) fun x1 => if x1 < 0 then (.inl (1, 0, 0, v2I, 0, σ)) else (gdT (okO σ v1R 101) <| if x1 < (nI (aN σ v1R)) then (gdT (inB x1 (aN σ v1R)) <| .inl (2, 0, 0, 0, aI σ v1R x1.toNatClampNeg, σ)) else (.inl (1, 0, 0, v2I, 0, σ)))) else (.inr (some ((v0I - (32 : Int32)), σ)))
noncomputable def T_Tw_operand_1 (v2I : Int32) (σ : AM) : S_Tw_operand ⊕ Option (Int32 × AM) :=
  .inl (2, 0, 0, 0, v2I, σ)
noncomputable def T_Tw_operand_2 (s0I : Int32) (σ : AM) : S_Tw_operand ⊕ Option (Int32 × AM) :=
  .inr (some (s0I, σ))
noncomputable def F_Tw_operand : S_Tw_operand → S_Tw_operand ⊕ Option (Int32 × AM) := fun s => match s.1 with
  | 0 => T_Tw_operand_0 (s.2.1) (s.2.2.1) (s.2.2.2.1) (s.2.2.2.2.2)
  | 1 => T_Tw_operand_1 (s.2.2.2.1) (s.2.2.2.2.2)
  | _ => T_Tw_operand_2 (s.2.2.2.2.1) (s.2.2.2.2.2)
noncomputable def L_Tw_operand_0 (v0I : Int32) (v1R : Nat) (v2I : Int32) (σ : AM) : Option (Int32 × AM) := lp F_Tw_operand (0, v0I, v1R, v2I, 0, σ)
noncomputable def L_Tw_operand_1 (v2I : Int32) (σ : AM) : Option (Int32 × AM) := lp F_Tw_operand (1, 0, 0, v2I, 0, σ)
noncomputable def L_Tw_operand_2 (s0I : Int32) (σ : AM) : Option (Int32 × AM) := lp F_Tw_operand (2, 0, 0, 0, s0I, σ)
set_option maxRecDepth 20000 in
theorem E_Tw_operand_0 (v0I : Int32) (v1R : Nat) (v2I : Int32) (σ : AM) : L_Tw_operand_0 v0I v1R v2I σ = (if v0I < (32 : Int32) then (letT (v0I - (16 : Int32)) fun x1 => if x1 < 0 then (L_Tw_operand_1 v2I σ) else (gd (okO σ v1R 101) <| if x1 < (nI (aN σ v1R)) then (gd (inB x1 (aN σ v1R)) <| L_Tw_operand_2 (aI σ v1R x1.toNatClampNeg) σ) else (L_Tw_operand_1 v2I σ))) else ((some ((v0I - (32 : Int32)), σ)))) := by
  unfold L_Tw_operand_0
  rw [lp_eq]
  show lpK (lp F_Tw_operand) (T_Tw_operand_0 v0I v1R v2I σ) = _
  unfold T_Tw_operand_0
  simp only [lpK_ite, lq_inl, lq_inr, lpK_bnd, lpK_gd, lq_let]
  try rfl
set_option maxRecDepth 20000 in
theorem E_Tw_operand_1 (v2I : Int32) (σ : AM) : L_Tw_operand_1 v2I σ = (L_Tw_operand_2 v2I σ) := by
  unfold L_Tw_operand_1
  rw [lp_eq]
  show lpK (lp F_Tw_operand) (T_Tw_operand_1 v2I σ) = _
  unfold T_Tw_operand_1
  simp only [lpK_ite, lq_inl, lq_inr, lpK_bnd, lpK_gd, lq_let]
  try rfl
set_option maxRecDepth 20000 in
theorem E_Tw_operand_2 (s0I : Int32) (σ : AM) : L_Tw_operand_2 s0I σ = ((some (s0I, σ))) := by
  unfold L_Tw_operand_2
  rw [lp_eq]
  show lpK (lp F_Tw_operand) (T_Tw_operand_2 s0I σ) = _
  unfold T_Tw_operand_2
  simp only [lpK_ite, lq_inl, lq_inr, lpK_bnd, lpK_gd, lq_let]
  try rfl
noncomputable def M_Tw_operand (v0I : Int32) (v1R : Nat) (v2I : Int32) (σ : AM) : Option (Int32 × AM) := mw σ (L_Tw_operand_0 v0I v1R v2I σ)
def I_Tw_operand (G : GX) (p : Program) (l : Launch) (e : Env) (s : State) (m : MethodId) (args : Array Value) (below : List Frame) (meth : Method) (c : Code) (z0 u0 n : Nat) : Prop :=
  (∀ (v0I : Int32) (v1R : Nat) (v2I : Int32) (σ : AM), VX (QM eI G args s below z0 u0) G p l e s m args below meth c 0 z0 u0 4 (lpn F_Tw_operand n (0, v0I, v1R, v2I, 0, σ)) 0 [(0, .int v0I), (1, .ref v1R), (2, .int v2I)] [] σ) ∧
  (∀ (v2I : Int32) (σ : AM), VX (QM eI G args s below z0 u0) G p l e s m args below meth c 0 z0 u0 4 (lpn F_Tw_operand n (1, 0, 0, v2I, 0, σ)) 32 [(2, .int v2I)] [] σ) ∧
  (∀ (s0I : Int32) (σ : AM), VX (QM eI G args s below z0 u0) G p l e s m args below meth c 0 z0 u0 4 (lpn F_Tw_operand n (2, 0, 0, 0, s0I, σ)) 33 [] [.int s0I] σ)
set_option maxRecDepth 20000 in
theorem s_Tw_operand_0 {G : GX} {p : Program} {l : Launch} {e : Env} {s : State} {m : MethodId} {args : Array Value} {below : List Frame} {meth : Method} {c : Code} {z0 u0 n : Nat} (C : Cx G p s m args meth c prog_12_method_30_code 4 "BellPlate$Tower" ((some FieldType.int))) (IH : I_Tw_operand G p l e s m args below meth c z0 u0 n) (v0I : Int32) (v1R : Nat) (v2I : Int32) (σ : AM) : VX (QM eI G args s below z0 u0) G p l e s m args below meth c 0 z0 u0 4 (lpK (lpn F_Tw_operand n) (T_Tw_operand_0 v0I v1R v2I σ)) 0 [(0, .int v0I), (1, .ref v1R), (2, .int v2I)] [] σ := by
  unfold T_Tw_operand_0
  refine x_iload_n C d_Tw_operand_0 0 rfl ?_
  refine x_bipush (v := (32 : Int32)) C d_Tw_operand_1 (by decide) ?_
  refine x_icmp_lt (tgt := 11) C d_Tw_operand_3 (by decide) (fun _ => ?_) (fun _ => ?_)
  · refine x_iload_n C d_Tw_operand_11 0 rfl ?_
    refine x_bipush (v := (16 : Int32)) C d_Tw_operand_12 (by decide) ?_
    refine x_isub C d_Tw_operand_14 ?_
    refine x_letI (fun x1 _ => ?_)
    refine x_istore_n (lv' := [(3, .int x1), (0, .int v0I), (1, .ref v1R), (2, .int v2I)]) C d_Tw_operand_15 (by decide) rfl rfl ?_
    refine x_iload_n C d_Tw_operand_16 0 rfl ?_
    refine x_if_lt (tgt := 32) C d_Tw_operand_17 (by decide) (fun _ => ?_) (fun _ => ?_)
    · refine x_lv [3] rfl ?_
      exact IH.2.1 v2I (σ)
    · refine x_iload_n C d_Tw_operand_20 0 rfl ?_
      refine x_aload_n C d_Tw_operand_21 2 rfl ?_
      refine x_gd (fun h2 => ?_)
      refine x_alen (t := 0) C (okO_iff.mp h2) (by decide) d_Tw_operand_22 ?_
      refine x_icmp_ge (tgt := 32) C d_Tw_operand_23 (by decide) (fun _ => ?_) (fun _ => ?_)
      · refine x_aload_n C d_Tw_operand_26 2 rfl ?_
        refine x_iload_n C d_Tw_operand_27 0 rfl ?_
        refine x_gd (fun h3 => ?_)
        refine x_aldI C (okO_iff.mp h2) (inB_iff.mp h3) d_Tw_operand_28 ?_
        refine x_goto (tgt := 33) C d_Tw_operand_29 (by decide) ?_
        refine x_lv [] rfl ?_
        exact IH.2.2 (aI σ v1R x1.toNatClampNeg) (σ)
      · refine x_lv [3] rfl ?_
        exact IH.2.1 v2I (σ)
  · refine x_iload_n C d_Tw_operand_6 0 rfl ?_
    refine x_bipush (v := (32 : Int32)) C d_Tw_operand_7 (by decide) ?_
    refine x_isub C d_Tw_operand_9 ?_
    exact x_iret C d_Tw_operand_10
set_option maxRecDepth 20000 in
theorem s_Tw_operand_1 {G : GX} {p : Program} {l : Launch} {e : Env} {s : State} {m : MethodId} {args : Array Value} {below : List Frame} {meth : Method} {c : Code} {z0 u0 n : Nat} (C : Cx G p s m args meth c prog_12_method_30_code 4 "BellPlate$Tower" ((some FieldType.int))) (IH : I_Tw_operand G p l e s m args below meth c z0 u0 n) (v2I : Int32) (σ : AM) : VX (QM eI G args s below z0 u0) G p l e s m args below meth c 0 z0 u0 4 (lpK (lpn F_Tw_operand n) (T_Tw_operand_1 v2I σ)) 32 [(2, .int v2I)] [] σ := by
  unfold T_Tw_operand_1
  refine x_iload_n C d_Tw_operand_32 0 rfl ?_
  refine x_lv [] rfl ?_
  exact IH.2.2 v2I (σ)
set_option maxRecDepth 20000 in
theorem s_Tw_operand_2 {G : GX} {p : Program} {l : Launch} {e : Env} {s : State} {m : MethodId} {args : Array Value} {below : List Frame} {meth : Method} {c : Code} {z0 u0 n : Nat} (C : Cx G p s m args meth c prog_12_method_30_code 4 "BellPlate$Tower" ((some FieldType.int))) (IH : I_Tw_operand G p l e s m args below meth c z0 u0 n) (s0I : Int32) (σ : AM) : VX (QM eI G args s below z0 u0) G p l e s m args below meth c 0 z0 u0 4 (lpK (lpn F_Tw_operand n) (T_Tw_operand_2 s0I σ)) 33 [] [.int s0I] σ := by
  unfold T_Tw_operand_2
  exact x_iret C d_Tw_operand_33
theorem i_Tw_operand {G : GX} {p : Program} {l : Launch} {e : Env} {s : State} {m : MethodId} {args : Array Value} {below : List Frame} {meth : Method} {c : Code} {z0 u0 : Nat} (C : Cx G p s m args meth c prog_12_method_30_code 4 "BellPlate$Tower" ((some FieldType.int))) (n : Nat) : I_Tw_operand G p l e s m args below meth c z0 u0 n := by
  induction n with
  | zero => exact ⟨fun _ _ _ _ => x_none, fun _ _ => x_none, fun _ _ => x_none⟩
  | succ n IH => exact ⟨fun v0I v1R v2I σ => s_Tw_operand_0 C IH v0I v1R v2I σ, fun v2I σ => s_Tw_operand_1 C IH v2I σ, fun s0I σ => s_Tw_operand_2 C IH s0I σ⟩
theorem c_Tw_operand (G : GX) (l : Launch) (v0I : Int32) (v1R : Nat) (v2I : Int32) (σ : AM) : CT eI G l 0 y_Tw_operand prog_12_method_30_code 4 ((some FieldType.int)) [.int v0I, .ref v1R, .int v2I] σ (M_Tw_operand v0I v1R v2I σ) := by
  refine ct_of (by decide +kernel) (Nat.le_of_ble_eq_true rfl) (fun p e s m args below meth c C hin => ?_)
  refine x_lve (lv' := [(0, .int v0I), (1, .ref v1R), (2, .int v2I)]) rfl ?_
  intro r σ' h
  obtain ⟨n, hn⟩ := (lp_iff _ _ _).mp h
  exact (i_Tw_operand C n).1 v0I v1R v2I σ r σ' hn
/-! BellPlate$Tower.truth(Z)I -/
abbrev y_Tw_truth : MethodName := ⟨"BellPlate$Tower", "truth", "(Z)I"⟩
theorem k_Tw_truth : y_Tw_truth.cls ≠ "java/lang/invoke/MethodHandle" ∧ y_Tw_truth.cls ≠ "java/lang/invoke/VarHandle" ∧ (parseMethodDescriptor y_Tw_truth.desc).map (fun d => d.parameters.length) = some 1 := by decide +kernel
theorem d_Tw_truth_0 : decode prog_12_method_32_code 0 = .ok (.iload_n 0, 1) := by decide +kernel
theorem d_Tw_truth_1 : decode prog_12_method_32_code 1 = .ok (.ifCond .eq 7, 3) := by decide +kernel
theorem d_Tw_truth_4 : decode prog_12_method_32_code 4 = .ok (.iconst 1, 1) := by decide +kernel
theorem d_Tw_truth_5 : decode prog_12_method_32_code 5 = .ok (.goto 4, 3) := by decide +kernel
theorem d_Tw_truth_8 : decode prog_12_method_32_code 8 = .ok (.iconst 0, 1) := by decide +kernel
theorem d_Tw_truth_9 : decode prog_12_method_32_code 9 = .ok (.ireturn, 1) := by decide +kernel
abbrev S_Tw_truth : Type := Nat × Int32 × Int32 × AM
noncomputable def T_Tw_truth_0 (v0I : Int32) (σ : AM) : S_Tw_truth ⊕ Option (Int32 × AM) :=
  if v0I = 0 then (.inl (1, 0, (0 : Int32), σ)) else (.inl (1, 0, (1 : Int32), σ))
noncomputable def T_Tw_truth_1 (s0I : Int32) (σ : AM) : S_Tw_truth ⊕ Option (Int32 × AM) :=
  .inr (some (s0I, σ))
noncomputable def F_Tw_truth : S_Tw_truth → S_Tw_truth ⊕ Option (Int32 × AM) := fun s => match s.1 with
  | 0 => T_Tw_truth_0 (s.2.1) (s.2.2.2)
  | _ => T_Tw_truth_1 (s.2.2.1) (s.2.2.2)
noncomputable def L_Tw_truth_0 (v0I : Int32) (σ : AM) : Option (Int32 × AM) := lp F_Tw_truth (0, v0I, 0, σ)
noncomputable def L_Tw_truth_1 (s0I : Int32) (σ : AM) : Option (Int32 × AM) := lp F_Tw_truth (1, 0, s0I, σ)
set_option maxRecDepth 20000 in
theorem E_Tw_truth_0 (v0I : Int32) (σ : AM) : L_Tw_truth_0 v0I σ = (if v0I = 0 then (L_Tw_truth_1 ((0 : Int32)) σ) else (L_Tw_truth_1 ((1 : Int32)) σ)) := by
  unfold L_Tw_truth_0
  rw [lp_eq]
  show lpK (lp F_Tw_truth) (T_Tw_truth_0 v0I σ) = _
  unfold T_Tw_truth_0
  simp only [lpK_ite, lq_inl, lq_inr, lpK_bnd, lpK_gd, lq_let]
  try rfl
set_option maxRecDepth 20000 in
theorem E_Tw_truth_1 (s0I : Int32) (σ : AM) : L_Tw_truth_1 s0I σ = ((some (s0I, σ))) := by
  unfold L_Tw_truth_1
  rw [lp_eq]
  show lpK (lp F_Tw_truth) (T_Tw_truth_1 s0I σ) = _
  unfold T_Tw_truth_1
  simp only [lpK_ite, lq_inl, lq_inr, lpK_bnd, lpK_gd, lq_let]
  try rfl
noncomputable def M_Tw_truth (v0I : Int32) (σ : AM) : Option (Int32 × AM) := mw σ (L_Tw_truth_0 v0I σ)
def I_Tw_truth (G : GX) (p : Program) (l : Launch) (e : Env) (s : State) (m : MethodId) (args : Array Value) (below : List Frame) (meth : Method) (c : Code) (z0 u0 n : Nat) : Prop :=
  (∀ (v0I : Int32) (σ : AM), VX (QM eI G args s below z0 u0) G p l e s m args below meth c 0 z0 u0 1 (lpn F_Tw_truth n (0, v0I, 0, σ)) 0 [(0, .int v0I)] [] σ) ∧
  (∀ (s0I : Int32) (σ : AM), VX (QM eI G args s below z0 u0) G p l e s m args below meth c 0 z0 u0 1 (lpn F_Tw_truth n (1, 0, s0I, σ)) 9 [] [.int s0I] σ)
set_option maxRecDepth 20000 in
theorem s_Tw_truth_0 {G : GX} {p : Program} {l : Launch} {e : Env} {s : State} {m : MethodId} {args : Array Value} {below : List Frame} {meth : Method} {c : Code} {z0 u0 n : Nat} (C : Cx G p s m args meth c prog_12_method_32_code 1 "BellPlate$Tower" ((some FieldType.int))) (IH : I_Tw_truth G p l e s m args below meth c z0 u0 n) (v0I : Int32) (σ : AM) : VX (QM eI G args s below z0 u0) G p l e s m args below meth c 0 z0 u0 1 (lpK (lpn F_Tw_truth n) (T_Tw_truth_0 v0I σ)) 0 [(0, .int v0I)] [] σ := by
  unfold T_Tw_truth_0
  refine x_iload_n C d_Tw_truth_0 0 rfl ?_
  refine x_if_eq (tgt := 8) C d_Tw_truth_1 (by decide) (fun _ => ?_) (fun _ => ?_)
  · refine x_iconst (v := (0 : Int32)) C d_Tw_truth_8 (by decide) ?_
    refine x_lv [] rfl ?_
    exact IH.2 ((0 : Int32)) (σ)
  · refine x_iconst (v := (1 : Int32)) C d_Tw_truth_4 (by decide) ?_
    refine x_goto (tgt := 9) C d_Tw_truth_5 (by decide) ?_
    refine x_lv [] rfl ?_
    exact IH.2 ((1 : Int32)) (σ)
set_option maxRecDepth 20000 in
theorem s_Tw_truth_1 {G : GX} {p : Program} {l : Launch} {e : Env} {s : State} {m : MethodId} {args : Array Value} {below : List Frame} {meth : Method} {c : Code} {z0 u0 n : Nat} (C : Cx G p s m args meth c prog_12_method_32_code 1 "BellPlate$Tower" ((some FieldType.int))) (IH : I_Tw_truth G p l e s m args below meth c z0 u0 n) (s0I : Int32) (σ : AM) : VX (QM eI G args s below z0 u0) G p l e s m args below meth c 0 z0 u0 1 (lpK (lpn F_Tw_truth n) (T_Tw_truth_1 s0I σ)) 9 [] [.int s0I] σ := by
  unfold T_Tw_truth_1
  exact x_iret C d_Tw_truth_9
theorem i_Tw_truth {G : GX} {p : Program} {l : Launch} {e : Env} {s : State} {m : MethodId} {args : Array Value} {below : List Frame} {meth : Method} {c : Code} {z0 u0 : Nat} (C : Cx G p s m args meth c prog_12_method_32_code 1 "BellPlate$Tower" ((some FieldType.int))) (n : Nat) : I_Tw_truth G p l e s m args below meth c z0 u0 n := by
  induction n with
  | zero => exact ⟨fun _ _ => x_none, fun _ _ => x_none⟩
  | succ n IH => exact ⟨fun v0I σ => s_Tw_truth_0 C IH v0I σ, fun s0I σ => s_Tw_truth_1 C IH s0I σ⟩
theorem c_Tw_truth (G : GX) (l : Launch) (v0I : Int32) (σ : AM) : CT eI G l 0 y_Tw_truth prog_12_method_32_code 1 ((some FieldType.int)) [.int v0I] σ (M_Tw_truth v0I σ) := by
  refine ct_of (by decide +kernel) (Nat.le_of_ble_eq_true rfl) (fun p e s m args below meth c C hin => ?_)
  refine x_lve (lv' := [(0, .int v0I)]) rfl ?_
  intro r σ' h
  obtain ⟨n, hn⟩ := (lp_iff _ _ _).mp h
  exact (i_Tw_truth C n).1 v0I σ r σ' hn
/-! BellPlate$Tower.joined(III)I -/
abbrev y_Tw_joined : MethodName := ⟨"BellPlate$Tower", "joined", "(III)I"⟩
theorem k_Tw_joined : y_Tw_joined.cls ≠ "java/lang/invoke/MethodHandle" ∧ y_Tw_joined.cls ≠ "java/lang/invoke/VarHandle" ∧ (parseMethodDescriptor y_Tw_joined.desc).map (fun d => d.parameters.length) = some 3 := by decide +kernel
theorem d_Tw_joined_0 : decode prog_12_method_31_code 0 = .ok (.iload_n 0, 1) := by decide +kernel
theorem d_Tw_joined_1 : decode prog_12_method_31_code 1 = .ok (.tableswitch 109 1 6 #[39, 56, 73, 87, 101, 105], 39) := by decide +kernel
theorem d_Tw_joined_40 : decode prog_12_method_31_code 40 = .ok (.iload_n 1, 1) := by decide +kernel
theorem d_Tw_joined_41 : decode prog_12_method_31_code 41 = .ok (.ifCond .eq 11, 3) := by decide +kernel
theorem d_Tw_joined_44 : decode prog_12_method_31_code 44 = .ok (.iload_n 2, 1) := by decide +kernel
theorem d_Tw_joined_45 : decode prog_12_method_31_code 45 = .ok (.ifCond .eq 7, 3) := by decide +kernel
theorem d_Tw_joined_48 : decode prog_12_method_31_code 48 = .ok (.iconst 1, 1) := by decide +kernel
theorem d_Tw_joined_49 : decode prog_12_method_31_code 49 = .ok (.goto 4, 3) := by decide +kernel
theorem d_Tw_joined_52 : decode prog_12_method_31_code 52 = .ok (.iconst 0, 1) := by decide +kernel
theorem d_Tw_joined_53 : decode prog_12_method_31_code 53 = .ok (.invokestatic 90, 3) := by decide +kernel
theorem d_Tw_joined_56 : decode prog_12_method_31_code 56 = .ok (.ireturn, 1) := by decide +kernel
theorem d_Tw_joined_57 : decode prog_12_method_31_code 57 = .ok (.iload_n 1, 1) := by decide +kernel
theorem d_Tw_joined_58 : decode prog_12_method_31_code 58 = .ok (.ifCond .ne 7, 3) := by decide +kernel
theorem d_Tw_joined_61 : decode prog_12_method_31_code 61 = .ok (.iload_n 2, 1) := by decide +kernel
theorem d_Tw_joined_62 : decode prog_12_method_31_code 62 = .ok (.ifCond .eq 7, 3) := by decide +kernel
theorem d_Tw_joined_65 : decode prog_12_method_31_code 65 = .ok (.iconst 1, 1) := by decide +kernel
theorem d_Tw_joined_66 : decode prog_12_method_31_code 66 = .ok (.goto 4, 3) := by decide +kernel
theorem d_Tw_joined_69 : decode prog_12_method_31_code 69 = .ok (.iconst 0, 1) := by decide +kernel
theorem d_Tw_joined_70 : decode prog_12_method_31_code 70 = .ok (.invokestatic 90, 3) := by decide +kernel
theorem d_Tw_joined_73 : decode prog_12_method_31_code 73 = .ok (.ireturn, 1) := by decide +kernel
theorem d_Tw_joined_74 : decode prog_12_method_31_code 74 = .ok (.iload_n 1, 1) := by decide +kernel
theorem d_Tw_joined_75 : decode prog_12_method_31_code 75 = .ok (.iload_n 2, 1) := by decide +kernel
theorem d_Tw_joined_76 : decode prog_12_method_31_code 76 = .ok (.if_icmp .ge 7, 3) := by decide +kernel
theorem d_Tw_joined_79 : decode prog_12_method_31_code 79 = .ok (.iconst 1, 1) := by decide +kernel
theorem d_Tw_joined_80 : decode prog_12_method_31_code 80 = .ok (.goto 4, 3) := by decide +kernel
theorem d_Tw_joined_83 : decode prog_12_method_31_code 83 = .ok (.iconst 0, 1) := by decide +kernel
theorem d_Tw_joined_84 : decode prog_12_method_31_code 84 = .ok (.invokestatic 90, 3) := by decide +kernel
theorem d_Tw_joined_87 : decode prog_12_method_31_code 87 = .ok (.ireturn, 1) := by decide +kernel
theorem d_Tw_joined_88 : decode prog_12_method_31_code 88 = .ok (.iload_n 1, 1) := by decide +kernel
theorem d_Tw_joined_89 : decode prog_12_method_31_code 89 = .ok (.iload_n 2, 1) := by decide +kernel
theorem d_Tw_joined_90 : decode prog_12_method_31_code 90 = .ok (.if_icmp .ne 7, 3) := by decide +kernel
theorem d_Tw_joined_93 : decode prog_12_method_31_code 93 = .ok (.iconst 1, 1) := by decide +kernel
theorem d_Tw_joined_94 : decode prog_12_method_31_code 94 = .ok (.goto 4, 3) := by decide +kernel
theorem d_Tw_joined_97 : decode prog_12_method_31_code 97 = .ok (.iconst 0, 1) := by decide +kernel
theorem d_Tw_joined_98 : decode prog_12_method_31_code 98 = .ok (.invokestatic 90, 3) := by decide +kernel
theorem d_Tw_joined_101 : decode prog_12_method_31_code 101 = .ok (.ireturn, 1) := by decide +kernel
theorem d_Tw_joined_102 : decode prog_12_method_31_code 102 = .ok (.iload_n 1, 1) := by decide +kernel
theorem d_Tw_joined_103 : decode prog_12_method_31_code 103 = .ok (.iload_n 2, 1) := by decide +kernel
theorem d_Tw_joined_104 : decode prog_12_method_31_code 104 = .ok (.iadd, 1) := by decide +kernel
theorem d_Tw_joined_105 : decode prog_12_method_31_code 105 = .ok (.ireturn, 1) := by decide +kernel
theorem d_Tw_joined_106 : decode prog_12_method_31_code 106 = .ok (.iload_n 1, 1) := by decide +kernel
theorem d_Tw_joined_107 : decode prog_12_method_31_code 107 = .ok (.iload_n 2, 1) := by decide +kernel
theorem d_Tw_joined_108 : decode prog_12_method_31_code 108 = .ok (.isub, 1) := by decide +kernel
theorem d_Tw_joined_109 : decode prog_12_method_31_code 109 = .ok (.ireturn, 1) := by decide +kernel
theorem d_Tw_joined_110 : decode prog_12_method_31_code 110 = .ok (.iload_n 1, 1) := by decide +kernel
theorem d_Tw_joined_111 : decode prog_12_method_31_code 111 = .ok (.iload_n 2, 1) := by decide +kernel
theorem d_Tw_joined_112 : decode prog_12_method_31_code 112 = .ok (.imul, 1) := by decide +kernel
theorem d_Tw_joined_113 : decode prog_12_method_31_code 113 = .ok (.ireturn, 1) := by decide +kernel
abbrev S_Tw_joined : Type := Nat × Int32 × Int32 × Int32 × Int32 × AM
noncomputable def T_Tw_joined_0 (v0I : Int32) (v1I : Int32) (v2I : Int32) (σ : AM) : S_Tw_joined ⊕ Option (Int32 × AM) :=
  if v0I = (1 : Int32) then (if v1I = 0 then (.inl (1, 0, 0, 0, 0, σ)) else (if v2I = 0 then (.inl (1, 0, 0, 0, 0, σ)) else (.inl (2, 0, 0, 0, (1 : Int32), σ)))) else (if v0I = (2 : Int32) then (if v1I = 0 then (if v2I = 0 then (.inl (4, 0, 0, 0, (0 : Int32), σ)) else (.inl (3, 0, 0, 0, 0, σ))) else (.inl (3, 0, 0, 0, 0, σ))) else (if v0I = (3 : Int32) then (if v1I < v2I then (.inl (5, 0, 0, 0, (1 : Int32), σ)) else (.inl (5, 0, 0, 0, (0 : Int32), σ))) else (if v0I = (4 : Int32) then (if v1I = v2I then (.inl (6, 0, 0, 0, (1 : Int32), σ)) else (.inl (6, 0, 0, 0, (0 : Int32), σ))) else (if v0I = (5 : Int32) then (.inr (some ((v1I + v2I), σ))) else (if v0I = (6 : Int32) then (.inr (some ((v1I - v2I), σ))) else (.inr (some ((v1I * v2I), σ))))))))
noncomputable def T_Tw_joined_1  (σ : AM) : S_Tw_joined ⊕ Option (Int32 × AM) :=
  .inl (2, 0, 0, 0, (0 : Int32), σ)
noncomputable def T_Tw_joined_2 (s0I : Int32) (σ : AM) : S_Tw_joined ⊕ Option (Int32 × AM) :=
  bndT (M_Tw_truth s0I σ) fun r1 σ2 => .inr (some (r1, σ2))
noncomputable def T_Tw_joined_3  (σ : AM) : S_Tw_joined ⊕ Option (Int32 × AM) :=
  .inl (4, 0, 0, 0, (1 : Int32), σ)
noncomputable def T_Tw_joined_4 (s0I : Int32) (σ : AM) : S_Tw_joined ⊕ Option (Int32 × AM) :=
  bndT (M_Tw_truth s0I σ) fun r1 σ2 => .inr (some (r1, σ2))
noncomputable def T_Tw_joined_5 (s0I : Int32) (σ : AM) : S_Tw_joined ⊕ Option (Int32 × AM) :=
  bndT (M_Tw_truth s0I σ) fun r1 σ2 => .inr (some (r1, σ2))
noncomputable def T_Tw_joined_6 (s0I : Int32) (σ : AM) : S_Tw_joined ⊕ Option (Int32 × AM) :=
  bndT (M_Tw_truth s0I σ) fun r1 σ2 => .inr (some (r1, σ2))
noncomputable def F_Tw_joined : S_Tw_joined → S_Tw_joined ⊕ Option (Int32 × AM) := fun s => match s.1 with
  | 0 => T_Tw_joined_0 (s.2.1) (s.2.2.1) (s.2.2.2.1) (s.2.2.2.2.2)
  | 1 => T_Tw_joined_1  (s.2.2.2.2.2)
  | 2 => T_Tw_joined_2 (s.2.2.2.2.1) (s.2.2.2.2.2)
  | 3 => T_Tw_joined_3  (s.2.2.2.2.2)
  | 4 => T_Tw_joined_4 (s.2.2.2.2.1) (s.2.2.2.2.2)
  | 5 => T_Tw_joined_5 (s.2.2.2.2.1) (s.2.2.2.2.2)
  | _ => T_Tw_joined_6 (s.2.2.2.2.1) (s.2.2.2.2.2)
noncomputable def L_Tw_joined_0 (v0I : Int32) (v1I : Int32) (v2I : Int32) (σ : AM) : Option (Int32 × AM) := lp F_Tw_joined (0, v0I, v1I, v2I, 0, σ)
noncomputable def L_Tw_joined_1  (σ : AM) : Option (Int32 × AM) := lp F_Tw_joined (1, 0, 0, 0, 0, σ)
noncomputable def L_Tw_joined_2 (s0I : Int32) (σ : AM) : Option (Int32 × AM) := lp F_Tw_joined (2, 0, 0, 0, s0I, σ)
noncomputable def L_Tw_joined_3  (σ : AM) : Option (Int32 × AM) := lp F_Tw_joined (3, 0, 0, 0, 0, σ)
noncomputable def L_Tw_joined_4 (s0I : Int32) (σ : AM) : Option (Int32 × AM) := lp F_Tw_joined (4, 0, 0, 0, s0I, σ)
noncomputable def L_Tw_joined_5 (s0I : Int32) (σ : AM) : Option (Int32 × AM) := lp F_Tw_joined (5, 0, 0, 0, s0I, σ)
noncomputable def L_Tw_joined_6 (s0I : Int32) (σ : AM) : Option (Int32 × AM) := lp F_Tw_joined (6, 0, 0, 0, s0I, σ)
set_option maxRecDepth 20000 in
theorem E_Tw_joined_0 (v0I : Int32) (v1I : Int32) (v2I : Int32) (σ : AM) : L_Tw_joined_0 v0I v1I v2I σ = (if v0I = (1 : Int32) then (if v1I = 0 then (L_Tw_joined_1 σ) else (if v2I = 0 then (L_Tw_joined_1 σ) else (L_Tw_joined_2 ((1 : Int32)) σ))) else (if v0I = (2 : Int32) then (if v1I = 0 then (if v2I = 0 then (L_Tw_joined_4 ((0 : Int32)) σ) else (L_Tw_joined_3 σ)) else (L_Tw_joined_3 σ)) else (if v0I = (3 : Int32) then (if v1I < v2I then (L_Tw_joined_5 ((1 : Int32)) σ) else (L_Tw_joined_5 ((0 : Int32)) σ)) else (if v0I = (4 : Int32) then (if v1I = v2I then (L_Tw_joined_6 ((1 : Int32)) σ) else (L_Tw_joined_6 ((0 : Int32)) σ)) else (if v0I = (5 : Int32) then ((some ((v1I + v2I), σ))) else (if v0I = (6 : Int32) then ((some ((v1I - v2I), σ))) else ((some ((v1I * v2I), σ))))))))) := by
  unfold L_Tw_joined_0
  rw [lp_eq]
  show lpK (lp F_Tw_joined) (T_Tw_joined_0 v0I v1I v2I σ) = _
  unfold T_Tw_joined_0
  simp only [lpK_ite, lq_inl, lq_inr, lpK_bnd, lpK_gd, lq_let]
  try rfl
set_option maxRecDepth 20000 in
theorem E_Tw_joined_1  (σ : AM) : L_Tw_joined_1  σ = (L_Tw_joined_2 ((0 : Int32)) σ) := by
  unfold L_Tw_joined_1
  rw [lp_eq]
  show lpK (lp F_Tw_joined) (T_Tw_joined_1  σ) = _
  unfold T_Tw_joined_1
  simp only [lpK_ite, lq_inl, lq_inr, lpK_bnd, lpK_gd, lq_let]
  try rfl
set_option maxRecDepth 20000 in
theorem E_Tw_joined_2 (s0I : Int32) (σ : AM) : L_Tw_joined_2 s0I σ = (bnd (M_Tw_truth s0I σ) fun r1 σ2 => (some (r1, σ2))) := by
  unfold L_Tw_joined_2
  rw [lp_eq]
  show lpK (lp F_Tw_joined) (T_Tw_joined_2 s0I σ) = _
  unfold T_Tw_joined_2
  simp only [lpK_ite, lq_inl, lq_inr, lpK_bnd, lpK_gd, lq_let]
  try rfl
set_option maxRecDepth 20000 in
theorem E_Tw_joined_3  (σ : AM) : L_Tw_joined_3  σ = (L_Tw_joined_4 ((1 : Int32)) σ) := by
  unfold L_Tw_joined_3
  rw [lp_eq]
  show lpK (lp F_Tw_joined) (T_Tw_joined_3  σ) = _
  unfold T_Tw_joined_3
  simp only [lpK_ite, lq_inl, lq_inr, lpK_bnd, lpK_gd, lq_let]
  try rfl
set_option maxRecDepth 20000 in
theorem E_Tw_joined_4 (s0I : Int32) (σ : AM) : L_Tw_joined_4 s0I σ = (bnd (M_Tw_truth s0I σ) fun r1 σ2 => (some (r1, σ2))) := by
  unfold L_Tw_joined_4
  rw [lp_eq]
  show lpK (lp F_Tw_joined) (T_Tw_joined_4 s0I σ) = _
  unfold T_Tw_joined_4
  simp only [lpK_ite, lq_inl, lq_inr, lpK_bnd, lpK_gd, lq_let]
  try rfl
set_option maxRecDepth 20000 in
theorem E_Tw_joined_5 (s0I : Int32) (σ : AM) : L_Tw_joined_5 s0I σ = (bnd (M_Tw_truth s0I σ) fun r1 σ2 => (some (r1, σ2))) := by
  unfold L_Tw_joined_5
  rw [lp_eq]
  show lpK (lp F_Tw_joined) (T_Tw_joined_5 s0I σ) = _
  unfold T_Tw_joined_5
  simp only [lpK_ite, lq_inl, lq_inr, lpK_bnd, lpK_gd, lq_let]
  try rfl
set_option maxRecDepth 20000 in
theorem E_Tw_joined_6 (s0I : Int32) (σ : AM) : L_Tw_joined_6 s0I σ = (bnd (M_Tw_truth s0I σ) fun r1 σ2 => (some (r1, σ2))) := by
  unfold L_Tw_joined_6
  rw [lp_eq]
  show lpK (lp F_Tw_joined) (T_Tw_joined_6 s0I σ) = _
  unfold T_Tw_joined_6
  simp only [lpK_ite, lq_inl, lq_inr, lpK_bnd, lpK_gd, lq_let]
  try rfl
noncomputable def M_Tw_joined (v0I : Int32) (v1I : Int32) (v2I : Int32) (σ : AM) : Option (Int32 × AM) := mw σ (L_Tw_joined_0 v0I v1I v2I σ)
def I_Tw_joined (G : GX) (p : Program) (l : Launch) (e : Env) (s : State) (m : MethodId) (args : Array Value) (below : List Frame) (meth : Method) (c : Code) (z0 u0 n : Nat) : Prop :=
  (∀ (v0I : Int32) (v1I : Int32) (v2I : Int32) (σ : AM), VX (QM eI G args s below z0 u0) G p l e s m args below meth c 1 z0 u0 3 (lpn F_Tw_joined n (0, v0I, v1I, v2I, 0, σ)) 0 [(0, .int v0I), (1, .int v1I), (2, .int v2I)] [] σ) ∧
  (∀ (σ : AM), VX (QM eI G args s below z0 u0) G p l e s m args below meth c 1 z0 u0 3 (lpn F_Tw_joined n (1, 0, 0, 0, 0, σ)) 52 [] [] σ) ∧
  (∀ (s0I : Int32) (σ : AM), VX (QM eI G args s below z0 u0) G p l e s m args below meth c 1 z0 u0 3 (lpn F_Tw_joined n (2, 0, 0, 0, s0I, σ)) 53 [] [.int s0I] σ) ∧
  (∀ (σ : AM), VX (QM eI G args s below z0 u0) G p l e s m args below meth c 1 z0 u0 3 (lpn F_Tw_joined n (3, 0, 0, 0, 0, σ)) 65 [] [] σ) ∧
  (∀ (s0I : Int32) (σ : AM), VX (QM eI G args s below z0 u0) G p l e s m args below meth c 1 z0 u0 3 (lpn F_Tw_joined n (4, 0, 0, 0, s0I, σ)) 70 [] [.int s0I] σ) ∧
  (∀ (s0I : Int32) (σ : AM), VX (QM eI G args s below z0 u0) G p l e s m args below meth c 1 z0 u0 3 (lpn F_Tw_joined n (5, 0, 0, 0, s0I, σ)) 84 [] [.int s0I] σ) ∧
  (∀ (s0I : Int32) (σ : AM), VX (QM eI G args s below z0 u0) G p l e s m args below meth c 1 z0 u0 3 (lpn F_Tw_joined n (6, 0, 0, 0, s0I, σ)) 98 [] [.int s0I] σ)
set_option maxRecDepth 20000 in
theorem s_Tw_joined_0 {G : GX} {p : Program} {l : Launch} {e : Env} {s : State} {m : MethodId} {args : Array Value} {below : List Frame} {meth : Method} {c : Code} {z0 u0 n : Nat} (C : Cx G p s m args meth c prog_12_method_31_code 3 "BellPlate$Tower" ((some FieldType.int))) (IH : I_Tw_joined G p l e s m args below meth c z0 u0 n) (v0I : Int32) (v1I : Int32) (v2I : Int32) (σ : AM) : VX (QM eI G args s below z0 u0) G p l e s m args below meth c 1 z0 u0 3 (lpK (lpn F_Tw_joined n) (T_Tw_joined_0 v0I v1I v2I σ)) 0 [(0, .int v0I), (1, .int v1I), (2, .int v2I)] [] σ := by
  unfold T_Tw_joined_0
  refine x_iload_n C d_Tw_joined_0 0 rfl ?_
  refine x_split (fun h1 => ?_) (fun h1 => ?_)
  · refine x_tabI (tgt := 40) C h1 d_Tw_joined_1 (by decide) (by decide) rfl (by decide) ?_
    refine x_iload_n C d_Tw_joined_40 1 rfl ?_
    refine x_if_eq (tgt := 52) C d_Tw_joined_41 (by decide) (fun _ => ?_) (fun _ => ?_)
    · refine x_lv [] rfl ?_
      exact IH.2.1  (σ)
    · refine x_iload_n C d_Tw_joined_44 2 rfl ?_
      refine x_if_eq (tgt := 52) C d_Tw_joined_45 (by decide) (fun _ => ?_) (fun _ => ?_)
      · refine x_lv [] rfl ?_
        exact IH.2.1  (σ)
      · refine x_iconst (v := (1 : Int32)) C d_Tw_joined_48 (by decide) ?_
        refine x_goto (tgt := 53) C d_Tw_joined_49 (by decide) ?_
        refine x_lv [] rfl ?_
        exact IH.2.2.1 ((1 : Int32)) (σ)
  · refine x_split (fun h2 => ?_) (fun h2 => ?_)
    · refine x_tabI (tgt := 57) C h2 d_Tw_joined_1 (by decide) (by decide) rfl (by decide) ?_
      refine x_iload_n C d_Tw_joined_57 1 rfl ?_
      refine x_if_ne (tgt := 65) C d_Tw_joined_58 (by decide) (fun _ => ?_) (fun _ => ?_)
      · refine x_iload_n C d_Tw_joined_61 2 rfl ?_
        refine x_if_eq (tgt := 69) C d_Tw_joined_62 (by decide) (fun _ => ?_) (fun _ => ?_)
        · refine x_iconst (v := (0 : Int32)) C d_Tw_joined_69 (by decide) ?_
          refine x_lv [] rfl ?_
          exact IH.2.2.2.2.1 ((0 : Int32)) (σ)
        · refine x_lv [] rfl ?_
          exact IH.2.2.2.1  (σ)
      · refine x_lv [] rfl ?_
        exact IH.2.2.2.1  (σ)
    · refine x_split (fun h3 => ?_) (fun h3 => ?_)
      · refine x_tabI (tgt := 74) C h3 d_Tw_joined_1 (by decide) (by decide) rfl (by decide) ?_
        refine x_iload_n C d_Tw_joined_74 1 rfl ?_
        refine x_iload_n C d_Tw_joined_75 2 rfl ?_
        refine x_icmp_ge (tgt := 83) C d_Tw_joined_76 (by decide) (fun _ => ?_) (fun _ => ?_)
        · refine x_iconst (v := (1 : Int32)) C d_Tw_joined_79 (by decide) ?_
          refine x_goto (tgt := 84) C d_Tw_joined_80 (by decide) ?_
          refine x_lv [] rfl ?_
          exact IH.2.2.2.2.2.1 ((1 : Int32)) (σ)
        · refine x_iconst (v := (0 : Int32)) C d_Tw_joined_83 (by decide) ?_
          refine x_lv [] rfl ?_
          exact IH.2.2.2.2.2.1 ((0 : Int32)) (σ)
      · refine x_split (fun h4 => ?_) (fun h4 => ?_)
        · refine x_tabI (tgt := 88) C h4 d_Tw_joined_1 (by decide) (by decide) rfl (by decide) ?_
          refine x_iload_n C d_Tw_joined_88 1 rfl ?_
          refine x_iload_n C d_Tw_joined_89 2 rfl ?_
          refine x_icmp_ne (tgt := 97) C d_Tw_joined_90 (by decide) (fun _ => ?_) (fun _ => ?_)
          · refine x_iconst (v := (1 : Int32)) C d_Tw_joined_93 (by decide) ?_
            refine x_goto (tgt := 98) C d_Tw_joined_94 (by decide) ?_
            refine x_lv [] rfl ?_
            exact IH.2.2.2.2.2.2 ((1 : Int32)) (σ)
          · refine x_iconst (v := (0 : Int32)) C d_Tw_joined_97 (by decide) ?_
            refine x_lv [] rfl ?_
            exact IH.2.2.2.2.2.2 ((0 : Int32)) (σ)
        · refine x_split (fun h5 => ?_) (fun h5 => ?_)
          · refine x_tabI (tgt := 102) C h5 d_Tw_joined_1 (by decide) (by decide) rfl (by decide) ?_
            refine x_iload_n C d_Tw_joined_102 1 rfl ?_
            refine x_iload_n C d_Tw_joined_103 2 rfl ?_
            refine x_iadd C d_Tw_joined_104 ?_
            exact x_iret C d_Tw_joined_105
          · refine x_split (fun h6 => ?_) (fun h6 => ?_)
            · refine x_tabI (tgt := 106) C h6 d_Tw_joined_1 (by decide) (by decide) rfl (by decide) ?_
              refine x_iload_n C d_Tw_joined_106 1 rfl ?_
              refine x_iload_n C d_Tw_joined_107 2 rfl ?_
              refine x_isub C d_Tw_joined_108 ?_
              exact x_iret C d_Tw_joined_109
            · refine x_tabO (tgt := 110) C d_Tw_joined_1 (by have e0 := lv_neT h1 (a := 1) (by decide); have e1 := lv_neT h2 (a := 2) (by decide); have e2 := lv_neT h3 (a := 3) (by decide); have e3 := lv_neT h4 (a := 4) (by decide); have e4 := lv_neT h5 (a := 5) (by decide); have e5 := lv_neT h6 (a := 6) (by decide); omega) (by decide) ?_
              refine x_iload_n C d_Tw_joined_110 1 rfl ?_
              refine x_iload_n C d_Tw_joined_111 2 rfl ?_
              refine x_imul C d_Tw_joined_112 ?_
              exact x_iret C d_Tw_joined_113
set_option maxRecDepth 20000 in
theorem s_Tw_joined_1 {G : GX} {p : Program} {l : Launch} {e : Env} {s : State} {m : MethodId} {args : Array Value} {below : List Frame} {meth : Method} {c : Code} {z0 u0 n : Nat} (C : Cx G p s m args meth c prog_12_method_31_code 3 "BellPlate$Tower" ((some FieldType.int))) (IH : I_Tw_joined G p l e s m args below meth c z0 u0 n)  (σ : AM) : VX (QM eI G args s below z0 u0) G p l e s m args below meth c 1 z0 u0 3 (lpK (lpn F_Tw_joined n) (T_Tw_joined_1  σ)) 52 [] [] σ := by
  unfold T_Tw_joined_1
  refine x_iconst (v := (0 : Int32)) C d_Tw_joined_52 (by decide) ?_
  exact IH.2.2.1 ((0 : Int32)) (σ)
set_option maxRecDepth 20000 in
theorem s_Tw_joined_2 {G : GX} {p : Program} {l : Launch} {e : Env} {s : State} {m : MethodId} {args : Array Value} {below : List Frame} {meth : Method} {c : Code} {z0 u0 n : Nat} (C : Cx G p s m args meth c prog_12_method_31_code 3 "BellPlate$Tower" ((some FieldType.int))) (IH : I_Tw_joined G p l e s m args below meth c z0 u0 n) (s0I : Int32) (σ : AM) : VX (QM eI G args s below z0 u0) G p l e s m args below meth c 1 z0 u0 3 (lpK (lpn F_Tw_joined n) (T_Tw_joined_2 s0I σ)) 53 [] [.int s0I] σ := by
  unfold T_Tw_joined_2
  refine x_callSI (As := [.int s0I]) C (c_Tw_truth G l s0I σ) w617 w616 w618 w122 k_Tw_truth rfl (by decide) (by decide) rfl (Nat.le_of_ble_eq_true rfl) d_Tw_joined_53 (fun r1 σ2 => ?_)
  exact x_iret C d_Tw_joined_56
set_option maxRecDepth 20000 in
theorem s_Tw_joined_3 {G : GX} {p : Program} {l : Launch} {e : Env} {s : State} {m : MethodId} {args : Array Value} {below : List Frame} {meth : Method} {c : Code} {z0 u0 n : Nat} (C : Cx G p s m args meth c prog_12_method_31_code 3 "BellPlate$Tower" ((some FieldType.int))) (IH : I_Tw_joined G p l e s m args below meth c z0 u0 n)  (σ : AM) : VX (QM eI G args s below z0 u0) G p l e s m args below meth c 1 z0 u0 3 (lpK (lpn F_Tw_joined n) (T_Tw_joined_3  σ)) 65 [] [] σ := by
  unfold T_Tw_joined_3
  refine x_iconst (v := (1 : Int32)) C d_Tw_joined_65 (by decide) ?_
  refine x_goto (tgt := 70) C d_Tw_joined_66 (by decide) ?_
  exact IH.2.2.2.2.1 ((1 : Int32)) (σ)
set_option maxRecDepth 20000 in
theorem s_Tw_joined_4 {G : GX} {p : Program} {l : Launch} {e : Env} {s : State} {m : MethodId} {args : Array Value} {below : List Frame} {meth : Method} {c : Code} {z0 u0 n : Nat} (C : Cx G p s m args meth c prog_12_method_31_code 3 "BellPlate$Tower" ((some FieldType.int))) (IH : I_Tw_joined G p l e s m args below meth c z0 u0 n) (s0I : Int32) (σ : AM) : VX (QM eI G args s below z0 u0) G p l e s m args below meth c 1 z0 u0 3 (lpK (lpn F_Tw_joined n) (T_Tw_joined_4 s0I σ)) 70 [] [.int s0I] σ := by
  unfold T_Tw_joined_4
  refine x_callSI (As := [.int s0I]) C (c_Tw_truth G l s0I σ) w617 w616 w618 w122 k_Tw_truth rfl (by decide) (by decide) rfl (Nat.le_of_ble_eq_true rfl) d_Tw_joined_70 (fun r1 σ2 => ?_)
  exact x_iret C d_Tw_joined_73
set_option maxRecDepth 20000 in
theorem s_Tw_joined_5 {G : GX} {p : Program} {l : Launch} {e : Env} {s : State} {m : MethodId} {args : Array Value} {below : List Frame} {meth : Method} {c : Code} {z0 u0 n : Nat} (C : Cx G p s m args meth c prog_12_method_31_code 3 "BellPlate$Tower" ((some FieldType.int))) (IH : I_Tw_joined G p l e s m args below meth c z0 u0 n) (s0I : Int32) (σ : AM) : VX (QM eI G args s below z0 u0) G p l e s m args below meth c 1 z0 u0 3 (lpK (lpn F_Tw_joined n) (T_Tw_joined_5 s0I σ)) 84 [] [.int s0I] σ := by
  unfold T_Tw_joined_5
  refine x_callSI (As := [.int s0I]) C (c_Tw_truth G l s0I σ) w617 w616 w618 w122 k_Tw_truth rfl (by decide) (by decide) rfl (Nat.le_of_ble_eq_true rfl) d_Tw_joined_84 (fun r1 σ2 => ?_)
  exact x_iret C d_Tw_joined_87
set_option maxRecDepth 20000 in
theorem s_Tw_joined_6 {G : GX} {p : Program} {l : Launch} {e : Env} {s : State} {m : MethodId} {args : Array Value} {below : List Frame} {meth : Method} {c : Code} {z0 u0 n : Nat} (C : Cx G p s m args meth c prog_12_method_31_code 3 "BellPlate$Tower" ((some FieldType.int))) (IH : I_Tw_joined G p l e s m args below meth c z0 u0 n) (s0I : Int32) (σ : AM) : VX (QM eI G args s below z0 u0) G p l e s m args below meth c 1 z0 u0 3 (lpK (lpn F_Tw_joined n) (T_Tw_joined_6 s0I σ)) 98 [] [.int s0I] σ := by
  unfold T_Tw_joined_6
  refine x_callSI (As := [.int s0I]) C (c_Tw_truth G l s0I σ) w617 w616 w618 w122 k_Tw_truth rfl (by decide) (by decide) rfl (Nat.le_of_ble_eq_true rfl) d_Tw_joined_98 (fun r1 σ2 => ?_)
  exact x_iret C d_Tw_joined_101
theorem i_Tw_joined {G : GX} {p : Program} {l : Launch} {e : Env} {s : State} {m : MethodId} {args : Array Value} {below : List Frame} {meth : Method} {c : Code} {z0 u0 : Nat} (C : Cx G p s m args meth c prog_12_method_31_code 3 "BellPlate$Tower" ((some FieldType.int))) (n : Nat) : I_Tw_joined G p l e s m args below meth c z0 u0 n := by
  induction n with
  | zero => exact ⟨fun _ _ _ _ => x_none, fun _ => x_none, fun _ _ => x_none, fun _ => x_none, fun _ _ => x_none, fun _ _ => x_none, fun _ _ => x_none⟩
  | succ n IH => exact ⟨fun v0I v1I v2I σ => s_Tw_joined_0 C IH v0I v1I v2I σ, fun σ => s_Tw_joined_1 C IH σ, fun s0I σ => s_Tw_joined_2 C IH s0I σ, fun σ => s_Tw_joined_3 C IH σ, fun s0I σ => s_Tw_joined_4 C IH s0I σ, fun s0I σ => s_Tw_joined_5 C IH s0I σ, fun s0I σ => s_Tw_joined_6 C IH s0I σ⟩
theorem c_Tw_joined (G : GX) (l : Launch) (v0I : Int32) (v1I : Int32) (v2I : Int32) (σ : AM) : CT eI G l 1 y_Tw_joined prog_12_method_31_code 3 ((some FieldType.int)) [.int v0I, .int v1I, .int v2I] σ (M_Tw_joined v0I v1I v2I σ) := by
  refine ct_of (by decide +kernel) (Nat.le_of_ble_eq_true rfl) (fun p e s m args below meth c C hin => ?_)
  refine x_lve (lv' := [(0, .int v0I), (1, .int v1I), (2, .int v2I)]) rfl ?_
  intro r σ' h
  obtain ⟨n, hn⟩ := (lp_iff _ _ _).mp h
  exact (i_Tw_joined C n).1 v0I v1I v2I σ r σ' hn
/-! BellPlate$Tower.value(I[II)I -/
abbrev y_Tw_value : MethodName := ⟨"BellPlate$Tower", "value", "(I[II)I"⟩
theorem k_Tw_value : y_Tw_value.cls ≠ "java/lang/invoke/MethodHandle" ∧ y_Tw_value.cls ≠ "java/lang/invoke/VarHandle" ∧ (parseMethodDescriptor y_Tw_value.desc).map (fun d => d.parameters.length) = some 3 := by decide +kernel
theorem d_Tw_value_0 : decode prog_12_method_29_code 0 = .ok (.iconst 0, 1) := by decide +kernel
theorem d_Tw_value_1 : decode prog_12_method_29_code 1 = .ok (.istore 4, 2) := by decide +kernel
theorem d_Tw_value_3 : decode prog_12_method_29_code 3 = .ok (.aload_n 0, 1) := by decide +kernel
theorem d_Tw_value_4 : decode prog_12_method_29_code 4 = .ok (.getfield 30, 3) := by decide +kernel
theorem d_Tw_value_7 : decode prog_12_method_29_code 7 = .ok (.iconst 0, 1) := by decide +kernel
theorem d_Tw_value_8 : decode prog_12_method_29_code 8 = .ok (.iconst 0, 1) := by decide +kernel
theorem d_Tw_value_9 : decode prog_12_method_29_code 9 = .ok (.iastore, 1) := by decide +kernel
theorem d_Tw_value_10 : decode prog_12_method_29_code 10 = .ok (.aload_n 0, 1) := by decide +kernel
theorem d_Tw_value_11 : decode prog_12_method_29_code 11 = .ok (.getfield 19, 3) := by decide +kernel
theorem d_Tw_value_14 : decode prog_12_method_29_code 14 = .ok (.iload_n 1, 1) := by decide +kernel
theorem d_Tw_value_15 : decode prog_12_method_29_code 15 = .ok (.iaload, 1) := by decide +kernel
theorem d_Tw_value_16 : decode prog_12_method_29_code 16 = .ok (.istore 5, 2) := by decide +kernel
theorem d_Tw_value_18 : decode prog_12_method_29_code 18 = .ok (.iload 5, 2) := by decide +kernel
theorem d_Tw_value_20 : decode prog_12_method_29_code 20 = .ok (.aload_n 0, 1) := by decide +kernel
theorem d_Tw_value_21 : decode prog_12_method_29_code 21 = .ok (.getfield 22, 3) := by decide +kernel
theorem d_Tw_value_24 : decode prog_12_method_29_code 24 = .ok (.iload_n 1, 1) := by decide +kernel
theorem d_Tw_value_25 : decode prog_12_method_29_code 25 = .ok (.iaload, 1) := by decide +kernel
theorem d_Tw_value_26 : decode prog_12_method_29_code 26 = .ok (.if_icmp .ge 134, 3) := by decide +kernel
theorem d_Tw_value_29 : decode prog_12_method_29_code 29 = .ok (.aload_n 0, 1) := by decide +kernel
theorem d_Tw_value_30 : decode prog_12_method_29_code 30 = .ok (.getfield 15, 3) := by decide +kernel
theorem d_Tw_value_33 : decode prog_12_method_29_code 33 = .ok (.iload 5, 2) := by decide +kernel
theorem d_Tw_value_35 : decode prog_12_method_29_code 35 = .ok (.iaload, 1) := by decide +kernel
theorem d_Tw_value_36 : decode prog_12_method_29_code 36 = .ok (.istore 6, 2) := by decide +kernel
theorem d_Tw_value_38 : decode prog_12_method_29_code 38 = .ok (.iload 6, 2) := by decide +kernel
theorem d_Tw_value_40 : decode prog_12_method_29_code 40 = .ok (.bipush 8, 2) := by decide +kernel
theorem d_Tw_value_42 : decode prog_12_method_29_code 42 = .ok (.if_icmp .lt 30, 3) := by decide +kernel
theorem d_Tw_value_45 : decode prog_12_method_29_code 45 = .ok (.iload 4, 2) := by decide +kernel
theorem d_Tw_value_47 : decode prog_12_method_29_code 47 = .ok (.bipush 32, 2) := by decide +kernel
theorem d_Tw_value_49 : decode prog_12_method_29_code 49 = .ok (.if_icmp .ge 105, 3) := by decide +kernel
theorem d_Tw_value_52 : decode prog_12_method_29_code 52 = .ok (.aload_n 0, 1) := by decide +kernel
theorem d_Tw_value_53 : decode prog_12_method_29_code 53 = .ok (.getfield 30, 3) := by decide +kernel
theorem d_Tw_value_56 : decode prog_12_method_29_code 56 = .ok (.iload 4, 2) := by decide +kernel
theorem d_Tw_value_58 : decode prog_12_method_29_code 58 = .ok (.iload 6, 2) := by decide +kernel
theorem d_Tw_value_60 : decode prog_12_method_29_code 60 = .ok (.aload_n 2, 1) := by decide +kernel
theorem d_Tw_value_61 : decode prog_12_method_29_code 61 = .ok (.iload_n 3, 1) := by decide +kernel
theorem d_Tw_value_62 : decode prog_12_method_29_code 62 = .ok (.invokestatic 87, 3) := by decide +kernel
theorem d_Tw_value_65 : decode prog_12_method_29_code 65 = .ok (.iastore, 1) := by decide +kernel
theorem d_Tw_value_66 : decode prog_12_method_29_code 66 = .ok (.iinc 4 1, 3) := by decide +kernel
theorem d_Tw_value_69 : decode prog_12_method_29_code 69 = .ok (.goto 85, 3) := by decide +kernel
theorem d_Tw_value_72 : decode prog_12_method_29_code 72 = .ok (.iload 6, 2) := by decide +kernel
theorem d_Tw_value_74 : decode prog_12_method_29_code 74 = .ok (.ifCond .ne 41, 3) := by decide +kernel
theorem d_Tw_value_77 : decode prog_12_method_29_code 77 = .ok (.iload 4, 2) := by decide +kernel
theorem d_Tw_value_79 : decode prog_12_method_29_code 79 = .ok (.iconst 1, 1) := by decide +kernel
theorem d_Tw_value_80 : decode prog_12_method_29_code 80 = .ok (.if_icmp .lt 74, 3) := by decide +kernel
theorem d_Tw_value_83 : decode prog_12_method_29_code 83 = .ok (.aload_n 0, 1) := by decide +kernel
theorem d_Tw_value_84 : decode prog_12_method_29_code 84 = .ok (.getfield 30, 3) := by decide +kernel
theorem d_Tw_value_87 : decode prog_12_method_29_code 87 = .ok (.iload 4, 2) := by decide +kernel
theorem d_Tw_value_89 : decode prog_12_method_29_code 89 = .ok (.iconst 1, 1) := by decide +kernel
theorem d_Tw_value_90 : decode prog_12_method_29_code 90 = .ok (.isub, 1) := by decide +kernel
theorem d_Tw_value_91 : decode prog_12_method_29_code 91 = .ok (.aload_n 0, 1) := by decide +kernel
theorem d_Tw_value_92 : decode prog_12_method_29_code 92 = .ok (.getfield 30, 3) := by decide +kernel
theorem d_Tw_value_95 : decode prog_12_method_29_code 95 = .ok (.iload 4, 2) := by decide +kernel
theorem d_Tw_value_97 : decode prog_12_method_29_code 97 = .ok (.iconst 1, 1) := by decide +kernel
theorem d_Tw_value_98 : decode prog_12_method_29_code 98 = .ok (.isub, 1) := by decide +kernel
theorem d_Tw_value_99 : decode prog_12_method_29_code 99 = .ok (.iaload, 1) := by decide +kernel
theorem d_Tw_value_100 : decode prog_12_method_29_code 100 = .ok (.ifCond .ne 7, 3) := by decide +kernel
theorem d_Tw_value_103 : decode prog_12_method_29_code 103 = .ok (.iconst 1, 1) := by decide +kernel
theorem d_Tw_value_104 : decode prog_12_method_29_code 104 = .ok (.goto 4, 3) := by decide +kernel
theorem d_Tw_value_107 : decode prog_12_method_29_code 107 = .ok (.iconst 0, 1) := by decide +kernel
theorem d_Tw_value_108 : decode prog_12_method_29_code 108 = .ok (.invokestatic 90, 3) := by decide +kernel
theorem d_Tw_value_111 : decode prog_12_method_29_code 111 = .ok (.iastore, 1) := by decide +kernel
theorem d_Tw_value_112 : decode prog_12_method_29_code 112 = .ok (.goto 42, 3) := by decide +kernel
theorem d_Tw_value_115 : decode prog_12_method_29_code 115 = .ok (.iload 4, 2) := by decide +kernel
theorem d_Tw_value_117 : decode prog_12_method_29_code 117 = .ok (.iconst 2, 1) := by decide +kernel
theorem d_Tw_value_118 : decode prog_12_method_29_code 118 = .ok (.if_icmp .lt 36, 3) := by decide +kernel
theorem d_Tw_value_121 : decode prog_12_method_29_code 121 = .ok (.iinc 4 (-1), 3) := by decide +kernel
theorem d_Tw_value_124 : decode prog_12_method_29_code 124 = .ok (.aload_n 0, 1) := by decide +kernel
theorem d_Tw_value_125 : decode prog_12_method_29_code 125 = .ok (.getfield 30, 3) := by decide +kernel
theorem d_Tw_value_128 : decode prog_12_method_29_code 128 = .ok (.iload 4, 2) := by decide +kernel
theorem d_Tw_value_130 : decode prog_12_method_29_code 130 = .ok (.iconst 1, 1) := by decide +kernel
theorem d_Tw_value_131 : decode prog_12_method_29_code 131 = .ok (.isub, 1) := by decide +kernel
theorem d_Tw_value_132 : decode prog_12_method_29_code 132 = .ok (.iload 6, 2) := by decide +kernel
theorem d_Tw_value_134 : decode prog_12_method_29_code 134 = .ok (.aload_n 0, 1) := by decide +kernel
theorem d_Tw_value_135 : decode prog_12_method_29_code 135 = .ok (.getfield 30, 3) := by decide +kernel
theorem d_Tw_value_138 : decode prog_12_method_29_code 138 = .ok (.iload 4, 2) := by decide +kernel
theorem d_Tw_value_140 : decode prog_12_method_29_code 140 = .ok (.iconst 1, 1) := by decide +kernel
theorem d_Tw_value_141 : decode prog_12_method_29_code 141 = .ok (.isub, 1) := by decide +kernel
theorem d_Tw_value_142 : decode prog_12_method_29_code 142 = .ok (.iaload, 1) := by decide +kernel
theorem d_Tw_value_143 : decode prog_12_method_29_code 143 = .ok (.aload_n 0, 1) := by decide +kernel
theorem d_Tw_value_144 : decode prog_12_method_29_code 144 = .ok (.getfield 30, 3) := by decide +kernel
theorem d_Tw_value_147 : decode prog_12_method_29_code 147 = .ok (.iload 4, 2) := by decide +kernel
theorem d_Tw_value_149 : decode prog_12_method_29_code 149 = .ok (.iaload, 1) := by decide +kernel
theorem d_Tw_value_150 : decode prog_12_method_29_code 150 = .ok (.invokestatic 94, 3) := by decide +kernel
theorem d_Tw_value_153 : decode prog_12_method_29_code 153 = .ok (.iastore, 1) := by decide +kernel
theorem d_Tw_value_154 : decode prog_12_method_29_code 154 = .ok (.iinc 5 1, 3) := by decide +kernel
theorem d_Tw_value_157 : decode prog_12_method_29_code 157 = .ok (.goto (-139), 3) := by decide +kernel
theorem d_Tw_value_160 : decode prog_12_method_29_code 160 = .ok (.aload_n 0, 1) := by decide +kernel
theorem d_Tw_value_161 : decode prog_12_method_29_code 161 = .ok (.getfield 30, 3) := by decide +kernel
theorem d_Tw_value_164 : decode prog_12_method_29_code 164 = .ok (.iconst 0, 1) := by decide +kernel
theorem d_Tw_value_165 : decode prog_12_method_29_code 165 = .ok (.iaload, 1) := by decide +kernel
theorem d_Tw_value_166 : decode prog_12_method_29_code 166 = .ok (.ireturn, 1) := by decide +kernel
abbrev S_Tw_value : Type := Nat × Nat × Int32 × Nat × Int32 × Int32 × Int32 × Nat × Int32 × Int32 × AM
noncomputable def T_Tw_value_0 (v0R : Nat) (v1I : Int32) (v2R : Nat) (v3I : Int32) (σ : AM) : S_Tw_value ⊕ Option (Int32 × AM) :=
  gdT (okO σ v0R 1) <| gdT (okO σ (aR σ v0R 5) 101) <| gdT (inB (0 : Int32) (aN σ (aR σ v0R 5))) <| letT (sI σ (aR σ v0R 5) (0 : Int32).toNatClampNeg (0 : Int32)) fun σ4 => gdT (okO σ4 (aR σ4 v0R 2) 101) <| gdT (inB v1I (aN σ4 (aR σ4 v0R 2))) <| letT (aI σ4 (aR σ4 v0R 2) v1I.toNatClampNeg) fun x8 => .inl (1, v0R, v1I, v2R, v3I, (0 : Int32), x8, 0, 0, 0, σ4)
noncomputable def T_Tw_value_1 (v0R : Nat) (v1I : Int32) (v2R : Nat) (v3I : Int32) (v4I : Int32) (v5I : Int32) (σ : AM) : S_Tw_value ⊕ Option (Int32 × AM) :=
  gdT (okO σ v0R 1) <| gdT (okO σ (aR σ v0R 3) 101) <| gdT (inB v1I (aN σ (aR σ v0R 3))) <| if v5I < (aI σ (aR σ v0R 3) v1I.toNatClampNeg) then (gdT (okO σ (aR σ v0R 1) 101) <| gdT (inB v5I (aN σ (aR σ v0R 1))) <| letT (aI σ (aR σ v0R 1) v5I.toNatClampNeg) fun x6 => if x6 < (8 : Int32) then (if x6 = 0 then (if v4I < (1 : Int32) then (.inl (3, v0R, v1I, v2R, v3I, v4I, v5I, 0, 0, 0, σ)) else (gdT (okO σ (aR σ v0R 5) 101) <| gdT (inB (v4I - (1 : Int32)) (aN σ (aR σ v0R 5))) <| if (aI σ (aR σ v0R 5) (v4I - (1 : Int32)).toNatClampNeg) = 0 then (.inl (2, v0R, v1I, v2R, v3I, v4I, v5I, aR σ v0R 5, v4I - (1 : Int32), (1 : Int32), σ)) else (.inl (2, v0R, v1I, v2R, v3I, v4I, v5I, aR σ v0R 5, v4I - (1 : Int32), (0 : Int32), σ)))) else (if v4I < (2 : Int32) then (.inl (3, v0R, v1I, v2R, v3I, v4I, v5I, 0, 0, 0, σ)) else (gdT (okO σ (aR σ v0R 5) 101) <| gdT (inB ((v4I + ((-1) : Int32)) - (1 : Int32)) (aN σ (aR σ v0R 5))) <| gdT (inB (v4I + ((-1) : Int32)) (aN σ (aR σ v0R 5))) <| bndT (M_Tw_joined x6 (aI σ (aR σ v0R 5) ((v4I + ((-1) : Int32)) - (1 : Int32)).toNatClampNeg) (aI σ (aR σ v0R 5) (v4I + ((-1) : Int32)).toNatClampNeg) σ) fun r12 σ13 => gdT (okO σ13 (aR σ v0R 5) 101) <| gdT (inB ((v4I + ((-1) : Int32)) - (1 : Int32)) (aN σ13 (aR σ v0R 5))) <| letT (sI σ13 (aR σ v0R 5) ((v4I + ((-1) : Int32)) - (1 : Int32)).toNatClampNeg r12) fun σ16 => .inl (3, v0R, v1I, v2R, v3I, v4I + ((-1) : Int32), v5I, 0, 0, 0, σ16)))) else (if v4I < (32 : Int32) then (gdT (okO σ (aR σ v0R 5) 101) <| bndT (M_Tw_operand x6 v2R v3I σ) fun r19 σ20 => gdT (okO σ20 (aR σ v0R 5) 101) <| gdT (inB v4I (aN σ20 (aR σ v0R 5))) <| letT (sI σ20 (aR σ v0R 5) v4I.toNatClampNeg r19) fun σ23 => .inl (3, v0R, v1I, v2R, v3I, v4I + (1 : Int32), v5I, 0, 0, 0, σ23)) else (.inl (3, v0R, v1I, v2R, v3I, v4I, v5I, 0, 0, 0, σ)))) else (gdT (okO σ (aR σ v0R 5) 101) <| gdT (inB (0 : Int32) (aN σ (aR σ v0R 5))) <| .inr (some ((aI σ (aR σ v0R 5) (0 : Int32).toNatClampNeg), σ)))
noncomputable def T_Tw_value_2 (v0R : Nat) (v1I : Int32) (v2R : Nat) (v3I : Int32) (v4I : Int32) (v5I : Int32) (s0R : Nat) (s1I : Int32) (s2I : Int32) (σ : AM) : S_Tw_value ⊕ Option (Int32 × AM) :=
  bndT (M_Tw_truth s2I σ) fun r1 σ2 => gdT (okO σ2 s0R 101) <| gdT (inB s1I (aN σ2 s0R)) <| letT (sI σ2 s0R s1I.toNatClampNeg r1) fun σ5 => .inl (3, v0R, v1I, v2R, v3I, v4I, v5I, 0, 0, 0, σ5)
noncomputable def T_Tw_value_3 (v0R : Nat) (v1I : Int32) (v2R : Nat) (v3I : Int32) (v4I : Int32) (v5I : Int32) (σ : AM) : S_Tw_value ⊕ Option (Int32 × AM) :=
  .inl (1, v0R, v1I, v2R, v3I, v4I, v5I + (1 : Int32), 0, 0, 0, σ)
noncomputable def F_Tw_value : S_Tw_value → S_Tw_value ⊕ Option (Int32 × AM) := fun s => match s.1 with
  | 0 => T_Tw_value_0 (s.2.1) (s.2.2.1) (s.2.2.2.1) (s.2.2.2.2.1) (s.2.2.2.2.2.2.2.2.2.2)
  | 1 => T_Tw_value_1 (s.2.1) (s.2.2.1) (s.2.2.2.1) (s.2.2.2.2.1) (s.2.2.2.2.2.1) (s.2.2.2.2.2.2.1) (s.2.2.2.2.2.2.2.2.2.2)
  | 2 => T_Tw_value_2 (s.2.1) (s.2.2.1) (s.2.2.2.1) (s.2.2.2.2.1) (s.2.2.2.2.2.1) (s.2.2.2.2.2.2.1) (s.2.2.2.2.2.2.2.1) (s.2.2.2.2.2.2.2.2.1) (s.2.2.2.2.2.2.2.2.2.1) (s.2.2.2.2.2.2.2.2.2.2)
  | _ => T_Tw_value_3 (s.2.1) (s.2.2.1) (s.2.2.2.1) (s.2.2.2.2.1) (s.2.2.2.2.2.1) (s.2.2.2.2.2.2.1) (s.2.2.2.2.2.2.2.2.2.2)
noncomputable def L_Tw_value_0 (v0R : Nat) (v1I : Int32) (v2R : Nat) (v3I : Int32) (σ : AM) : Option (Int32 × AM) := lp F_Tw_value (0, v0R, v1I, v2R, v3I, 0, 0, 0, 0, 0, σ)
noncomputable def L_Tw_value_1 (v0R : Nat) (v1I : Int32) (v2R : Nat) (v3I : Int32) (v4I : Int32) (v5I : Int32) (σ : AM) : Option (Int32 × AM) := lp F_Tw_value (1, v0R, v1I, v2R, v3I, v4I, v5I, 0, 0, 0, σ)
noncomputable def L_Tw_value_2 (v0R : Nat) (v1I : Int32) (v2R : Nat) (v3I : Int32) (v4I : Int32) (v5I : Int32) (s0R : Nat) (s1I : Int32) (s2I : Int32) (σ : AM) : Option (Int32 × AM) := lp F_Tw_value (2, v0R, v1I, v2R, v3I, v4I, v5I, s0R, s1I, s2I, σ)
noncomputable def L_Tw_value_3 (v0R : Nat) (v1I : Int32) (v2R : Nat) (v3I : Int32) (v4I : Int32) (v5I : Int32) (σ : AM) : Option (Int32 × AM) := lp F_Tw_value (3, v0R, v1I, v2R, v3I, v4I, v5I, 0, 0, 0, σ)
set_option maxRecDepth 20000 in
theorem E_Tw_value_0 (v0R : Nat) (v1I : Int32) (v2R : Nat) (v3I : Int32) (σ : AM) : L_Tw_value_0 v0R v1I v2R v3I σ = (gd (okO σ v0R 1) <| gd (okO σ (aR σ v0R 5) 101) <| gd (inB (0 : Int32) (aN σ (aR σ v0R 5))) <| letT (sI σ (aR σ v0R 5) (0 : Int32).toNatClampNeg (0 : Int32)) fun σ4 => gd (okO σ4 (aR σ4 v0R 2) 101) <| gd (inB v1I (aN σ4 (aR σ4 v0R 2))) <| letT (aI σ4 (aR σ4 v0R 2) v1I.toNatClampNeg) fun x8 => L_Tw_value_1 v0R v1I v2R v3I ((0 : Int32)) x8 σ4) := by
  unfold L_Tw_value_0
  rw [lp_eq]
  show lpK (lp F_Tw_value) (T_Tw_value_0 v0R v1I v2R v3I σ) = _
  unfold T_Tw_value_0
  simp only [lpK_ite, lq_inl, lq_inr, lpK_bnd, lpK_gd, lq_let]
  try rfl
set_option maxRecDepth 20000 in
theorem E_Tw_value_1 (v0R : Nat) (v1I : Int32) (v2R : Nat) (v3I : Int32) (v4I : Int32) (v5I : Int32) (σ : AM) : L_Tw_value_1 v0R v1I v2R v3I v4I v5I σ = (gd (okO σ v0R 1) <| gd (okO σ (aR σ v0R 3) 101) <| gd (inB v1I (aN σ (aR σ v0R 3))) <| if v5I < (aI σ (aR σ v0R 3) v1I.toNatClampNeg) then (gd (okO σ (aR σ v0R 1) 101) <| gd (inB v5I (aN σ (aR σ v0R 1))) <| letT (aI σ (aR σ v0R 1) v5I.toNatClampNeg) fun x6 => if x6 < (8 : Int32) then (if x6 = 0 then (if v4I < (1 : Int32) then (L_Tw_value_3 v0R v1I v2R v3I v4I v5I σ) else (gd (okO σ (aR σ v0R 5) 101) <| gd (inB (v4I - (1 : Int32)) (aN σ (aR σ v0R 5))) <| if (aI σ (aR σ v0R 5) (v4I - (1 : Int32)).toNatClampNeg) = 0 then (L_Tw_value_2 v0R v1I v2R v3I v4I v5I (aR σ v0R 5) (v4I - (1 : Int32)) ((1 : Int32)) σ) else (L_Tw_value_2 v0R v1I v2R v3I v4I v5I (aR σ v0R 5) (v4I - (1 : Int32)) ((0 : Int32)) σ))) else (if v4I < (2 : Int32) then (L_Tw_value_3 v0R v1I v2R v3I v4I v5I σ) else (gd (okO σ (aR σ v0R 5) 101) <| gd (inB ((v4I + ((-1) : Int32)) - (1 : Int32)) (aN σ (aR σ v0R 5))) <| gd (inB (v4I + ((-1) : Int32)) (aN σ (aR σ v0R 5))) <| bnd (M_Tw_joined x6 (aI σ (aR σ v0R 5) ((v4I + ((-1) : Int32)) - (1 : Int32)).toNatClampNeg) (aI σ (aR σ v0R 5) (v4I + ((-1) : Int32)).toNatClampNeg) σ) fun r12 σ13 => gd (okO σ13 (aR σ v0R 5) 101) <| gd (inB ((v4I + ((-1) : Int32)) - (1 : Int32)) (aN σ13 (aR σ v0R 5))) <| letT (sI σ13 (aR σ v0R 5) ((v4I + ((-1) : Int32)) - (1 : Int32)).toNatClampNeg r12) fun σ16 => L_Tw_value_3 v0R v1I v2R v3I (v4I + ((-1) : Int32)) v5I σ16))) else (if v4I < (32 : Int32) then (gd (okO σ (aR σ v0R 5) 101) <| bnd (M_Tw_operand x6 v2R v3I σ) fun r19 σ20 => gd (okO σ20 (aR σ v0R 5) 101) <| gd (inB v4I (aN σ20 (aR σ v0R 5))) <| letT (sI σ20 (aR σ v0R 5) v4I.toNatClampNeg r19) fun σ23 => L_Tw_value_3 v0R v1I v2R v3I (v4I + (1 : Int32)) v5I σ23) else (L_Tw_value_3 v0R v1I v2R v3I v4I v5I σ))) else (gd (okO σ (aR σ v0R 5) 101) <| gd (inB (0 : Int32) (aN σ (aR σ v0R 5))) <| (some ((aI σ (aR σ v0R 5) (0 : Int32).toNatClampNeg), σ)))) := by
  unfold L_Tw_value_1
  rw [lp_eq]
  show lpK (lp F_Tw_value) (T_Tw_value_1 v0R v1I v2R v3I v4I v5I σ) = _
  unfold T_Tw_value_1
  simp only [lpK_ite, lq_inl, lq_inr, lpK_bnd, lpK_gd, lq_let]
  try rfl
set_option maxRecDepth 20000 in
theorem E_Tw_value_2 (v0R : Nat) (v1I : Int32) (v2R : Nat) (v3I : Int32) (v4I : Int32) (v5I : Int32) (s0R : Nat) (s1I : Int32) (s2I : Int32) (σ : AM) : L_Tw_value_2 v0R v1I v2R v3I v4I v5I s0R s1I s2I σ = (bnd (M_Tw_truth s2I σ) fun r1 σ2 => gd (okO σ2 s0R 101) <| gd (inB s1I (aN σ2 s0R)) <| letT (sI σ2 s0R s1I.toNatClampNeg r1) fun σ5 => L_Tw_value_3 v0R v1I v2R v3I v4I v5I σ5) := by
  unfold L_Tw_value_2
  rw [lp_eq]
  show lpK (lp F_Tw_value) (T_Tw_value_2 v0R v1I v2R v3I v4I v5I s0R s1I s2I σ) = _
  unfold T_Tw_value_2
  simp only [lpK_ite, lq_inl, lq_inr, lpK_bnd, lpK_gd, lq_let]
  try rfl
set_option maxRecDepth 20000 in
theorem E_Tw_value_3 (v0R : Nat) (v1I : Int32) (v2R : Nat) (v3I : Int32) (v4I : Int32) (v5I : Int32) (σ : AM) : L_Tw_value_3 v0R v1I v2R v3I v4I v5I σ = (L_Tw_value_1 v0R v1I v2R v3I v4I (v5I + (1 : Int32)) σ) := by
  unfold L_Tw_value_3
  rw [lp_eq]
  show lpK (lp F_Tw_value) (T_Tw_value_3 v0R v1I v2R v3I v4I v5I σ) = _
  unfold T_Tw_value_3
  simp only [lpK_ite, lq_inl, lq_inr, lpK_bnd, lpK_gd, lq_let]
  try rfl
noncomputable def M_Tw_value (v0R : Nat) (v1I : Int32) (v2R : Nat) (v3I : Int32) (σ : AM) : Option (Int32 × AM) := mw σ (L_Tw_value_0 v0R v1I v2R v3I σ)
def I_Tw_value (G : GX) (p : Program) (l : Launch) (e : Env) (s : State) (m : MethodId) (args : Array Value) (below : List Frame) (meth : Method) (c : Code) (z0 u0 n : Nat) : Prop :=
  (∀ (v0R : Nat) (v1I : Int32) (v2R : Nat) (v3I : Int32) (σ : AM), VX (QM eI G args s below z0 u0) G p l e s m args below meth c 2 z0 u0 7 (lpn F_Tw_value n (0, v0R, v1I, v2R, v3I, 0, 0, 0, 0, 0, σ)) 0 [(0, .ref v0R), (1, .int v1I), (2, .ref v2R), (3, .int v3I)] [] σ) ∧
  (∀ (v0R : Nat) (v1I : Int32) (v2R : Nat) (v3I : Int32) (v4I : Int32) (v5I : Int32) (σ : AM), VX (QM eI G args s below z0 u0) G p l e s m args below meth c 2 z0 u0 7 (lpn F_Tw_value n (1, v0R, v1I, v2R, v3I, v4I, v5I, 0, 0, 0, σ)) 18 [(0, .ref v0R), (1, .int v1I), (2, .ref v2R), (3, .int v3I), (4, .int v4I), (5, .int v5I)] [] σ) ∧
  (∀ (v0R : Nat) (v1I : Int32) (v2R : Nat) (v3I : Int32) (v4I : Int32) (v5I : Int32) (s0R : Nat) (s1I : Int32) (s2I : Int32) (σ : AM), VX (QM eI G args s below z0 u0) G p l e s m args below meth c 2 z0 u0 7 (lpn F_Tw_value n (2, v0R, v1I, v2R, v3I, v4I, v5I, s0R, s1I, s2I, σ)) 108 [(0, .ref v0R), (1, .int v1I), (2, .ref v2R), (3, .int v3I), (4, .int v4I), (5, .int v5I)] [.int s2I, .int s1I, .ref s0R] σ) ∧
  (∀ (v0R : Nat) (v1I : Int32) (v2R : Nat) (v3I : Int32) (v4I : Int32) (v5I : Int32) (σ : AM), VX (QM eI G args s below z0 u0) G p l e s m args below meth c 2 z0 u0 7 (lpn F_Tw_value n (3, v0R, v1I, v2R, v3I, v4I, v5I, 0, 0, 0, σ)) 154 [(0, .ref v0R), (1, .int v1I), (2, .ref v2R), (3, .int v3I), (4, .int v4I), (5, .int v5I)] [] σ)
set_option maxRecDepth 20000 in
theorem s_Tw_value_0 {G : GX} {p : Program} {l : Launch} {e : Env} {s : State} {m : MethodId} {args : Array Value} {below : List Frame} {meth : Method} {c : Code} {z0 u0 n : Nat} (C : Cx G p s m args meth c prog_12_method_29_code 7 "BellPlate$Tower" ((some FieldType.int))) (IH : I_Tw_value G p l e s m args below meth c z0 u0 n) (v0R : Nat) (v1I : Int32) (v2R : Nat) (v3I : Int32) (σ : AM) : VX (QM eI G args s below z0 u0) G p l e s m args below meth c 2 z0 u0 7 (lpK (lpn F_Tw_value n) (T_Tw_value_0 v0R v1I v2R v3I σ)) 0 [(0, .ref v0R), (1, .int v1I), (2, .ref v2R), (3, .int v3I)] [] σ := by
  unfold T_Tw_value_0
  refine x_iconst (v := (0 : Int32)) C d_Tw_value_0 (by decide) ?_
  refine x_istore (lv' := [(4, .int (0 : Int32)), (0, .ref v0R), (1, .int v1I), (2, .ref v2R), (3, .int v3I)]) C d_Tw_value_1 (by decide) rfl ?_
  refine x_aload_n C d_Tw_value_3 1 rfl ?_
  refine x_gd (fun h1 => ?_)
  refine x_gd (fun h2 => ?_)
  refine x_getR (k := 5) (kv := 101) C (okO_iff.mp h1) rfl j0_ok (by decide) rfl (okO_iff.mp h2) (by decide) w172 d_Tw_value_4 ?_
  refine x_iconst (v := (0 : Int32)) C d_Tw_value_7 (by decide) ?_
  refine x_iconst (v := (0 : Int32)) C d_Tw_value_8 (by decide) ?_
  refine x_gd (fun h3 => ?_)
  refine x_astI C (okO_iff.mp h2) (inB_iff.mp h3) d_Tw_value_9 ?_
  refine x_letS (fun σ4 e5 => ?_)
  refine x_aload_n C d_Tw_value_10 1 rfl ?_
  refine x_gd (fun h6 => ?_)
  refine x_getR (k := 2) (kv := 101) C (by first | exact (okO_iff.mp h1) | (rw [e5]; exact (okO_iff.mp h1))) rfl j0_ok (by decide) rfl (okO_iff.mp h6) (by decide) w169 d_Tw_value_11 ?_
  refine x_iload_n C d_Tw_value_14 2 rfl ?_
  refine x_gd (fun h7 => ?_)
  refine x_aldI C (okO_iff.mp h6) (inB_iff.mp h7) d_Tw_value_15 ?_
  refine x_letI (fun x8 _ => ?_)
  refine x_istore (lv' := [(5, .int x8), (4, .int (0 : Int32)), (0, .ref v0R), (1, .int v1I), (2, .ref v2R), (3, .int v3I)]) C d_Tw_value_16 (by decide) rfl ?_
  refine x_lv [2, 3, 4, 5, 1, 0] rfl ?_
  exact IH.2.1 v0R v1I v2R v3I ((0 : Int32)) x8 (σ4)
set_option maxRecDepth 20000 in
theorem s_Tw_value_1 {G : GX} {p : Program} {l : Launch} {e : Env} {s : State} {m : MethodId} {args : Array Value} {below : List Frame} {meth : Method} {c : Code} {z0 u0 n : Nat} (C : Cx G p s m args meth c prog_12_method_29_code 7 "BellPlate$Tower" ((some FieldType.int))) (IH : I_Tw_value G p l e s m args below meth c z0 u0 n) (v0R : Nat) (v1I : Int32) (v2R : Nat) (v3I : Int32) (v4I : Int32) (v5I : Int32) (σ : AM) : VX (QM eI G args s below z0 u0) G p l e s m args below meth c 2 z0 u0 7 (lpK (lpn F_Tw_value n) (T_Tw_value_1 v0R v1I v2R v3I v4I v5I σ)) 18 [(0, .ref v0R), (1, .int v1I), (2, .ref v2R), (3, .int v3I), (4, .int v4I), (5, .int v5I)] [] σ := by
  unfold T_Tw_value_1
  refine x_iload C d_Tw_value_18 5 rfl ?_
  refine x_aload_n C d_Tw_value_20 0 rfl ?_
  refine x_gd (fun h1 => ?_)
  refine x_gd (fun h2 => ?_)
  refine x_getR (k := 3) (kv := 101) C (okO_iff.mp h1) rfl j0_ok (by decide) rfl (okO_iff.mp h2) (by decide) w170 d_Tw_value_21 ?_
  refine x_iload_n C d_Tw_value_24 1 rfl ?_
  refine x_gd (fun h3 => ?_)
  refine x_aldI C (okO_iff.mp h2) (inB_iff.mp h3) d_Tw_value_25 ?_
  refine x_icmp_ge (tgt := 160) C d_Tw_value_26 (by decide) (fun _ => ?_) (fun _ => ?_)
  · refine x_aload_n C d_Tw_value_29 0 rfl ?_
    refine x_gd (fun h4 => ?_)
    refine x_getR (k := 1) (kv := 101) C (okO_iff.mp h1) rfl j0_ok (by decide) rfl (okO_iff.mp h4) (by decide) w168 d_Tw_value_30 ?_
    refine x_iload C d_Tw_value_33 5 rfl ?_
    refine x_gd (fun h5 => ?_)
    refine x_aldI C (okO_iff.mp h4) (inB_iff.mp h5) d_Tw_value_35 ?_
    refine x_letI (fun x6 _ => ?_)
    refine x_istore (lv' := [(6, .int x6), (0, .ref v0R), (1, .int v1I), (2, .ref v2R), (3, .int v3I), (4, .int v4I), (5, .int v5I)]) C d_Tw_value_36 (by decide) rfl ?_
    refine x_iload C d_Tw_value_38 0 rfl ?_
    refine x_bipush (v := (8 : Int32)) C d_Tw_value_40 (by decide) ?_
    refine x_icmp_lt (tgt := 72) C d_Tw_value_42 (by decide) (fun _ => ?_) (fun _ => ?_)
    · refine x_iload C d_Tw_value_72 0 rfl ?_
      refine x_if_ne (tgt := 115) C d_Tw_value_74 (by decide) (fun _ => ?_) (fun _ => ?_)
      · refine x_iload C d_Tw_value_77 5 rfl ?_
        refine x_iconst (v := (1 : Int32)) C d_Tw_value_79 (by decide) ?_
        refine x_icmp_lt (tgt := 154) C d_Tw_value_80 (by decide) (fun _ => ?_) (fun _ => ?_)
        · refine x_lv [1, 2, 3, 4, 5, 6] rfl ?_
          exact IH.2.2.2 v0R v1I v2R v3I v4I v5I (σ)
        · refine x_aload_n C d_Tw_value_83 1 rfl ?_
          refine x_gd (fun h7 => ?_)
          refine x_getR (k := 5) (kv := 101) C (okO_iff.mp h1) rfl j0_ok (by decide) rfl (okO_iff.mp h7) (by decide) w172 d_Tw_value_84 ?_
          refine x_iload C d_Tw_value_87 5 rfl ?_
          refine x_iconst (v := (1 : Int32)) C d_Tw_value_89 (by decide) ?_
          refine x_isub C d_Tw_value_90 ?_
          refine x_aload_n C d_Tw_value_91 1 rfl ?_
          refine x_getR (k := 5) (kv := 101) C (okO_iff.mp h1) rfl j0_ok (by decide) rfl (okO_iff.mp h7) (by decide) w172 d_Tw_value_92 ?_
          refine x_iload C d_Tw_value_95 5 rfl ?_
          refine x_iconst (v := (1 : Int32)) C d_Tw_value_97 (by decide) ?_
          refine x_isub C d_Tw_value_98 ?_
          refine x_gd (fun h8 => ?_)
          refine x_aldI C (okO_iff.mp h7) (inB_iff.mp h8) d_Tw_value_99 ?_
          refine x_if_ne (tgt := 107) C d_Tw_value_100 (by decide) (fun _ => ?_) (fun _ => ?_)
          · refine x_iconst (v := (1 : Int32)) C d_Tw_value_103 (by decide) ?_
            refine x_goto (tgt := 108) C d_Tw_value_104 (by decide) ?_
            refine x_lv [1, 2, 3, 4, 5, 6] rfl ?_
            exact IH.2.2.1 v0R v1I v2R v3I v4I v5I (aR σ v0R 5) (v4I - (1 : Int32)) ((1 : Int32)) (σ)
          · refine x_iconst (v := (0 : Int32)) C d_Tw_value_107 (by decide) ?_
            refine x_lv [1, 2, 3, 4, 5, 6] rfl ?_
            exact IH.2.2.1 v0R v1I v2R v3I v4I v5I (aR σ v0R 5) (v4I - (1 : Int32)) ((0 : Int32)) (σ)
      · refine x_iload C d_Tw_value_115 5 rfl ?_
        refine x_iconst (v := (2 : Int32)) C d_Tw_value_117 (by decide) ?_
        refine x_icmp_lt (tgt := 154) C d_Tw_value_118 (by decide) (fun _ => ?_) (fun _ => ?_)
        · refine x_lv [1, 2, 3, 4, 5, 6] rfl ?_
          exact IH.2.2.2 v0R v1I v2R v3I v4I v5I (σ)
        · refine x_iinc (v := v4I + ((-1) : Int32)) (lv' := [(4, .int (v4I + ((-1) : Int32))), (6, .int x6), (0, .ref v0R), (1, .int v1I), (2, .ref v2R), (3, .int v3I), (5, .int v5I)]) C d_Tw_value_121 5 rfl rfl (by decide) rfl ?_
          refine x_aload_n C d_Tw_value_124 2 rfl ?_
          refine x_gd (fun h9 => ?_)
          refine x_getR (k := 5) (kv := 101) C (okO_iff.mp h1) rfl j0_ok (by decide) rfl (okO_iff.mp h9) (by decide) w172 d_Tw_value_125 ?_
          refine x_iload C d_Tw_value_128 0 rfl ?_
          refine x_iconst (v := (1 : Int32)) C d_Tw_value_130 (by decide) ?_
          refine x_isub C d_Tw_value_131 ?_
          refine x_iload C d_Tw_value_132 1 rfl ?_
          refine x_aload_n C d_Tw_value_134 2 rfl ?_
          refine x_getR (k := 5) (kv := 101) C (okO_iff.mp h1) rfl j0_ok (by decide) rfl (okO_iff.mp h9) (by decide) w172 d_Tw_value_135 ?_
          refine x_iload C d_Tw_value_138 0 rfl ?_
          refine x_iconst (v := (1 : Int32)) C d_Tw_value_140 (by decide) ?_
          refine x_isub C d_Tw_value_141 ?_
          refine x_gd (fun h10 => ?_)
          refine x_aldI C (okO_iff.mp h9) (inB_iff.mp h10) d_Tw_value_142 ?_
          refine x_aload_n C d_Tw_value_143 2 rfl ?_
          refine x_getR (k := 5) (kv := 101) C (okO_iff.mp h1) rfl j0_ok (by decide) rfl (okO_iff.mp h9) (by decide) w172 d_Tw_value_144 ?_
          refine x_iload C d_Tw_value_147 0 rfl ?_
          refine x_gd (fun h11 => ?_)
          refine x_aldI C (okO_iff.mp h9) (inB_iff.mp h11) d_Tw_value_149 ?_
          refine x_callSI (As := [.int x6, .int (aI σ (aR σ v0R 5) ((v4I + ((-1) : Int32)) - (1 : Int32)).toNatClampNeg), .int (aI σ (aR σ v0R 5) (v4I + ((-1) : Int32)).toNatClampNeg)]) C (c_Tw_joined G l x6 (aI σ (aR σ v0R 5) ((v4I + ((-1) : Int32)) - (1 : Int32)).toNatClampNeg) (aI σ (aR σ v0R 5) (v4I + ((-1) : Int32)).toNatClampNeg) σ) w620 w619 w621 w122 k_Tw_joined rfl (by decide) (by decide) rfl (Nat.le_of_ble_eq_true rfl) d_Tw_value_150 (fun r12 σ13 => ?_)
          refine x_gd (fun h14 => ?_)
          refine x_gd (fun h15 => ?_)
          refine x_astI C (okO_iff.mp h14) (inB_iff.mp h15) d_Tw_value_153 ?_
          refine x_letS (fun σ16 e17 => ?_)
          refine x_lv [2, 3, 4, 5, 0, 6] rfl ?_
          exact IH.2.2.2 v0R v1I v2R v3I (v4I + ((-1) : Int32)) v5I (σ16)
    · refine x_iload C d_Tw_value_45 5 rfl ?_
      refine x_bipush (v := (32 : Int32)) C d_Tw_value_47 (by decide) ?_
      refine x_icmp_ge (tgt := 154) C d_Tw_value_49 (by decide) (fun _ => ?_) (fun _ => ?_)
      · refine x_aload_n C d_Tw_value_52 1 rfl ?_
        refine x_gd (fun h18 => ?_)
        refine x_getR (k := 5) (kv := 101) C (okO_iff.mp h1) rfl j0_ok (by decide) rfl (okO_iff.mp h18) (by decide) w172 d_Tw_value_53 ?_
        refine x_iload C d_Tw_value_56 5 rfl ?_
        refine x_iload C d_Tw_value_58 0 rfl ?_
        refine x_aload_n C d_Tw_value_60 3 rfl ?_
        refine x_iload_n C d_Tw_value_61 4 rfl ?_
        refine x_callSI (As := [.int x6, .ref v2R, .int v3I]) C (c_Tw_operand G l x6 v2R v3I σ) w614 w613 w615 w122 k_Tw_operand rfl (by decide) (by decide) rfl (Nat.le_of_ble_eq_true rfl) d_Tw_value_62 (fun r19 σ20 => ?_)
        refine x_gd (fun h21 => ?_)
        refine x_gd (fun h22 => ?_)
        refine x_astI C (okO_iff.mp h21) (inB_iff.mp h22) d_Tw_value_65 ?_
        refine x_letS (fun σ23 e24 => ?_)
        refine x_iinc (v := v4I + (1 : Int32)) (lv' := [(4, .int (v4I + (1 : Int32))), (6, .int x6), (0, .ref v0R), (1, .int v1I), (2, .ref v2R), (3, .int v3I), (5, .int v5I)]) C d_Tw_value_66 5 rfl rfl (by decide) rfl ?_
        refine x_goto (tgt := 154) C d_Tw_value_69 (by decide) ?_
        refine x_lv [2, 3, 4, 5, 0, 6] rfl ?_
        exact IH.2.2.2 v0R v1I v2R v3I (v4I + (1 : Int32)) v5I (σ23)
      · refine x_lv [1, 2, 3, 4, 5, 6] rfl ?_
        exact IH.2.2.2 v0R v1I v2R v3I v4I v5I (σ)
  · refine x_aload_n C d_Tw_value_160 0 rfl ?_
    refine x_gd (fun h25 => ?_)
    refine x_getR (k := 5) (kv := 101) C (okO_iff.mp h1) rfl j0_ok (by decide) rfl (okO_iff.mp h25) (by decide) w172 d_Tw_value_161 ?_
    refine x_iconst (v := (0 : Int32)) C d_Tw_value_164 (by decide) ?_
    refine x_gd (fun h26 => ?_)
    refine x_aldI C (okO_iff.mp h25) (inB_iff.mp h26) d_Tw_value_165 ?_
    exact x_iret C d_Tw_value_166
set_option maxRecDepth 20000 in
theorem s_Tw_value_2 {G : GX} {p : Program} {l : Launch} {e : Env} {s : State} {m : MethodId} {args : Array Value} {below : List Frame} {meth : Method} {c : Code} {z0 u0 n : Nat} (C : Cx G p s m args meth c prog_12_method_29_code 7 "BellPlate$Tower" ((some FieldType.int))) (IH : I_Tw_value G p l e s m args below meth c z0 u0 n) (v0R : Nat) (v1I : Int32) (v2R : Nat) (v3I : Int32) (v4I : Int32) (v5I : Int32) (s0R : Nat) (s1I : Int32) (s2I : Int32) (σ : AM) : VX (QM eI G args s below z0 u0) G p l e s m args below meth c 2 z0 u0 7 (lpK (lpn F_Tw_value n) (T_Tw_value_2 v0R v1I v2R v3I v4I v5I s0R s1I s2I σ)) 108 [(0, .ref v0R), (1, .int v1I), (2, .ref v2R), (3, .int v3I), (4, .int v4I), (5, .int v5I)] [.int s2I, .int s1I, .ref s0R] σ := by
  unfold T_Tw_value_2
  refine x_callSI (As := [.int s2I]) C (c_Tw_truth G l s2I σ) w617 w616 w618 w122 k_Tw_truth rfl (by decide) (by decide) rfl (Nat.le_of_ble_eq_true rfl) d_Tw_value_108 (fun r1 σ2 => ?_)
  refine x_gd (fun h3 => ?_)
  refine x_gd (fun h4 => ?_)
  refine x_astI C (okO_iff.mp h3) (inB_iff.mp h4) d_Tw_value_111 ?_
  refine x_letS (fun σ5 e6 => ?_)
  refine x_goto (tgt := 154) C d_Tw_value_112 (by decide) ?_
  exact IH.2.2.2 v0R v1I v2R v3I v4I v5I (σ5)
set_option maxRecDepth 20000 in
theorem s_Tw_value_3 {G : GX} {p : Program} {l : Launch} {e : Env} {s : State} {m : MethodId} {args : Array Value} {below : List Frame} {meth : Method} {c : Code} {z0 u0 n : Nat} (C : Cx G p s m args meth c prog_12_method_29_code 7 "BellPlate$Tower" ((some FieldType.int))) (IH : I_Tw_value G p l e s m args below meth c z0 u0 n) (v0R : Nat) (v1I : Int32) (v2R : Nat) (v3I : Int32) (v4I : Int32) (v5I : Int32) (σ : AM) : VX (QM eI G args s below z0 u0) G p l e s m args below meth c 2 z0 u0 7 (lpK (lpn F_Tw_value n) (T_Tw_value_3 v0R v1I v2R v3I v4I v5I σ)) 154 [(0, .ref v0R), (1, .int v1I), (2, .ref v2R), (3, .int v3I), (4, .int v4I), (5, .int v5I)] [] σ := by
  unfold T_Tw_value_3
  refine x_iinc (v := v5I + (1 : Int32)) (lv' := [(5, .int (v5I + (1 : Int32))), (0, .ref v0R), (1, .int v1I), (2, .ref v2R), (3, .int v3I), (4, .int v4I)]) C d_Tw_value_154 5 rfl rfl (by decide) rfl ?_
  refine x_goto (tgt := 18) C d_Tw_value_157 (by decide) ?_
  refine x_lv [1, 2, 3, 4, 5, 0] rfl ?_
  exact IH.2.1 v0R v1I v2R v3I v4I (v5I + (1 : Int32)) (σ)
theorem i_Tw_value {G : GX} {p : Program} {l : Launch} {e : Env} {s : State} {m : MethodId} {args : Array Value} {below : List Frame} {meth : Method} {c : Code} {z0 u0 : Nat} (C : Cx G p s m args meth c prog_12_method_29_code 7 "BellPlate$Tower" ((some FieldType.int))) (n : Nat) : I_Tw_value G p l e s m args below meth c z0 u0 n := by
  induction n with
  | zero => exact ⟨fun _ _ _ _ _ => x_none, fun _ _ _ _ _ _ _ => x_none, fun _ _ _ _ _ _ _ _ _ _ => x_none, fun _ _ _ _ _ _ _ => x_none⟩
  | succ n IH => exact ⟨fun v0R v1I v2R v3I σ => s_Tw_value_0 C IH v0R v1I v2R v3I σ, fun v0R v1I v2R v3I v4I v5I σ => s_Tw_value_1 C IH v0R v1I v2R v3I v4I v5I σ, fun v0R v1I v2R v3I v4I v5I s0R s1I s2I σ => s_Tw_value_2 C IH v0R v1I v2R v3I v4I v5I s0R s1I s2I σ, fun v0R v1I v2R v3I v4I v5I σ => s_Tw_value_3 C IH v0R v1I v2R v3I v4I v5I σ⟩
theorem c_Tw_value (G : GX) (l : Launch) (v0R : Nat) (v1I : Int32) (v2R : Nat) (v3I : Int32) (σ : AM) : CT eI G l 2 y_Tw_value prog_12_method_29_code 7 ((some FieldType.int)) [.ref v0R, .int v1I, .ref v2R, .int v3I] σ (M_Tw_value v0R v1I v2R v3I σ) := by
  refine ct_of (by decide +kernel) (Nat.le_of_ble_eq_true rfl) (fun p e s m args below meth c C hin => ?_)
  refine x_lve (lv' := [(0, .ref v0R), (1, .int v1I), (2, .ref v2R), (3, .int v3I)]) rfl ?_
  intro r σ' h
  obtain ⟨n, hn⟩ := (lp_iff _ _ _).mp h
  exact (i_Tw_value C n).1 v0R v1I v2R v3I σ r σ' hn
/-! BellPlate$Tower.permits([II)Z -/
abbrev y_Tw_permits : MethodName := ⟨"BellPlate$Tower", "permits", "([II)Z"⟩
theorem k_Tw_permits : y_Tw_permits.cls ≠ "java/lang/invoke/MethodHandle" ∧ y_Tw_permits.cls ≠ "java/lang/invoke/VarHandle" ∧ (parseMethodDescriptor y_Tw_permits.desc).map (fun d => d.parameters.length) = some 2 := by decide +kernel
theorem d_Tw_permits_0 : decode prog_12_method_27_code 0 = .ok (.iconst 0, 1) := by decide +kernel
theorem d_Tw_permits_1 : decode prog_12_method_27_code 1 = .ok (.istore_n 3, 1) := by decide +kernel
theorem d_Tw_permits_2 : decode prog_12_method_27_code 2 = .ok (.iload_n 3, 1) := by decide +kernel
theorem d_Tw_permits_3 : decode prog_12_method_27_code 3 = .ok (.aload_n 0, 1) := by decide +kernel
theorem d_Tw_permits_4 : decode prog_12_method_27_code 4 = .ok (.getfield 46, 3) := by decide +kernel
theorem d_Tw_permits_7 : decode prog_12_method_27_code 7 = .ok (.if_icmp .ge 21, 3) := by decide +kernel
theorem d_Tw_permits_10 : decode prog_12_method_27_code 10 = .ok (.aload_n 0, 1) := by decide +kernel
theorem d_Tw_permits_11 : decode prog_12_method_27_code 11 = .ok (.iload_n 3, 1) := by decide +kernel
theorem d_Tw_permits_12 : decode prog_12_method_27_code 12 = .ok (.aload_n 1, 1) := by decide +kernel
theorem d_Tw_permits_13 : decode prog_12_method_27_code 13 = .ok (.iload_n 2, 1) := by decide +kernel
theorem d_Tw_permits_14 : decode prog_12_method_27_code 14 = .ok (.invokevirtual 77, 3) := by decide +kernel
theorem d_Tw_permits_17 : decode prog_12_method_27_code 17 = .ok (.ifCond .ne 5, 3) := by decide +kernel
theorem d_Tw_permits_20 : decode prog_12_method_27_code 20 = .ok (.iconst 0, 1) := by decide +kernel
theorem d_Tw_permits_21 : decode prog_12_method_27_code 21 = .ok (.ireturn, 1) := by decide +kernel
theorem d_Tw_permits_22 : decode prog_12_method_27_code 22 = .ok (.iinc 3 1, 3) := by decide +kernel
theorem d_Tw_permits_25 : decode prog_12_method_27_code 25 = .ok (.goto (-23), 3) := by decide +kernel
theorem d_Tw_permits_28 : decode prog_12_method_27_code 28 = .ok (.iconst 1, 1) := by decide +kernel
theorem d_Tw_permits_29 : decode prog_12_method_27_code 29 = .ok (.ireturn, 1) := by decide +kernel
abbrev S_Tw_permits : Type := Nat × Nat × Nat × Int32 × Int32 × AM
noncomputable def T_Tw_permits_0 (v0R : Nat) (v1R : Nat) (v2I : Int32) (σ : AM) : S_Tw_permits ⊕ Option (Int32 × AM) :=
  .inl (1, v0R, v1R, v2I, (0 : Int32), σ)
noncomputable def T_Tw_permits_1 (v0R : Nat) (v1R : Nat) (v2I : Int32) (v3I : Int32) (σ : AM) : S_Tw_permits ⊕ Option (Int32 × AM) :=
  gdT (okO σ v0R 1) <| if v3I < (aI σ v0R 10) then (bndT (M_Tw_value v0R v3I v1R v2I σ) fun r2 σ3 => if r2 = 0 then (.inr (some ((0 : Int32), σ3))) else (.inl (1, v0R, v1R, v2I, v3I + (1 : Int32), σ3))) else (.inr (some ((1 : Int32), σ)))
noncomputable def F_Tw_permits : S_Tw_permits → S_Tw_permits ⊕ Option (Int32 × AM) := fun s => match s.1 with
  | 0 => T_Tw_permits_0 (s.2.1) (s.2.2.1) (s.2.2.2.1) (s.2.2.2.2.2)
  | _ => T_Tw_permits_1 (s.2.1) (s.2.2.1) (s.2.2.2.1) (s.2.2.2.2.1) (s.2.2.2.2.2)
noncomputable def L_Tw_permits_0 (v0R : Nat) (v1R : Nat) (v2I : Int32) (σ : AM) : Option (Int32 × AM) := lp F_Tw_permits (0, v0R, v1R, v2I, 0, σ)
noncomputable def L_Tw_permits_1 (v0R : Nat) (v1R : Nat) (v2I : Int32) (v3I : Int32) (σ : AM) : Option (Int32 × AM) := lp F_Tw_permits (1, v0R, v1R, v2I, v3I, σ)
set_option maxRecDepth 20000 in
theorem E_Tw_permits_0 (v0R : Nat) (v1R : Nat) (v2I : Int32) (σ : AM) : L_Tw_permits_0 v0R v1R v2I σ = (L_Tw_permits_1 v0R v1R v2I ((0 : Int32)) σ) := by
  unfold L_Tw_permits_0
  rw [lp_eq]
  show lpK (lp F_Tw_permits) (T_Tw_permits_0 v0R v1R v2I σ) = _
  unfold T_Tw_permits_0
  simp only [lpK_ite, lq_inl, lq_inr, lpK_bnd, lpK_gd, lq_let]
  try rfl
set_option maxRecDepth 20000 in
theorem E_Tw_permits_1 (v0R : Nat) (v1R : Nat) (v2I : Int32) (v3I : Int32) (σ : AM) : L_Tw_permits_1 v0R v1R v2I v3I σ = (gd (okO σ v0R 1) <| if v3I < (aI σ v0R 10) then (bnd (M_Tw_value v0R v3I v1R v2I σ) fun r2 σ3 => if r2 = 0 then ((some ((0 : Int32), σ3))) else (L_Tw_permits_1 v0R v1R v2I (v3I + (1 : Int32)) σ3)) else ((some ((1 : Int32), σ)))) := by
  unfold L_Tw_permits_1
  rw [lp_eq]
  show lpK (lp F_Tw_permits) (T_Tw_permits_1 v0R v1R v2I v3I σ) = _
  unfold T_Tw_permits_1
  simp only [lpK_ite, lq_inl, lq_inr, lpK_bnd, lpK_gd, lq_let]
  try rfl
noncomputable def M_Tw_permits (v0R : Nat) (v1R : Nat) (v2I : Int32) (σ : AM) : Option (Int32 × AM) := mw σ (L_Tw_permits_0 v0R v1R v2I σ)
def I_Tw_permits (G : GX) (p : Program) (l : Launch) (e : Env) (s : State) (m : MethodId) (args : Array Value) (below : List Frame) (meth : Method) (c : Code) (z0 u0 n : Nat) : Prop :=
  (∀ (v0R : Nat) (v1R : Nat) (v2I : Int32) (σ : AM), VX (QM eI G args s below z0 u0) G p l e s m args below meth c 3 z0 u0 4 (lpn F_Tw_permits n (0, v0R, v1R, v2I, 0, σ)) 0 [(0, .ref v0R), (1, .ref v1R), (2, .int v2I)] [] σ) ∧
  (∀ (v0R : Nat) (v1R : Nat) (v2I : Int32) (v3I : Int32) (σ : AM), VX (QM eI G args s below z0 u0) G p l e s m args below meth c 3 z0 u0 4 (lpn F_Tw_permits n (1, v0R, v1R, v2I, v3I, σ)) 2 [(0, .ref v0R), (1, .ref v1R), (2, .int v2I), (3, .int v3I)] [] σ)
set_option maxRecDepth 20000 in
theorem s_Tw_permits_0 {G : GX} {p : Program} {l : Launch} {e : Env} {s : State} {m : MethodId} {args : Array Value} {below : List Frame} {meth : Method} {c : Code} {z0 u0 n : Nat} (C : Cx G p s m args meth c prog_12_method_27_code 4 "BellPlate$Tower" ((some FieldType.boolean))) (IH : I_Tw_permits G p l e s m args below meth c z0 u0 n) (v0R : Nat) (v1R : Nat) (v2I : Int32) (σ : AM) : VX (QM eI G args s below z0 u0) G p l e s m args below meth c 3 z0 u0 4 (lpK (lpn F_Tw_permits n) (T_Tw_permits_0 v0R v1R v2I σ)) 0 [(0, .ref v0R), (1, .ref v1R), (2, .int v2I)] [] σ := by
  unfold T_Tw_permits_0
  refine x_iconst (v := (0 : Int32)) C d_Tw_permits_0 (by decide) ?_
  refine x_istore_n (lv' := [(3, .int (0 : Int32)), (0, .ref v0R), (1, .ref v1R), (2, .int v2I)]) C d_Tw_permits_1 (by decide) rfl rfl ?_
  refine x_lv [1, 2, 3, 0] rfl ?_
  exact IH.2 v0R v1R v2I ((0 : Int32)) (σ)
set_option maxRecDepth 20000 in
theorem s_Tw_permits_1 {G : GX} {p : Program} {l : Launch} {e : Env} {s : State} {m : MethodId} {args : Array Value} {below : List Frame} {meth : Method} {c : Code} {z0 u0 n : Nat} (C : Cx G p s m args meth c prog_12_method_27_code 4 "BellPlate$Tower" ((some FieldType.boolean))) (IH : I_Tw_permits G p l e s m args below meth c z0 u0 n) (v0R : Nat) (v1R : Nat) (v2I : Int32) (v3I : Int32) (σ : AM) : VX (QM eI G args s below z0 u0) G p l e s m args below meth c 3 z0 u0 4 (lpK (lpn F_Tw_permits n) (T_Tw_permits_1 v0R v1R v2I v3I σ)) 2 [(0, .ref v0R), (1, .ref v1R), (2, .int v2I), (3, .int v3I)] [] σ := by
  unfold T_Tw_permits_1
  refine x_iload_n C d_Tw_permits_2 3 rfl ?_
  refine x_aload_n C d_Tw_permits_3 0 rfl ?_
  refine x_gd (fun h1 => ?_)
  refine x_getI (k := 10) C (okO_iff.mp h1) rfl j0_ok (by decide) rfl w177 d_Tw_permits_4 ?_
  refine x_icmp_ge (tgt := 28) C d_Tw_permits_7 (by decide) (fun _ => ?_) (fun _ => ?_)
  · refine x_aload_n C d_Tw_permits_10 0 rfl ?_
    refine x_iload_n C d_Tw_permits_11 3 rfl ?_
    refine x_aload_n C d_Tw_permits_12 1 rfl ?_
    refine x_iload_n C d_Tw_permits_13 2 rfl ?_
    refine x_callVI (As := [.int v3I, .ref v1R, .int v2I]) C (c_Tw_value G l v0R v3I v1R v2I σ) (okO_iff.mp h1) rfl w611 w0 w609 w612 w122 k_Tw_value rfl (by decide) (by decide) rfl (Nat.le_of_ble_eq_true rfl) d_Tw_permits_14 (fun r2 σ3 => ?_)
    refine x_if_ne (tgt := 22) C d_Tw_permits_17 (by decide) (fun _ => ?_) (fun _ => ?_)
    · refine x_iconst (v := (0 : Int32)) C d_Tw_permits_20 (by decide) ?_
      exact x_zret C (by decide) d_Tw_permits_21
    · refine x_iinc (v := v3I + (1 : Int32)) (lv' := [(3, .int (v3I + (1 : Int32))), (0, .ref v0R), (1, .ref v1R), (2, .int v2I)]) C d_Tw_permits_22 3 rfl rfl (by decide) rfl ?_
      refine x_goto (tgt := 2) C d_Tw_permits_25 (by decide) ?_
      refine x_lv [1, 2, 3, 0] rfl ?_
      exact IH.2 v0R v1R v2I (v3I + (1 : Int32)) (σ3)
  · refine x_iconst (v := (1 : Int32)) C d_Tw_permits_28 (by decide) ?_
    exact x_zret C (by decide) d_Tw_permits_29
theorem i_Tw_permits {G : GX} {p : Program} {l : Launch} {e : Env} {s : State} {m : MethodId} {args : Array Value} {below : List Frame} {meth : Method} {c : Code} {z0 u0 : Nat} (C : Cx G p s m args meth c prog_12_method_27_code 4 "BellPlate$Tower" ((some FieldType.boolean))) (n : Nat) : I_Tw_permits G p l e s m args below meth c z0 u0 n := by
  induction n with
  | zero => exact ⟨fun _ _ _ _ => x_none, fun _ _ _ _ _ => x_none⟩
  | succ n IH => exact ⟨fun v0R v1R v2I σ => s_Tw_permits_0 C IH v0R v1R v2I σ, fun v0R v1R v2I v3I σ => s_Tw_permits_1 C IH v0R v1R v2I v3I σ⟩
theorem c_Tw_permits (G : GX) (l : Launch) (v0R : Nat) (v1R : Nat) (v2I : Int32) (σ : AM) : CT eI G l 3 y_Tw_permits prog_12_method_27_code 4 ((some FieldType.boolean)) [.ref v0R, .ref v1R, .int v2I] σ (M_Tw_permits v0R v1R v2I σ) := by
  refine ct_of (by decide +kernel) (Nat.le_of_ble_eq_true rfl) (fun p e s m args below meth c C hin => ?_)
  refine x_lve (lv' := [(0, .ref v0R), (1, .ref v1R), (2, .int v2I)]) rfl ?_
  intro r σ' h
  obtain ⟨n, hn⟩ := (lp_iff _ _ _).mp h
  exact (i_Tw_permits C n).1 v0R v1R v2I σ r σ' hn
/-! BellPlate$Tower.<init>()V -/
abbrev y_Tw_init : MethodName := ⟨"BellPlate$Tower", "<init>", "()V"⟩
theorem k_Tw_init : y_Tw_init.cls ≠ "java/lang/invoke/MethodHandle" ∧ y_Tw_init.cls ≠ "java/lang/invoke/VarHandle" ∧ (parseMethodDescriptor y_Tw_init.desc).map (fun d => d.parameters.length) = some 0 := by decide +kernel
theorem d_Tw_init_0 : decode prog_12_method_1_code 0 = .ok (.aload_n 0, 1) := by decide +kernel
theorem d_Tw_init_1 : decode prog_12_method_1_code 1 = .ok (.invokespecial 5, 3) := by decide +kernel
theorem d_Tw_init_4 : decode prog_12_method_1_code 4 = .ok (.aload_n 0, 1) := by decide +kernel
theorem d_Tw_init_5 : decode prog_12_method_1_code 5 = .ok (.bipush 6, 2) := by decide +kernel
theorem d_Tw_init_7 : decode prog_12_method_1_code 7 = .ok (.newarray .long, 2) := by decide +kernel
theorem d_Tw_init_9 : decode prog_12_method_1_code 9 = .ok (.putfield 11, 3) := by decide +kernel
theorem d_Tw_init_12 : decode prog_12_method_1_code 12 = .ok (.aload_n 0, 1) := by decide +kernel
theorem d_Tw_init_13 : decode prog_12_method_1_code 13 = .ok (.sipush 1000, 3) := by decide +kernel
theorem d_Tw_init_16 : decode prog_12_method_1_code 16 = .ok (.newarray .int, 2) := by decide +kernel
theorem d_Tw_init_18 : decode prog_12_method_1_code 18 = .ok (.putfield 15, 3) := by decide +kernel
theorem d_Tw_init_21 : decode prog_12_method_1_code 21 = .ok (.aload_n 0, 1) := by decide +kernel
theorem d_Tw_init_22 : decode prog_12_method_1_code 22 = .ok (.iconst 5, 1) := by decide +kernel
theorem d_Tw_init_23 : decode prog_12_method_1_code 23 = .ok (.newarray .int, 2) := by decide +kernel
theorem d_Tw_init_25 : decode prog_12_method_1_code 25 = .ok (.putfield 19, 3) := by decide +kernel
theorem d_Tw_init_28 : decode prog_12_method_1_code 28 = .ok (.aload_n 0, 1) := by decide +kernel
theorem d_Tw_init_29 : decode prog_12_method_1_code 29 = .ok (.iconst 5, 1) := by decide +kernel
theorem d_Tw_init_30 : decode prog_12_method_1_code 30 = .ok (.newarray .int, 2) := by decide +kernel
theorem d_Tw_init_32 : decode prog_12_method_1_code 32 = .ok (.putfield 22, 3) := by decide +kernel
theorem d_Tw_init_35 : decode prog_12_method_1_code 35 = .ok (.aload_n 0, 1) := by decide +kernel
theorem d_Tw_init_36 : decode prog_12_method_1_code 36 = .ok (.bipush 64, 2) := by decide +kernel
theorem d_Tw_init_38 : decode prog_12_method_1_code 38 = .ok (.newarray .int, 2) := by decide +kernel
theorem d_Tw_init_40 : decode prog_12_method_1_code 40 = .ok (.putfield 27, 3) := by decide +kernel
theorem d_Tw_init_43 : decode prog_12_method_1_code 43 = .ok (.aload_n 0, 1) := by decide +kernel
theorem d_Tw_init_44 : decode prog_12_method_1_code 44 = .ok (.bipush 32, 2) := by decide +kernel
theorem d_Tw_init_46 : decode prog_12_method_1_code 46 = .ok (.newarray .int, 2) := by decide +kernel
theorem d_Tw_init_48 : decode prog_12_method_1_code 48 = .ok (.putfield 30, 3) := by decide +kernel
theorem d_Tw_init_51 : decode prog_12_method_1_code 51 = .ok (.aload_n 0, 1) := by decide +kernel
theorem d_Tw_init_52 : decode prog_12_method_1_code 52 = .ok (.iconst 3, 1) := by decide +kernel
theorem d_Tw_init_53 : decode prog_12_method_1_code 53 = .ok (.putfield 33, 3) := by decide +kernel
theorem d_Tw_init_56 : decode prog_12_method_1_code 56 = .ok (.aload_n 0, 1) := by decide +kernel
theorem d_Tw_init_57 : decode prog_12_method_1_code 57 = .ok (.bipush 10, 2) := by decide +kernel
theorem d_Tw_init_59 : decode prog_12_method_1_code 59 = .ok (.putfield 37, 3) := by decide +kernel
theorem d_Tw_init_62 : decode prog_12_method_1_code 62 = .ok (.return_, 1) := by decide +kernel
abbrev S_Tw_init : Type := Nat × Nat × AM
noncomputable def T_Tw_init_0 (v0R : Nat) (σ : AM) : S_Tw_init ⊕ Option (Unit × AM) :=
  gdT (okO σ v0R 1) <| letT (nw σ 102 (6 : Int32).toNatClampNeg) fun σ2 => gdT (okO σ2 v0R 1) <| letT (sR σ2 v0R 0 (aZ σ)) fun σ5 => letT (nw σ5 101 (1000 : Int32).toNatClampNeg) fun σ7 => gdT (okO σ7 v0R 1) <| letT (sR σ7 v0R 1 (aZ σ5)) fun σ10 => letT (nw σ10 101 (5 : Int32).toNatClampNeg) fun σ12 => gdT (okO σ12 v0R 1) <| letT (sR σ12 v0R 2 (aZ σ10)) fun σ15 => letT (nw σ15 101 (5 : Int32).toNatClampNeg) fun σ17 => gdT (okO σ17 v0R 1) <| letT (sR σ17 v0R 3 (aZ σ15)) fun σ20 => letT (nw σ20 101 (64 : Int32).toNatClampNeg) fun σ22 => gdT (okO σ22 v0R 1) <| letT (sR σ22 v0R 4 (aZ σ20)) fun σ25 => letT (nw σ25 101 (32 : Int32).toNatClampNeg) fun σ27 => gdT (okO σ27 v0R 1) <| letT (sR σ27 v0R 5 (aZ σ25)) fun σ30 => letT (sI σ30 v0R 8 (3 : Int32)) fun σ32 => letT (sI σ32 v0R 9 (10 : Int32)) fun σ34 => .inr (some ((), σ34))
noncomputable def F_Tw_init : S_Tw_init → S_Tw_init ⊕ Option (Unit × AM) := fun s => match s.1 with
  | _ => T_Tw_init_0 (s.2.1) (s.2.2)
noncomputable def L_Tw_init_0 (v0R : Nat) (σ : AM) : Option (Unit × AM) := lp F_Tw_init (0, v0R, σ)
set_option maxRecDepth 20000 in
theorem E_Tw_init_0 (v0R : Nat) (σ : AM) : L_Tw_init_0 v0R σ = (gd (okO σ v0R 1) <| letT (nw σ 102 (6 : Int32).toNatClampNeg) fun σ2 => gd (okO σ2 v0R 1) <| letT (sR σ2 v0R 0 (aZ σ)) fun σ5 => letT (nw σ5 101 (1000 : Int32).toNatClampNeg) fun σ7 => gd (okO σ7 v0R 1) <| letT (sR σ7 v0R 1 (aZ σ5)) fun σ10 => letT (nw σ10 101 (5 : Int32).toNatClampNeg) fun σ12 => gd (okO σ12 v0R 1) <| letT (sR σ12 v0R 2 (aZ σ10)) fun σ15 => letT (nw σ15 101 (5 : Int32).toNatClampNeg) fun σ17 => gd (okO σ17 v0R 1) <| letT (sR σ17 v0R 3 (aZ σ15)) fun σ20 => letT (nw σ20 101 (64 : Int32).toNatClampNeg) fun σ22 => gd (okO σ22 v0R 1) <| letT (sR σ22 v0R 4 (aZ σ20)) fun σ25 => letT (nw σ25 101 (32 : Int32).toNatClampNeg) fun σ27 => gd (okO σ27 v0R 1) <| letT (sR σ27 v0R 5 (aZ σ25)) fun σ30 => letT (sI σ30 v0R 8 (3 : Int32)) fun σ32 => letT (sI σ32 v0R 9 (10 : Int32)) fun σ34 => (some ((), σ34))) := by
  unfold L_Tw_init_0
  rw [lp_eq]
  show lpK (lp F_Tw_init) (T_Tw_init_0 v0R σ) = _
  unfold T_Tw_init_0
  simp only [lpK_ite, lq_inl, lq_inr, lpK_bnd, lpK_gd, lq_let]
  try rfl
noncomputable def M_Tw_init (v0R : Nat) (σ : AM) : Option (Unit × AM) := mw σ (L_Tw_init_0 v0R σ)
def I_Tw_init (G : GX) (p : Program) (l : Launch) (e : Env) (s : State) (m : MethodId) (args : Array Value) (below : List Frame) (meth : Method) (c : Code) (z0 u0 n : Nat) : Prop :=
  (∀ (v0R : Nat) (σ : AM), VX (QM eV G args s below z0 u0) G p l e s m args below meth c 1 z0 u0 1 (lpn F_Tw_init n (0, v0R, σ)) 0 [(0, .ref v0R)] [] σ)
set_option maxRecDepth 20000 in
theorem s_Tw_init_0 {G : GX} {p : Program} {l : Launch} {e : Env} {s : State} {m : MethodId} {args : Array Value} {below : List Frame} {meth : Method} {c : Code} {z0 u0 n : Nat} (C : Cx G p s m args meth c prog_12_method_1_code 1 "BellPlate$Tower" ((none))) (hin : meth.name = "<init>") (IH : I_Tw_init G p l e s m args below meth c z0 u0 n) (v0R : Nat) (σ : AM) : VX (QM eV G args s below z0 u0) G p l e s m args below meth c 1 z0 u0 1 (lpK (lpn F_Tw_init n) (T_Tw_init_0 v0R σ)) 0 [(0, .ref v0R)] [] σ := by
  unfold T_Tw_init_0
  refine x_aload_n C d_Tw_init_0 0 rfl ?_
  refine x_gd (fun h1 => ?_)
  refine x_obj C (okO_iff.mp h1) w166 w153 w154 (by decide) (Nat.le_of_ble_eq_true rfl) d_Tw_init_1 ?_
  refine x_aload_n C d_Tw_init_4 0 rfl ?_
  refine x_bipush (v := (6 : Int32)) C d_Tw_init_5 (by decide) ?_
  refine x_newaJ C w202 (by decide) (by decide) d_Tw_init_7 ?_
  refine x_letS (fun σ2 e3 => ?_)
  refine x_gd (fun h4 => ?_)
  refine x_putRF (k := 0) (kv := 102) C (okO_iff.mp h4) rfl j0_ok y0_ok n0_ok (by decide) rfl (fr_K e3) (by decide) rfl hin rfl rfl rfl w167 d_Tw_init_9 ?_
  refine x_letS (fun σ5 e6 => ?_)
  refine x_aload_n C d_Tw_init_12 0 rfl ?_
  refine x_sipush (v := (1000 : Int32)) C d_Tw_init_13 (by decide) ?_
  refine x_newaI C w203 (by decide) (by decide) d_Tw_init_16 ?_
  refine x_letS (fun σ7 e8 => ?_)
  refine x_gd (fun h9 => ?_)
  refine x_putRF (k := 1) (kv := 101) C (okO_iff.mp h9) rfl j0_ok y0_ok n0_ok (by decide) rfl (fr_K e8) (by decide) rfl hin rfl rfl rfl w168 d_Tw_init_18 ?_
  refine x_letS (fun σ10 e11 => ?_)
  refine x_aload_n C d_Tw_init_21 0 rfl ?_
  refine x_iconst (v := (5 : Int32)) C d_Tw_init_22 (by decide) ?_
  refine x_newaI C w203 (by decide) (by decide) d_Tw_init_23 ?_
  refine x_letS (fun σ12 e13 => ?_)
  refine x_gd (fun h14 => ?_)
  refine x_putRF (k := 2) (kv := 101) C (okO_iff.mp h14) rfl j0_ok y0_ok n0_ok (by decide) rfl (fr_K e13) (by decide) rfl hin rfl rfl rfl w169 d_Tw_init_25 ?_
  refine x_letS (fun σ15 e16 => ?_)
  refine x_aload_n C d_Tw_init_28 0 rfl ?_
  refine x_iconst (v := (5 : Int32)) C d_Tw_init_29 (by decide) ?_
  refine x_newaI C w203 (by decide) (by decide) d_Tw_init_30 ?_
  refine x_letS (fun σ17 e18 => ?_)
  refine x_gd (fun h19 => ?_)
  refine x_putRF (k := 3) (kv := 101) C (okO_iff.mp h19) rfl j0_ok y0_ok n0_ok (by decide) rfl (fr_K e18) (by decide) rfl hin rfl rfl rfl w170 d_Tw_init_32 ?_
  refine x_letS (fun σ20 e21 => ?_)
  refine x_aload_n C d_Tw_init_35 0 rfl ?_
  refine x_bipush (v := (64 : Int32)) C d_Tw_init_36 (by decide) ?_
  refine x_newaI C w203 (by decide) (by decide) d_Tw_init_38 ?_
  refine x_letS (fun σ22 e23 => ?_)
  refine x_gd (fun h24 => ?_)
  refine x_putRF (k := 4) (kv := 101) C (okO_iff.mp h24) rfl j0_ok y0_ok n0_ok (by decide) rfl (fr_K e23) (by decide) rfl hin rfl rfl rfl w171 d_Tw_init_40 ?_
  refine x_letS (fun σ25 e26 => ?_)
  refine x_aload_n C d_Tw_init_43 0 rfl ?_
  refine x_bipush (v := (32 : Int32)) C d_Tw_init_44 (by decide) ?_
  refine x_newaI C w203 (by decide) (by decide) d_Tw_init_46 ?_
  refine x_letS (fun σ27 e28 => ?_)
  refine x_gd (fun h29 => ?_)
  refine x_putRF (k := 5) (kv := 101) C (okO_iff.mp h29) rfl j0_ok y0_ok n0_ok (by decide) rfl (fr_K e28) (by decide) rfl hin rfl rfl rfl w172 d_Tw_init_48 ?_
  refine x_letS (fun σ30 e31 => ?_)
  refine x_aload_n C d_Tw_init_51 0 rfl ?_
  refine x_iconst (v := (3 : Int32)) C d_Tw_init_52 (by decide) ?_
  refine x_putI (k := 8) C (by first | exact (okO_iff.mp h29) | (rw [e31]; exact (okO_iff.mp h29))) rfl j0_ok y0_ok n0_ok (by decide) rfl rfl rfl rfl w175 d_Tw_init_53 ?_
  refine x_letS (fun σ32 e33 => ?_)
  refine x_aload_n C d_Tw_init_56 0 rfl ?_
  refine x_bipush (v := (10 : Int32)) C d_Tw_init_57 (by decide) ?_
  refine x_putI (k := 9) C (by first | exact (okO_iff.mp h29) | (rw [e33, e31]; exact (okO_iff.mp h29))) rfl j0_ok y0_ok n0_ok (by decide) rfl rfl rfl rfl w176 d_Tw_init_59 ?_
  refine x_letS (fun σ34 e35 => ?_)
  exact x_vret C d_Tw_init_62
theorem i_Tw_init {G : GX} {p : Program} {l : Launch} {e : Env} {s : State} {m : MethodId} {args : Array Value} {below : List Frame} {meth : Method} {c : Code} {z0 u0 : Nat} (C : Cx G p s m args meth c prog_12_method_1_code 1 "BellPlate$Tower" ((none))) (hin : meth.name = "<init>") (n : Nat) : I_Tw_init G p l e s m args below meth c z0 u0 n := by
  induction n with
  | zero => exact fun _ _ => x_none
  | succ n IH => exact fun v0R σ => s_Tw_init_0 C hin IH v0R σ
theorem c_Tw_init (G : GX) (l : Launch) (v0R : Nat) (σ : AM) : CT eV G l 1 y_Tw_init prog_12_method_1_code 1 (none) [.ref v0R] σ (M_Tw_init v0R σ) := by
  refine ct_of (by decide +kernel) (Nat.le_of_ble_eq_true rfl) (fun p e s m args below meth c C hin => ?_)
  refine x_lve (lv' := [(0, .ref v0R)]) rfl ?_
  intro r σ' h
  obtain ⟨n, hn⟩ := (lp_iff _ _ _).mp h
  exact (i_Tw_init C hin n) v0R σ r σ' hn
/-! BellPlate$Tower.wipe()V -/
abbrev y_Tw_wipe : MethodName := ⟨"BellPlate$Tower", "wipe", "()V"⟩
theorem k_Tw_wipe : y_Tw_wipe.cls ≠ "java/lang/invoke/MethodHandle" ∧ y_Tw_wipe.cls ≠ "java/lang/invoke/VarHandle" ∧ (parseMethodDescriptor y_Tw_wipe.desc).map (fun d => d.parameters.length) = some 0 := by decide +kernel
theorem d_Tw_wipe_0 : decode prog_12_method_2_code 0 = .ok (.aload_n 0, 1) := by decide +kernel
theorem d_Tw_wipe_1 : decode prog_12_method_2_code 1 = .ok (.iconst 0, 1) := by decide +kernel
theorem d_Tw_wipe_2 : decode prog_12_method_2_code 2 = .ok (.putfield 40, 3) := by decide +kernel
theorem d_Tw_wipe_5 : decode prog_12_method_2_code 5 = .ok (.aload_n 0, 1) := by decide +kernel
theorem d_Tw_wipe_6 : decode prog_12_method_2_code 6 = .ok (.iconst 0, 1) := by decide +kernel
theorem d_Tw_wipe_7 : decode prog_12_method_2_code 7 = .ok (.putfield 43, 3) := by decide +kernel
theorem d_Tw_wipe_10 : decode prog_12_method_2_code 10 = .ok (.aload_n 0, 1) := by decide +kernel
theorem d_Tw_wipe_11 : decode prog_12_method_2_code 11 = .ok (.iconst 3, 1) := by decide +kernel
theorem d_Tw_wipe_12 : decode prog_12_method_2_code 12 = .ok (.putfield 33, 3) := by decide +kernel
theorem d_Tw_wipe_15 : decode prog_12_method_2_code 15 = .ok (.aload_n 0, 1) := by decide +kernel
theorem d_Tw_wipe_16 : decode prog_12_method_2_code 16 = .ok (.bipush 10, 2) := by decide +kernel
theorem d_Tw_wipe_18 : decode prog_12_method_2_code 18 = .ok (.putfield 37, 3) := by decide +kernel
theorem d_Tw_wipe_21 : decode prog_12_method_2_code 21 = .ok (.aload_n 0, 1) := by decide +kernel
theorem d_Tw_wipe_22 : decode prog_12_method_2_code 22 = .ok (.iconst 0, 1) := by decide +kernel
theorem d_Tw_wipe_23 : decode prog_12_method_2_code 23 = .ok (.putfield 46, 3) := by decide +kernel
theorem d_Tw_wipe_26 : decode prog_12_method_2_code 26 = .ok (.aload_n 0, 1) := by decide +kernel
theorem d_Tw_wipe_27 : decode prog_12_method_2_code 27 = .ok (.getfield 19, 3) := by decide +kernel
theorem d_Tw_wipe_30 : decode prog_12_method_2_code 30 = .ok (.iconst 4, 1) := by decide +kernel
theorem d_Tw_wipe_31 : decode prog_12_method_2_code 31 = .ok (.iconst 0, 1) := by decide +kernel
theorem d_Tw_wipe_32 : decode prog_12_method_2_code 32 = .ok (.iastore, 1) := by decide +kernel
theorem d_Tw_wipe_33 : decode prog_12_method_2_code 33 = .ok (.aload_n 0, 1) := by decide +kernel
theorem d_Tw_wipe_34 : decode prog_12_method_2_code 34 = .ok (.getfield 22, 3) := by decide +kernel
theorem d_Tw_wipe_37 : decode prog_12_method_2_code 37 = .ok (.iconst 4, 1) := by decide +kernel
theorem d_Tw_wipe_38 : decode prog_12_method_2_code 38 = .ok (.iconst 0, 1) := by decide +kernel
theorem d_Tw_wipe_39 : decode prog_12_method_2_code 39 = .ok (.iastore, 1) := by decide +kernel
theorem d_Tw_wipe_40 : decode prog_12_method_2_code 40 = .ok (.return_, 1) := by decide +kernel
abbrev S_Tw_wipe : Type := Nat × Nat × AM
noncomputable def T_Tw_wipe_0 (v0R : Nat) (σ : AM) : S_Tw_wipe ⊕ Option (Unit × AM) :=
  gdT (okO σ v0R 1) <| letT (sI σ v0R 6 (0 : Int32)) fun σ2 => letT (sI σ2 v0R 7 (0 : Int32)) fun σ4 => letT (sI σ4 v0R 8 (3 : Int32)) fun σ6 => letT (sI σ6 v0R 9 (10 : Int32)) fun σ8 => letT (sI σ8 v0R 10 (0 : Int32)) fun σ10 => gdT (okO σ10 (aR σ10 v0R 2) 101) <| gdT (inB (4 : Int32) (aN σ10 (aR σ10 v0R 2))) <| letT (sI σ10 (aR σ10 v0R 2) (4 : Int32).toNatClampNeg (0 : Int32)) fun σ14 => gdT (okO σ14 (aR σ14 v0R 3) 101) <| gdT (inB (4 : Int32) (aN σ14 (aR σ14 v0R 3))) <| letT (sI σ14 (aR σ14 v0R 3) (4 : Int32).toNatClampNeg (0 : Int32)) fun σ18 => .inr (some ((), σ18))
noncomputable def F_Tw_wipe : S_Tw_wipe → S_Tw_wipe ⊕ Option (Unit × AM) := fun s => match s.1 with
  | _ => T_Tw_wipe_0 (s.2.1) (s.2.2)
noncomputable def L_Tw_wipe_0 (v0R : Nat) (σ : AM) : Option (Unit × AM) := lp F_Tw_wipe (0, v0R, σ)
set_option maxRecDepth 20000 in
theorem E_Tw_wipe_0 (v0R : Nat) (σ : AM) : L_Tw_wipe_0 v0R σ = (gd (okO σ v0R 1) <| letT (sI σ v0R 6 (0 : Int32)) fun σ2 => letT (sI σ2 v0R 7 (0 : Int32)) fun σ4 => letT (sI σ4 v0R 8 (3 : Int32)) fun σ6 => letT (sI σ6 v0R 9 (10 : Int32)) fun σ8 => letT (sI σ8 v0R 10 (0 : Int32)) fun σ10 => gd (okO σ10 (aR σ10 v0R 2) 101) <| gd (inB (4 : Int32) (aN σ10 (aR σ10 v0R 2))) <| letT (sI σ10 (aR σ10 v0R 2) (4 : Int32).toNatClampNeg (0 : Int32)) fun σ14 => gd (okO σ14 (aR σ14 v0R 3) 101) <| gd (inB (4 : Int32) (aN σ14 (aR σ14 v0R 3))) <| letT (sI σ14 (aR σ14 v0R 3) (4 : Int32).toNatClampNeg (0 : Int32)) fun σ18 => (some ((), σ18))) := by
  unfold L_Tw_wipe_0
  rw [lp_eq]
  show lpK (lp F_Tw_wipe) (T_Tw_wipe_0 v0R σ) = _
  unfold T_Tw_wipe_0
  simp only [lpK_ite, lq_inl, lq_inr, lpK_bnd, lpK_gd, lq_let]
  try rfl
noncomputable def M_Tw_wipe (v0R : Nat) (σ : AM) : Option (Unit × AM) := mw σ (L_Tw_wipe_0 v0R σ)
def I_Tw_wipe (G : GX) (p : Program) (l : Launch) (e : Env) (s : State) (m : MethodId) (args : Array Value) (below : List Frame) (meth : Method) (c : Code) (z0 u0 n : Nat) : Prop :=
  (∀ (v0R : Nat) (σ : AM), VX (QM eV G args s below z0 u0) G p l e s m args below meth c 0 z0 u0 1 (lpn F_Tw_wipe n (0, v0R, σ)) 0 [(0, .ref v0R)] [] σ)
set_option maxRecDepth 20000 in
theorem s_Tw_wipe_0 {G : GX} {p : Program} {l : Launch} {e : Env} {s : State} {m : MethodId} {args : Array Value} {below : List Frame} {meth : Method} {c : Code} {z0 u0 n : Nat} (C : Cx G p s m args meth c prog_12_method_2_code 1 "BellPlate$Tower" ((none))) (IH : I_Tw_wipe G p l e s m args below meth c z0 u0 n) (v0R : Nat) (σ : AM) : VX (QM eV G args s below z0 u0) G p l e s m args below meth c 0 z0 u0 1 (lpK (lpn F_Tw_wipe n) (T_Tw_wipe_0 v0R σ)) 0 [(0, .ref v0R)] [] σ := by
  unfold T_Tw_wipe_0
  refine x_aload_n C d_Tw_wipe_0 0 rfl ?_
  refine x_iconst (v := (0 : Int32)) C d_Tw_wipe_1 (by decide) ?_
  refine x_gd (fun h1 => ?_)
  refine x_putI (k := 6) C (okO_iff.mp h1) rfl j0_ok y0_ok n0_ok (by decide) rfl rfl rfl rfl w173 d_Tw_wipe_2 ?_
  refine x_letS (fun σ2 e3 => ?_)
  refine x_aload_n C d_Tw_wipe_5 0 rfl ?_
  refine x_iconst (v := (0 : Int32)) C d_Tw_wipe_6 (by decide) ?_
  refine x_putI (k := 7) C (by first | exact (okO_iff.mp h1) | (rw [e3]; exact (okO_iff.mp h1))) rfl j0_ok y0_ok n0_ok (by decide) rfl rfl rfl rfl w174 d_Tw_wipe_7 ?_
  refine x_letS (fun σ4 e5 => ?_)
  refine x_aload_n C d_Tw_wipe_10 0 rfl ?_
  refine x_iconst (v := (3 : Int32)) C d_Tw_wipe_11 (by decide) ?_
  refine x_putI (k := 8) C (by first | exact (okO_iff.mp h1) | (rw [e5, e3]; exact (okO_iff.mp h1))) rfl j0_ok y0_ok n0_ok (by decide) rfl rfl rfl rfl w175 d_Tw_wipe_12 ?_
  refine x_letS (fun σ6 e7 => ?_)
  refine x_aload_n C d_Tw_wipe_15 0 rfl ?_
  refine x_bipush (v := (10 : Int32)) C d_Tw_wipe_16 (by decide) ?_
  refine x_putI (k := 9) C (by first | exact (okO_iff.mp h1) | (rw [e7, e5, e3]; exact (okO_iff.mp h1))) rfl j0_ok y0_ok n0_ok (by decide) rfl rfl rfl rfl w176 d_Tw_wipe_18 ?_
  refine x_letS (fun σ8 e9 => ?_)
  refine x_aload_n C d_Tw_wipe_21 0 rfl ?_
  refine x_iconst (v := (0 : Int32)) C d_Tw_wipe_22 (by decide) ?_
  refine x_putI (k := 10) C (by first | exact (okO_iff.mp h1) | (rw [e9, e7, e5, e3]; exact (okO_iff.mp h1))) rfl j0_ok y0_ok n0_ok (by decide) rfl rfl rfl rfl w177 d_Tw_wipe_23 ?_
  refine x_letS (fun σ10 e11 => ?_)
  refine x_aload_n C d_Tw_wipe_26 0 rfl ?_
  refine x_gd (fun h12 => ?_)
  refine x_getR (k := 2) (kv := 101) C (by first | exact (okO_iff.mp h1) | (rw [e11, e9, e7, e5, e3]; exact (okO_iff.mp h1))) rfl j0_ok (by decide) rfl (okO_iff.mp h12) (by decide) w169 d_Tw_wipe_27 ?_
  refine x_iconst (v := (4 : Int32)) C d_Tw_wipe_30 (by decide) ?_
  refine x_iconst (v := (0 : Int32)) C d_Tw_wipe_31 (by decide) ?_
  refine x_gd (fun h13 => ?_)
  refine x_astI C (okO_iff.mp h12) (inB_iff.mp h13) d_Tw_wipe_32 ?_
  refine x_letS (fun σ14 e15 => ?_)
  refine x_aload_n C d_Tw_wipe_33 0 rfl ?_
  refine x_gd (fun h16 => ?_)
  refine x_getR (k := 3) (kv := 101) C (by first | exact (okO_iff.mp h1) | (rw [e15, e11, e9, e7, e5, e3]; exact (okO_iff.mp h1))) rfl j0_ok (by decide) rfl (okO_iff.mp h16) (by decide) w170 d_Tw_wipe_34 ?_
  refine x_iconst (v := (4 : Int32)) C d_Tw_wipe_37 (by decide) ?_
  refine x_iconst (v := (0 : Int32)) C d_Tw_wipe_38 (by decide) ?_
  refine x_gd (fun h17 => ?_)
  refine x_astI C (okO_iff.mp h16) (inB_iff.mp h17) d_Tw_wipe_39 ?_
  refine x_letS (fun σ18 e19 => ?_)
  exact x_vret C d_Tw_wipe_40
theorem i_Tw_wipe {G : GX} {p : Program} {l : Launch} {e : Env} {s : State} {m : MethodId} {args : Array Value} {below : List Frame} {meth : Method} {c : Code} {z0 u0 : Nat} (C : Cx G p s m args meth c prog_12_method_2_code 1 "BellPlate$Tower" ((none))) (n : Nat) : I_Tw_wipe G p l e s m args below meth c z0 u0 n := by
  induction n with
  | zero => exact fun _ _ => x_none
  | succ n IH => exact fun v0R σ => s_Tw_wipe_0 C IH v0R σ
theorem c_Tw_wipe (G : GX) (l : Launch) (v0R : Nat) (σ : AM) : CT eV G l 0 y_Tw_wipe prog_12_method_2_code 1 (none) [.ref v0R] σ (M_Tw_wipe v0R σ) := by
  refine ct_of (by decide +kernel) (Nat.le_of_ble_eq_true rfl) (fun p e s m args below meth c C hin => ?_)
  refine x_lve (lv' := [(0, .ref v0R)]) rfl ?_
  intro r σ' h
  obtain ⟨n, hn⟩ := (lp_iff _ _ _).mp h
  exact (i_Tw_wipe C n) v0R σ r σ' hn
/-! BellPlate$Tower.thingNamed(J)I -/
abbrev y_Tw_thingNamed : MethodName := ⟨"BellPlate$Tower", "thingNamed", "(J)I"⟩
theorem k_Tw_thingNamed : y_Tw_thingNamed.cls ≠ "java/lang/invoke/MethodHandle" ∧ y_Tw_thingNamed.cls ≠ "java/lang/invoke/VarHandle" ∧ (parseMethodDescriptor y_Tw_thingNamed.desc).map (fun d => d.parameters.length) = some 1 := by decide +kernel
theorem d_Tw_thingNamed_0 : decode prog_12_method_11_code 0 = .ok (.iconst 0, 1) := by decide +kernel
theorem d_Tw_thingNamed_1 : decode prog_12_method_11_code 1 = .ok (.istore_n 3, 1) := by decide +kernel
theorem d_Tw_thingNamed_2 : decode prog_12_method_11_code 2 = .ok (.iload_n 3, 1) := by decide +kernel
theorem d_Tw_thingNamed_3 : decode prog_12_method_11_code 3 = .ok (.aload_n 0, 1) := by decide +kernel
theorem d_Tw_thingNamed_4 : decode prog_12_method_11_code 4 = .ok (.getfield 43, 3) := by decide +kernel
theorem d_Tw_thingNamed_7 : decode prog_12_method_11_code 7 = .ok (.if_icmp .ge 22, 3) := by decide +kernel
theorem d_Tw_thingNamed_10 : decode prog_12_method_11_code 10 = .ok (.aload_n 0, 1) := by decide +kernel
theorem d_Tw_thingNamed_11 : decode prog_12_method_11_code 11 = .ok (.getfield 11, 3) := by decide +kernel
theorem d_Tw_thingNamed_14 : decode prog_12_method_11_code 14 = .ok (.iload_n 3, 1) := by decide +kernel
theorem d_Tw_thingNamed_15 : decode prog_12_method_11_code 15 = .ok (.laload, 1) := by decide +kernel
theorem d_Tw_thingNamed_16 : decode prog_12_method_11_code 16 = .ok (.lload_n 1, 1) := by decide +kernel
theorem d_Tw_thingNamed_17 : decode prog_12_method_11_code 17 = .ok (.lcmp, 1) := by decide +kernel
theorem d_Tw_thingNamed_18 : decode prog_12_method_11_code 18 = .ok (.ifCond .ne 5, 3) := by decide +kernel
theorem d_Tw_thingNamed_21 : decode prog_12_method_11_code 21 = .ok (.iload_n 3, 1) := by decide +kernel
theorem d_Tw_thingNamed_22 : decode prog_12_method_11_code 22 = .ok (.ireturn, 1) := by decide +kernel
theorem d_Tw_thingNamed_23 : decode prog_12_method_11_code 23 = .ok (.iinc 3 1, 3) := by decide +kernel
theorem d_Tw_thingNamed_26 : decode prog_12_method_11_code 26 = .ok (.goto (-24), 3) := by decide +kernel
theorem d_Tw_thingNamed_29 : decode prog_12_method_11_code 29 = .ok (.iconst (-1), 1) := by decide +kernel
theorem d_Tw_thingNamed_30 : decode prog_12_method_11_code 30 = .ok (.ireturn, 1) := by decide +kernel
abbrev S_Tw_thingNamed : Type := Nat × Nat × Int64 × Int32 × AM
noncomputable def T_Tw_thingNamed_0 (v0R : Nat) (v1J : Int64) (σ : AM) : S_Tw_thingNamed ⊕ Option (Int32 × AM) :=
  .inl (1, v0R, v1J, (0 : Int32), σ)
noncomputable def T_Tw_thingNamed_1 (v0R : Nat) (v1J : Int64) (v3I : Int32) (σ : AM) : S_Tw_thingNamed ⊕ Option (Int32 × AM) :=
  gdT (okO σ v0R 1) <| if v3I < (aI σ v0R 7) then (gdT (okO σ (aR σ v0R 0) 102) <| gdT (inB v3I (aN σ (aR σ v0R 0))) <| if (lg_cmp (aL σ (aR σ v0R 0) v3I.toNatClampNeg) v1J) = 0 then (.inr (some (v3I, σ))) else (.inl (1, v0R, v1J, v3I + (1 : Int32), σ))) else (.inr (some (((-1) : Int32), σ)))
noncomputable def F_Tw_thingNamed : S_Tw_thingNamed → S_Tw_thingNamed ⊕ Option (Int32 × AM) := fun s => match s.1 with
  | 0 => T_Tw_thingNamed_0 (s.2.1) (s.2.2.1) (s.2.2.2.2)
  | _ => T_Tw_thingNamed_1 (s.2.1) (s.2.2.1) (s.2.2.2.1) (s.2.2.2.2)
noncomputable def L_Tw_thingNamed_0 (v0R : Nat) (v1J : Int64) (σ : AM) : Option (Int32 × AM) := lp F_Tw_thingNamed (0, v0R, v1J, 0, σ)
noncomputable def L_Tw_thingNamed_1 (v0R : Nat) (v1J : Int64) (v3I : Int32) (σ : AM) : Option (Int32 × AM) := lp F_Tw_thingNamed (1, v0R, v1J, v3I, σ)
set_option maxRecDepth 20000 in
theorem E_Tw_thingNamed_0 (v0R : Nat) (v1J : Int64) (σ : AM) : L_Tw_thingNamed_0 v0R v1J σ = (L_Tw_thingNamed_1 v0R v1J ((0 : Int32)) σ) := by
  unfold L_Tw_thingNamed_0
  rw [lp_eq]
  show lpK (lp F_Tw_thingNamed) (T_Tw_thingNamed_0 v0R v1J σ) = _
  unfold T_Tw_thingNamed_0
  simp only [lpK_ite, lq_inl, lq_inr, lpK_bnd, lpK_gd, lq_let]
  try rfl
set_option maxRecDepth 20000 in
theorem E_Tw_thingNamed_1 (v0R : Nat) (v1J : Int64) (v3I : Int32) (σ : AM) : L_Tw_thingNamed_1 v0R v1J v3I σ = (gd (okO σ v0R 1) <| if v3I < (aI σ v0R 7) then (gd (okO σ (aR σ v0R 0) 102) <| gd (inB v3I (aN σ (aR σ v0R 0))) <| if (lg_cmp (aL σ (aR σ v0R 0) v3I.toNatClampNeg) v1J) = 0 then ((some (v3I, σ))) else (L_Tw_thingNamed_1 v0R v1J (v3I + (1 : Int32)) σ)) else ((some (((-1) : Int32), σ)))) := by
  unfold L_Tw_thingNamed_1
  rw [lp_eq]
  show lpK (lp F_Tw_thingNamed) (T_Tw_thingNamed_1 v0R v1J v3I σ) = _
  unfold T_Tw_thingNamed_1
  simp only [lpK_ite, lq_inl, lq_inr, lpK_bnd, lpK_gd, lq_let]
  try rfl
noncomputable def M_Tw_thingNamed (v0R : Nat) (v1J : Int64) (σ : AM) : Option (Int32 × AM) := mw σ (L_Tw_thingNamed_0 v0R v1J σ)
def I_Tw_thingNamed (G : GX) (p : Program) (l : Launch) (e : Env) (s : State) (m : MethodId) (args : Array Value) (below : List Frame) (meth : Method) (c : Code) (z0 u0 n : Nat) : Prop :=
  (∀ (v0R : Nat) (v1J : Int64) (σ : AM), VX (QM eI G args s below z0 u0) G p l e s m args below meth c 0 z0 u0 4 (lpn F_Tw_thingNamed n (0, v0R, v1J, 0, σ)) 0 [(0, .ref v0R), (1, .long v1J)] [] σ) ∧
  (∀ (v0R : Nat) (v1J : Int64) (v3I : Int32) (σ : AM), VX (QM eI G args s below z0 u0) G p l e s m args below meth c 0 z0 u0 4 (lpn F_Tw_thingNamed n (1, v0R, v1J, v3I, σ)) 2 [(0, .ref v0R), (1, .long v1J), (3, .int v3I)] [] σ)
set_option maxRecDepth 20000 in
theorem s_Tw_thingNamed_0 {G : GX} {p : Program} {l : Launch} {e : Env} {s : State} {m : MethodId} {args : Array Value} {below : List Frame} {meth : Method} {c : Code} {z0 u0 n : Nat} (C : Cx G p s m args meth c prog_12_method_11_code 4 "BellPlate$Tower" ((some FieldType.int))) (IH : I_Tw_thingNamed G p l e s m args below meth c z0 u0 n) (v0R : Nat) (v1J : Int64) (σ : AM) : VX (QM eI G args s below z0 u0) G p l e s m args below meth c 0 z0 u0 4 (lpK (lpn F_Tw_thingNamed n) (T_Tw_thingNamed_0 v0R v1J σ)) 0 [(0, .ref v0R), (1, .long v1J)] [] σ := by
  unfold T_Tw_thingNamed_0
  refine x_iconst (v := (0 : Int32)) C d_Tw_thingNamed_0 (by decide) ?_
  refine x_istore_n (lv' := [(3, .int (0 : Int32)), (0, .ref v0R), (1, .long v1J)]) C d_Tw_thingNamed_1 (by decide) rfl rfl ?_
  refine x_lv [1, 2, 0] rfl ?_
  exact IH.2 v0R v1J ((0 : Int32)) (σ)
set_option maxRecDepth 20000 in
theorem s_Tw_thingNamed_1 {G : GX} {p : Program} {l : Launch} {e : Env} {s : State} {m : MethodId} {args : Array Value} {below : List Frame} {meth : Method} {c : Code} {z0 u0 n : Nat} (C : Cx G p s m args meth c prog_12_method_11_code 4 "BellPlate$Tower" ((some FieldType.int))) (IH : I_Tw_thingNamed G p l e s m args below meth c z0 u0 n) (v0R : Nat) (v1J : Int64) (v3I : Int32) (σ : AM) : VX (QM eI G args s below z0 u0) G p l e s m args below meth c 0 z0 u0 4 (lpK (lpn F_Tw_thingNamed n) (T_Tw_thingNamed_1 v0R v1J v3I σ)) 2 [(0, .ref v0R), (1, .long v1J), (3, .int v3I)] [] σ := by
  unfold T_Tw_thingNamed_1
  refine x_iload_n C d_Tw_thingNamed_2 2 rfl ?_
  refine x_aload_n C d_Tw_thingNamed_3 0 rfl ?_
  refine x_gd (fun h1 => ?_)
  refine x_getI (k := 7) C (okO_iff.mp h1) rfl j0_ok (by decide) rfl w174 d_Tw_thingNamed_4 ?_
  refine x_icmp_ge (tgt := 29) C d_Tw_thingNamed_7 (by decide) (fun _ => ?_) (fun _ => ?_)
  · refine x_aload_n C d_Tw_thingNamed_10 0 rfl ?_
    refine x_gd (fun h2 => ?_)
    refine x_getR (k := 0) (kv := 102) C (okO_iff.mp h1) rfl j0_ok (by decide) rfl (okO_iff.mp h2) (by decide) w167 d_Tw_thingNamed_11 ?_
    refine x_iload_n C d_Tw_thingNamed_14 2 rfl ?_
    refine x_gd (fun h3 => ?_)
    refine x_aldJ C (okO_iff.mp h2) (inB_iff.mp h3) d_Tw_thingNamed_15 ?_
    refine x_lload_n C d_Tw_thingNamed_16 1 rfl ?_
    refine x_lcmp C d_Tw_thingNamed_17 ?_
    refine x_if_ne (tgt := 23) C d_Tw_thingNamed_18 (by decide) (fun _ => ?_) (fun _ => ?_)
    · refine x_iload_n C d_Tw_thingNamed_21 2 rfl ?_
      exact x_iret C d_Tw_thingNamed_22
    · refine x_iinc (v := v3I + (1 : Int32)) (lv' := [(3, .int (v3I + (1 : Int32))), (0, .ref v0R), (1, .long v1J)]) C d_Tw_thingNamed_23 2 rfl rfl (by decide) rfl ?_
      refine x_goto (tgt := 2) C d_Tw_thingNamed_26 (by decide) ?_
      refine x_lv [1, 2, 0] rfl ?_
      exact IH.2 v0R v1J (v3I + (1 : Int32)) (σ)
  · refine x_iconst (v := ((-1) : Int32)) C d_Tw_thingNamed_29 (by decide) ?_
    exact x_iret C d_Tw_thingNamed_30
theorem i_Tw_thingNamed {G : GX} {p : Program} {l : Launch} {e : Env} {s : State} {m : MethodId} {args : Array Value} {below : List Frame} {meth : Method} {c : Code} {z0 u0 : Nat} (C : Cx G p s m args meth c prog_12_method_11_code 4 "BellPlate$Tower" ((some FieldType.int))) (n : Nat) : I_Tw_thingNamed G p l e s m args below meth c z0 u0 n := by
  induction n with
  | zero => exact ⟨fun _ _ _ => x_none, fun _ _ _ _ => x_none⟩
  | succ n IH => exact ⟨fun v0R v1J σ => s_Tw_thingNamed_0 C IH v0R v1J σ, fun v0R v1J v3I σ => s_Tw_thingNamed_1 C IH v0R v1J v3I σ⟩
theorem c_Tw_thingNamed (G : GX) (l : Launch) (v0R : Nat) (v1J : Int64) (σ : AM) : CT eI G l 0 y_Tw_thingNamed prog_12_method_11_code 4 ((some FieldType.int)) [.ref v0R, .long v1J] σ (M_Tw_thingNamed v0R v1J σ) := by
  refine ct_of (by decide +kernel) (Nat.le_of_ble_eq_true rfl) (fun p e s m args below meth c C hin => ?_)
  refine x_lve (lv' := [(0, .ref v0R), (1, .long v1J)]) rfl ?_
  intro r σ' h
  obtain ⟨n, hn⟩ := (lp_iff _ _ _).mp h
  exact (i_Tw_thingNamed C n).1 v0R v1J σ r σ' hn
/-! BellPlate$Tower.addThing(J)V -/
abbrev y_Tw_addThing : MethodName := ⟨"BellPlate$Tower", "addThing", "(J)V"⟩
theorem k_Tw_addThing : y_Tw_addThing.cls ≠ "java/lang/invoke/MethodHandle" ∧ y_Tw_addThing.cls ≠ "java/lang/invoke/VarHandle" ∧ (parseMethodDescriptor y_Tw_addThing.desc).map (fun d => d.parameters.length) = some 1 := by decide +kernel
theorem d_Tw_addThing_0 : decode prog_12_method_10_code 0 = .ok (.aload_n 0, 1) := by decide +kernel
theorem d_Tw_addThing_1 : decode prog_12_method_10_code 1 = .ok (.getfield 43, 3) := by decide +kernel
theorem d_Tw_addThing_4 : decode prog_12_method_10_code 4 = .ok (.bipush 6, 2) := by decide +kernel
theorem d_Tw_addThing_6 : decode prog_12_method_10_code 6 = .ok (.if_icmp .ge 23, 3) := by decide +kernel
theorem d_Tw_addThing_9 : decode prog_12_method_10_code 9 = .ok (.aload_n 0, 1) := by decide +kernel
theorem d_Tw_addThing_10 : decode prog_12_method_10_code 10 = .ok (.getfield 11, 3) := by decide +kernel
theorem d_Tw_addThing_13 : decode prog_12_method_10_code 13 = .ok (.aload_n 0, 1) := by decide +kernel
theorem d_Tw_addThing_14 : decode prog_12_method_10_code 14 = .ok (.getfield 43, 3) := by decide +kernel
theorem d_Tw_addThing_17 : decode prog_12_method_10_code 17 = .ok (.lload_n 1, 1) := by decide +kernel
theorem d_Tw_addThing_18 : decode prog_12_method_10_code 18 = .ok (.lastore, 1) := by decide +kernel
theorem d_Tw_addThing_19 : decode prog_12_method_10_code 19 = .ok (.aload_n 0, 1) := by decide +kernel
theorem d_Tw_addThing_20 : decode prog_12_method_10_code 20 = .ok (.dup, 1) := by decide +kernel
theorem d_Tw_addThing_21 : decode prog_12_method_10_code 21 = .ok (.getfield 43, 3) := by decide +kernel
theorem d_Tw_addThing_24 : decode prog_12_method_10_code 24 = .ok (.iconst 1, 1) := by decide +kernel
theorem d_Tw_addThing_25 : decode prog_12_method_10_code 25 = .ok (.iadd, 1) := by decide +kernel
theorem d_Tw_addThing_26 : decode prog_12_method_10_code 26 = .ok (.putfield 43, 3) := by decide +kernel
theorem d_Tw_addThing_29 : decode prog_12_method_10_code 29 = .ok (.return_, 1) := by decide +kernel
abbrev S_Tw_addThing : Type := Nat × Nat × Int64 × AM
noncomputable def T_Tw_addThing_0 (v0R : Nat) (v1J : Int64) (σ : AM) : S_Tw_addThing ⊕ Option (Unit × AM) :=
  gdT (okO σ v0R 1) <| if (aI σ v0R 7) < (6 : Int32) then (gdT (okO σ (aR σ v0R 0) 102) <| gdT (inB (aI σ v0R 7) (aN σ (aR σ v0R 0))) <| letT (sL σ (aR σ v0R 0) (aI σ v0R 7).toNatClampNeg v1J) fun σ4 => letT (sI σ4 v0R 7 ((aI σ4 v0R 7) + (1 : Int32))) fun σ6 => .inl (1, 0, 0, σ6)) else (.inl (1, 0, 0, σ))
noncomputable def T_Tw_addThing_1  (σ : AM) : S_Tw_addThing ⊕ Option (Unit × AM) :=
  .inr (some ((), σ))
noncomputable def F_Tw_addThing : S_Tw_addThing → S_Tw_addThing ⊕ Option (Unit × AM) := fun s => match s.1 with
  | 0 => T_Tw_addThing_0 (s.2.1) (s.2.2.1) (s.2.2.2)
  | _ => T_Tw_addThing_1  (s.2.2.2)
noncomputable def L_Tw_addThing_0 (v0R : Nat) (v1J : Int64) (σ : AM) : Option (Unit × AM) := lp F_Tw_addThing (0, v0R, v1J, σ)
noncomputable def L_Tw_addThing_1  (σ : AM) : Option (Unit × AM) := lp F_Tw_addThing (1, 0, 0, σ)
set_option maxRecDepth 20000 in
theorem E_Tw_addThing_0 (v0R : Nat) (v1J : Int64) (σ : AM) : L_Tw_addThing_0 v0R v1J σ = (gd (okO σ v0R 1) <| if (aI σ v0R 7) < (6 : Int32) then (gd (okO σ (aR σ v0R 0) 102) <| gd (inB (aI σ v0R 7) (aN σ (aR σ v0R 0))) <| letT (sL σ (aR σ v0R 0) (aI σ v0R 7).toNatClampNeg v1J) fun σ4 => letT (sI σ4 v0R 7 ((aI σ4 v0R 7) + (1 : Int32))) fun σ6 => L_Tw_addThing_1 σ6) else (L_Tw_addThing_1 σ)) := by
  unfold L_Tw_addThing_0
  rw [lp_eq]
  show lpK (lp F_Tw_addThing) (T_Tw_addThing_0 v0R v1J σ) = _
  unfold T_Tw_addThing_0
  simp only [lpK_ite, lq_inl, lq_inr, lpK_bnd, lpK_gd, lq_let]
  try rfl
set_option maxRecDepth 20000 in
theorem E_Tw_addThing_1  (σ : AM) : L_Tw_addThing_1  σ = ((some ((), σ))) := by
  unfold L_Tw_addThing_1
  rw [lp_eq]
  show lpK (lp F_Tw_addThing) (T_Tw_addThing_1  σ) = _
  unfold T_Tw_addThing_1
  simp only [lpK_ite, lq_inl, lq_inr, lpK_bnd, lpK_gd, lq_let]
  try rfl
noncomputable def M_Tw_addThing (v0R : Nat) (v1J : Int64) (σ : AM) : Option (Unit × AM) := mw σ (L_Tw_addThing_0 v0R v1J σ)
def I_Tw_addThing (G : GX) (p : Program) (l : Launch) (e : Env) (s : State) (m : MethodId) (args : Array Value) (below : List Frame) (meth : Method) (c : Code) (z0 u0 n : Nat) : Prop :=
  (∀ (v0R : Nat) (v1J : Int64) (σ : AM), VX (QM eV G args s below z0 u0) G p l e s m args below meth c 0 z0 u0 3 (lpn F_Tw_addThing n (0, v0R, v1J, σ)) 0 [(0, .ref v0R), (1, .long v1J)] [] σ) ∧
  (∀ (σ : AM), VX (QM eV G args s below z0 u0) G p l e s m args below meth c 0 z0 u0 3 (lpn F_Tw_addThing n (1, 0, 0, σ)) 29 [] [] σ)
set_option maxRecDepth 20000 in
theorem s_Tw_addThing_0 {G : GX} {p : Program} {l : Launch} {e : Env} {s : State} {m : MethodId} {args : Array Value} {below : List Frame} {meth : Method} {c : Code} {z0 u0 n : Nat} (C : Cx G p s m args meth c prog_12_method_10_code 3 "BellPlate$Tower" ((none))) (IH : I_Tw_addThing G p l e s m args below meth c z0 u0 n) (v0R : Nat) (v1J : Int64) (σ : AM) : VX (QM eV G args s below z0 u0) G p l e s m args below meth c 0 z0 u0 3 (lpK (lpn F_Tw_addThing n) (T_Tw_addThing_0 v0R v1J σ)) 0 [(0, .ref v0R), (1, .long v1J)] [] σ := by
  unfold T_Tw_addThing_0
  refine x_aload_n C d_Tw_addThing_0 0 rfl ?_
  refine x_gd (fun h1 => ?_)
  refine x_getI (k := 7) C (okO_iff.mp h1) rfl j0_ok (by decide) rfl w174 d_Tw_addThing_1 ?_
  refine x_bipush (v := (6 : Int32)) C d_Tw_addThing_4 (by decide) ?_
  refine x_icmp_ge (tgt := 29) C d_Tw_addThing_6 (by decide) (fun _ => ?_) (fun _ => ?_)
  · refine x_aload_n C d_Tw_addThing_9 0 rfl ?_
    refine x_gd (fun h2 => ?_)
    refine x_getR (k := 0) (kv := 102) C (okO_iff.mp h1) rfl j0_ok (by decide) rfl (okO_iff.mp h2) (by decide) w167 d_Tw_addThing_10 ?_
    refine x_aload_n C d_Tw_addThing_13 0 rfl ?_
    refine x_getI (k := 7) C (okO_iff.mp h1) rfl j0_ok (by decide) rfl w174 d_Tw_addThing_14 ?_
    refine x_lload_n C d_Tw_addThing_17 1 rfl ?_
    refine x_gd (fun h3 => ?_)
    refine x_astJ C (okO_iff.mp h2) (inB_iff.mp h3) d_Tw_addThing_18 ?_
    refine x_letS (fun σ4 e5 => ?_)
    refine x_aload_n C d_Tw_addThing_19 0 rfl ?_
    refine x_dup C d_Tw_addThing_20 rfl ?_
    refine x_getI (k := 7) C (by first | exact (okO_iff.mp h1) | (rw [e5]; exact (okO_iff.mp h1))) rfl j0_ok (by decide) rfl w174 d_Tw_addThing_21 ?_
    refine x_iconst (v := (1 : Int32)) C d_Tw_addThing_24 (by decide) ?_
    refine x_iadd C d_Tw_addThing_25 ?_
    refine x_putI (k := 7) C (by first | exact (okO_iff.mp h1) | (rw [e5]; exact (okO_iff.mp h1))) rfl j0_ok y0_ok n0_ok (by decide) rfl rfl rfl rfl w174 d_Tw_addThing_26 ?_
    refine x_letS (fun σ6 e7 => ?_)
    refine x_lv [] rfl ?_
    exact IH.2  (σ6)
  · refine x_lv [] rfl ?_
    exact IH.2  (σ)
set_option maxRecDepth 20000 in
theorem s_Tw_addThing_1 {G : GX} {p : Program} {l : Launch} {e : Env} {s : State} {m : MethodId} {args : Array Value} {below : List Frame} {meth : Method} {c : Code} {z0 u0 n : Nat} (C : Cx G p s m args meth c prog_12_method_10_code 3 "BellPlate$Tower" ((none))) (IH : I_Tw_addThing G p l e s m args below meth c z0 u0 n)  (σ : AM) : VX (QM eV G args s below z0 u0) G p l e s m args below meth c 0 z0 u0 3 (lpK (lpn F_Tw_addThing n) (T_Tw_addThing_1  σ)) 29 [] [] σ := by
  unfold T_Tw_addThing_1
  exact x_vret C d_Tw_addThing_29
theorem i_Tw_addThing {G : GX} {p : Program} {l : Launch} {e : Env} {s : State} {m : MethodId} {args : Array Value} {below : List Frame} {meth : Method} {c : Code} {z0 u0 : Nat} (C : Cx G p s m args meth c prog_12_method_10_code 3 "BellPlate$Tower" ((none))) (n : Nat) : I_Tw_addThing G p l e s m args below meth c z0 u0 n := by
  induction n with
  | zero => exact ⟨fun _ _ _ => x_none, fun _ => x_none⟩
  | succ n IH => exact ⟨fun v0R v1J σ => s_Tw_addThing_0 C IH v0R v1J σ, fun σ => s_Tw_addThing_1 C IH σ⟩
theorem c_Tw_addThing (G : GX) (l : Launch) (v0R : Nat) (v1J : Int64) (σ : AM) : CT eV G l 0 y_Tw_addThing prog_12_method_10_code 3 (none) [.ref v0R, .long v1J] σ (M_Tw_addThing v0R v1J σ) := by
  refine ct_of (by decide +kernel) (Nat.le_of_ble_eq_true rfl) (fun p e s m args below meth c C hin => ?_)
  refine x_lve (lv' := [(0, .ref v0R), (1, .long v1J)]) rfl ?_
  intro r σ' h
  obtain ⟨n, hn⟩ := (lp_iff _ _ _).mp h
  exact (i_Tw_addThing C n).1 v0R v1J σ r σ' hn
/-! BellPlate$Tower.setMost(I)V -/
abbrev y_Tw_setMost : MethodName := ⟨"BellPlate$Tower", "setMost", "(I)V"⟩
theorem k_Tw_setMost : y_Tw_setMost.cls ≠ "java/lang/invoke/MethodHandle" ∧ y_Tw_setMost.cls ≠ "java/lang/invoke/VarHandle" ∧ (parseMethodDescriptor y_Tw_setMost.desc).map (fun d => d.parameters.length) = some 1 := by decide +kernel
theorem d_Tw_setMost_0 : decode prog_12_method_8_code 0 = .ok (.aload_n 0, 1) := by decide +kernel
theorem d_Tw_setMost_1 : decode prog_12_method_8_code 1 = .ok (.iload_n 1, 1) := by decide +kernel
theorem d_Tw_setMost_2 : decode prog_12_method_8_code 2 = .ok (.putfield 33, 3) := by decide +kernel
theorem d_Tw_setMost_5 : decode prog_12_method_8_code 5 = .ok (.return_, 1) := by decide +kernel
abbrev S_Tw_setMost : Type := Nat × Nat × Int32 × AM
noncomputable def T_Tw_setMost_0 (v0R : Nat) (v1I : Int32) (σ : AM) : S_Tw_setMost ⊕ Option (Unit × AM) :=
  gdT (okO σ v0R 1) <| letT (sI σ v0R 8 v1I) fun σ2 => .inr (some ((), σ2))
noncomputable def F_Tw_setMost : S_Tw_setMost → S_Tw_setMost ⊕ Option (Unit × AM) := fun s => match s.1 with
  | _ => T_Tw_setMost_0 (s.2.1) (s.2.2.1) (s.2.2.2)
noncomputable def L_Tw_setMost_0 (v0R : Nat) (v1I : Int32) (σ : AM) : Option (Unit × AM) := lp F_Tw_setMost (0, v0R, v1I, σ)
set_option maxRecDepth 20000 in
theorem E_Tw_setMost_0 (v0R : Nat) (v1I : Int32) (σ : AM) : L_Tw_setMost_0 v0R v1I σ = (gd (okO σ v0R 1) <| letT (sI σ v0R 8 v1I) fun σ2 => (some ((), σ2))) := by
  unfold L_Tw_setMost_0
  rw [lp_eq]
  show lpK (lp F_Tw_setMost) (T_Tw_setMost_0 v0R v1I σ) = _
  unfold T_Tw_setMost_0
  simp only [lpK_ite, lq_inl, lq_inr, lpK_bnd, lpK_gd, lq_let]
  try rfl
noncomputable def M_Tw_setMost (v0R : Nat) (v1I : Int32) (σ : AM) : Option (Unit × AM) := mw σ (L_Tw_setMost_0 v0R v1I σ)
def I_Tw_setMost (G : GX) (p : Program) (l : Launch) (e : Env) (s : State) (m : MethodId) (args : Array Value) (below : List Frame) (meth : Method) (c : Code) (z0 u0 n : Nat) : Prop :=
  (∀ (v0R : Nat) (v1I : Int32) (σ : AM), VX (QM eV G args s below z0 u0) G p l e s m args below meth c 0 z0 u0 2 (lpn F_Tw_setMost n (0, v0R, v1I, σ)) 0 [(0, .ref v0R), (1, .int v1I)] [] σ)
set_option maxRecDepth 20000 in
theorem s_Tw_setMost_0 {G : GX} {p : Program} {l : Launch} {e : Env} {s : State} {m : MethodId} {args : Array Value} {below : List Frame} {meth : Method} {c : Code} {z0 u0 n : Nat} (C : Cx G p s m args meth c prog_12_method_8_code 2 "BellPlate$Tower" ((none))) (IH : I_Tw_setMost G p l e s m args below meth c z0 u0 n) (v0R : Nat) (v1I : Int32) (σ : AM) : VX (QM eV G args s below z0 u0) G p l e s m args below meth c 0 z0 u0 2 (lpK (lpn F_Tw_setMost n) (T_Tw_setMost_0 v0R v1I σ)) 0 [(0, .ref v0R), (1, .int v1I)] [] σ := by
  unfold T_Tw_setMost_0
  refine x_aload_n C d_Tw_setMost_0 0 rfl ?_
  refine x_iload_n C d_Tw_setMost_1 1 rfl ?_
  refine x_gd (fun h1 => ?_)
  refine x_putI (k := 8) C (okO_iff.mp h1) rfl j0_ok y0_ok n0_ok (by decide) rfl rfl rfl rfl w175 d_Tw_setMost_2 ?_
  refine x_letS (fun σ2 e3 => ?_)
  exact x_vret C d_Tw_setMost_5
theorem i_Tw_setMost {G : GX} {p : Program} {l : Launch} {e : Env} {s : State} {m : MethodId} {args : Array Value} {below : List Frame} {meth : Method} {c : Code} {z0 u0 : Nat} (C : Cx G p s m args meth c prog_12_method_8_code 2 "BellPlate$Tower" ((none))) (n : Nat) : I_Tw_setMost G p l e s m args below meth c z0 u0 n := by
  induction n with
  | zero => exact fun _ _ _ => x_none
  | succ n IH => exact fun v0R v1I σ => s_Tw_setMost_0 C IH v0R v1I σ
theorem c_Tw_setMost (G : GX) (l : Launch) (v0R : Nat) (v1I : Int32) (σ : AM) : CT eV G l 0 y_Tw_setMost prog_12_method_8_code 2 (none) [.ref v0R, .int v1I] σ (M_Tw_setMost v0R v1I σ) := by
  refine ct_of (by decide +kernel) (Nat.le_of_ble_eq_true rfl) (fun p e s m args below meth c C hin => ?_)
  refine x_lve (lv' := [(0, .ref v0R), (1, .int v1I)]) rfl ?_
  intro r σ' h
  obtain ⟨n, hn⟩ := (lp_iff _ _ _).mp h
  exact (i_Tw_setMost C n) v0R v1I σ r σ' hn
/-! BellPlate$Tower.setBar(I)V -/
abbrev y_Tw_setBar : MethodName := ⟨"BellPlate$Tower", "setBar", "(I)V"⟩
theorem k_Tw_setBar : y_Tw_setBar.cls ≠ "java/lang/invoke/MethodHandle" ∧ y_Tw_setBar.cls ≠ "java/lang/invoke/VarHandle" ∧ (parseMethodDescriptor y_Tw_setBar.desc).map (fun d => d.parameters.length) = some 1 := by decide +kernel
theorem d_Tw_setBar_0 : decode prog_12_method_9_code 0 = .ok (.aload_n 0, 1) := by decide +kernel
theorem d_Tw_setBar_1 : decode prog_12_method_9_code 1 = .ok (.iload_n 1, 1) := by decide +kernel
theorem d_Tw_setBar_2 : decode prog_12_method_9_code 2 = .ok (.putfield 37, 3) := by decide +kernel
theorem d_Tw_setBar_5 : decode prog_12_method_9_code 5 = .ok (.return_, 1) := by decide +kernel
abbrev S_Tw_setBar : Type := Nat × Nat × Int32 × AM
noncomputable def T_Tw_setBar_0 (v0R : Nat) (v1I : Int32) (σ : AM) : S_Tw_setBar ⊕ Option (Unit × AM) :=
  gdT (okO σ v0R 1) <| letT (sI σ v0R 9 v1I) fun σ2 => .inr (some ((), σ2))
noncomputable def F_Tw_setBar : S_Tw_setBar → S_Tw_setBar ⊕ Option (Unit × AM) := fun s => match s.1 with
  | _ => T_Tw_setBar_0 (s.2.1) (s.2.2.1) (s.2.2.2)
noncomputable def L_Tw_setBar_0 (v0R : Nat) (v1I : Int32) (σ : AM) : Option (Unit × AM) := lp F_Tw_setBar (0, v0R, v1I, σ)
set_option maxRecDepth 20000 in
theorem E_Tw_setBar_0 (v0R : Nat) (v1I : Int32) (σ : AM) : L_Tw_setBar_0 v0R v1I σ = (gd (okO σ v0R 1) <| letT (sI σ v0R 9 v1I) fun σ2 => (some ((), σ2))) := by
  unfold L_Tw_setBar_0
  rw [lp_eq]
  show lpK (lp F_Tw_setBar) (T_Tw_setBar_0 v0R v1I σ) = _
  unfold T_Tw_setBar_0
  simp only [lpK_ite, lq_inl, lq_inr, lpK_bnd, lpK_gd, lq_let]
  try rfl
noncomputable def M_Tw_setBar (v0R : Nat) (v1I : Int32) (σ : AM) : Option (Unit × AM) := mw σ (L_Tw_setBar_0 v0R v1I σ)
def I_Tw_setBar (G : GX) (p : Program) (l : Launch) (e : Env) (s : State) (m : MethodId) (args : Array Value) (below : List Frame) (meth : Method) (c : Code) (z0 u0 n : Nat) : Prop :=
  (∀ (v0R : Nat) (v1I : Int32) (σ : AM), VX (QM eV G args s below z0 u0) G p l e s m args below meth c 0 z0 u0 2 (lpn F_Tw_setBar n (0, v0R, v1I, σ)) 0 [(0, .ref v0R), (1, .int v1I)] [] σ)
set_option maxRecDepth 20000 in
theorem s_Tw_setBar_0 {G : GX} {p : Program} {l : Launch} {e : Env} {s : State} {m : MethodId} {args : Array Value} {below : List Frame} {meth : Method} {c : Code} {z0 u0 n : Nat} (C : Cx G p s m args meth c prog_12_method_9_code 2 "BellPlate$Tower" ((none))) (IH : I_Tw_setBar G p l e s m args below meth c z0 u0 n) (v0R : Nat) (v1I : Int32) (σ : AM) : VX (QM eV G args s below z0 u0) G p l e s m args below meth c 0 z0 u0 2 (lpK (lpn F_Tw_setBar n) (T_Tw_setBar_0 v0R v1I σ)) 0 [(0, .ref v0R), (1, .int v1I)] [] σ := by
  unfold T_Tw_setBar_0
  refine x_aload_n C d_Tw_setBar_0 0 rfl ?_
  refine x_iload_n C d_Tw_setBar_1 1 rfl ?_
  refine x_gd (fun h1 => ?_)
  refine x_putI (k := 9) C (okO_iff.mp h1) rfl j0_ok y0_ok n0_ok (by decide) rfl rfl rfl rfl w176 d_Tw_setBar_2 ?_
  refine x_letS (fun σ2 e3 => ?_)
  exact x_vret C d_Tw_setBar_5
theorem i_Tw_setBar {G : GX} {p : Program} {l : Launch} {e : Env} {s : State} {m : MethodId} {args : Array Value} {below : List Frame} {meth : Method} {c : Code} {z0 u0 : Nat} (C : Cx G p s m args meth c prog_12_method_9_code 2 "BellPlate$Tower" ((none))) (n : Nat) : I_Tw_setBar G p l e s m args below meth c z0 u0 n := by
  induction n with
  | zero => exact fun _ _ _ => x_none
  | succ n IH => exact fun v0R v1I σ => s_Tw_setBar_0 C IH v0R v1I σ
theorem c_Tw_setBar (G : GX) (l : Launch) (v0R : Nat) (v1I : Int32) (σ : AM) : CT eV G l 0 y_Tw_setBar prog_12_method_9_code 2 (none) [.ref v0R, .int v1I] σ (M_Tw_setBar v0R v1I σ) := by
  refine ct_of (by decide +kernel) (Nat.le_of_ble_eq_true rfl) (fun p e s m args below meth c C hin => ?_)
  refine x_lve (lv' := [(0, .ref v0R), (1, .int v1I)]) rfl ?_
  intro r σ' h
  obtain ⟨n, hn⟩ := (lp_iff _ _ _).mp h
  exact (i_Tw_setBar C n) v0R v1I σ r σ' hn
/-! BellPlate$Tower.allows()I -/
abbrev y_Tw_allows : MethodName := ⟨"BellPlate$Tower", "allows", "()I"⟩
theorem k_Tw_allows : y_Tw_allows.cls ≠ "java/lang/invoke/MethodHandle" ∧ y_Tw_allows.cls ≠ "java/lang/invoke/VarHandle" ∧ (parseMethodDescriptor y_Tw_allows.desc).map (fun d => d.parameters.length) = some 0 := by decide +kernel
theorem d_Tw_allows_0 : decode prog_12_method_7_code 0 = .ok (.aload_n 0, 1) := by decide +kernel
theorem d_Tw_allows_1 : decode prog_12_method_7_code 1 = .ok (.getfield 46, 3) := by decide +kernel
theorem d_Tw_allows_4 : decode prog_12_method_7_code 4 = .ok (.ireturn, 1) := by decide +kernel
abbrev S_Tw_allows : Type := Nat × Nat × AM
noncomputable def T_Tw_allows_0 (v0R : Nat) (σ : AM) : S_Tw_allows ⊕ Option (Int32 × AM) :=
  gdT (okO σ v0R 1) <| .inr (some ((aI σ v0R 10), σ))
noncomputable def F_Tw_allows : S_Tw_allows → S_Tw_allows ⊕ Option (Int32 × AM) := fun s => match s.1 with
  | _ => T_Tw_allows_0 (s.2.1) (s.2.2)
noncomputable def L_Tw_allows_0 (v0R : Nat) (σ : AM) : Option (Int32 × AM) := lp F_Tw_allows (0, v0R, σ)
set_option maxRecDepth 20000 in
theorem E_Tw_allows_0 (v0R : Nat) (σ : AM) : L_Tw_allows_0 v0R σ = (gd (okO σ v0R 1) <| (some ((aI σ v0R 10), σ))) := by
  unfold L_Tw_allows_0
  rw [lp_eq]
  show lpK (lp F_Tw_allows) (T_Tw_allows_0 v0R σ) = _
  unfold T_Tw_allows_0
  simp only [lpK_ite, lq_inl, lq_inr, lpK_bnd, lpK_gd, lq_let]
  try rfl
noncomputable def M_Tw_allows (v0R : Nat) (σ : AM) : Option (Int32 × AM) := mw σ (L_Tw_allows_0 v0R σ)
def I_Tw_allows (G : GX) (p : Program) (l : Launch) (e : Env) (s : State) (m : MethodId) (args : Array Value) (below : List Frame) (meth : Method) (c : Code) (z0 u0 n : Nat) : Prop :=
  (∀ (v0R : Nat) (σ : AM), VX (QM eI G args s below z0 u0) G p l e s m args below meth c 0 z0 u0 1 (lpn F_Tw_allows n (0, v0R, σ)) 0 [(0, .ref v0R)] [] σ)
set_option maxRecDepth 20000 in
theorem s_Tw_allows_0 {G : GX} {p : Program} {l : Launch} {e : Env} {s : State} {m : MethodId} {args : Array Value} {below : List Frame} {meth : Method} {c : Code} {z0 u0 n : Nat} (C : Cx G p s m args meth c prog_12_method_7_code 1 "BellPlate$Tower" ((some FieldType.int))) (IH : I_Tw_allows G p l e s m args below meth c z0 u0 n) (v0R : Nat) (σ : AM) : VX (QM eI G args s below z0 u0) G p l e s m args below meth c 0 z0 u0 1 (lpK (lpn F_Tw_allows n) (T_Tw_allows_0 v0R σ)) 0 [(0, .ref v0R)] [] σ := by
  unfold T_Tw_allows_0
  refine x_aload_n C d_Tw_allows_0 0 rfl ?_
  refine x_gd (fun h1 => ?_)
  refine x_getI (k := 10) C (okO_iff.mp h1) rfl j0_ok (by decide) rfl w177 d_Tw_allows_1 ?_
  exact x_iret C d_Tw_allows_4
theorem i_Tw_allows {G : GX} {p : Program} {l : Launch} {e : Env} {s : State} {m : MethodId} {args : Array Value} {below : List Frame} {meth : Method} {c : Code} {z0 u0 : Nat} (C : Cx G p s m args meth c prog_12_method_7_code 1 "BellPlate$Tower" ((some FieldType.int))) (n : Nat) : I_Tw_allows G p l e s m args below meth c z0 u0 n := by
  induction n with
  | zero => exact fun _ _ => x_none
  | succ n IH => exact fun v0R σ => s_Tw_allows_0 C IH v0R σ
theorem c_Tw_allows (G : GX) (l : Launch) (v0R : Nat) (σ : AM) : CT eI G l 0 y_Tw_allows prog_12_method_7_code 1 ((some FieldType.int)) [.ref v0R] σ (M_Tw_allows v0R σ) := by
  refine ct_of (by decide +kernel) (Nat.le_of_ble_eq_true rfl) (fun p e s m args below meth c C hin => ?_)
  refine x_lve (lv' := [(0, .ref v0R)]) rfl ?_
  intro r σ' h
  obtain ⟨n, hn⟩ := (lp_iff _ _ _).mp h
  exact (i_Tw_allows C n) v0R σ r σ' hn
/-! BellPlate$Tower.beginAllow()V -/
abbrev y_Tw_beginAllow : MethodName := ⟨"BellPlate$Tower", "beginAllow", "()V"⟩
theorem k_Tw_beginAllow : y_Tw_beginAllow.cls ≠ "java/lang/invoke/MethodHandle" ∧ y_Tw_beginAllow.cls ≠ "java/lang/invoke/VarHandle" ∧ (parseMethodDescriptor y_Tw_beginAllow.desc).map (fun d => d.parameters.length) = some 0 := by decide +kernel
theorem d_Tw_beginAllow_0 : decode prog_12_method_12_code 0 = .ok (.aload_n 0, 1) := by decide +kernel
theorem d_Tw_beginAllow_1 : decode prog_12_method_12_code 1 = .ok (.getfield 46, 3) := by decide +kernel
theorem d_Tw_beginAllow_4 : decode prog_12_method_12_code 4 = .ok (.iconst 4, 1) := by decide +kernel
theorem d_Tw_beginAllow_5 : decode prog_12_method_12_code 5 = .ok (.if_icmp .ge 16, 3) := by decide +kernel
theorem d_Tw_beginAllow_8 : decode prog_12_method_12_code 8 = .ok (.aload_n 0, 1) := by decide +kernel
theorem d_Tw_beginAllow_9 : decode prog_12_method_12_code 9 = .ok (.getfield 19, 3) := by decide +kernel
theorem d_Tw_beginAllow_12 : decode prog_12_method_12_code 12 = .ok (.aload_n 0, 1) := by decide +kernel
theorem d_Tw_beginAllow_13 : decode prog_12_method_12_code 13 = .ok (.getfield 46, 3) := by decide +kernel
theorem d_Tw_beginAllow_16 : decode prog_12_method_12_code 16 = .ok (.aload_n 0, 1) := by decide +kernel
theorem d_Tw_beginAllow_17 : decode prog_12_method_12_code 17 = .ok (.getfield 40, 3) := by decide +kernel
theorem d_Tw_beginAllow_20 : decode prog_12_method_12_code 20 = .ok (.iastore, 1) := by decide +kernel
theorem d_Tw_beginAllow_21 : decode prog_12_method_12_code 21 = .ok (.return_, 1) := by decide +kernel
abbrev S_Tw_beginAllow : Type := Nat × Nat × AM
noncomputable def T_Tw_beginAllow_0 (v0R : Nat) (σ : AM) : S_Tw_beginAllow ⊕ Option (Unit × AM) :=
  gdT (okO σ v0R 1) <| if (aI σ v0R 10) < (4 : Int32) then (gdT (okO σ (aR σ v0R 2) 101) <| gdT (inB (aI σ v0R 10) (aN σ (aR σ v0R 2))) <| letT (sI σ (aR σ v0R 2) (aI σ v0R 10).toNatClampNeg (aI σ v0R 6)) fun σ4 => .inl (1, 0, σ4)) else (.inl (1, 0, σ))
noncomputable def T_Tw_beginAllow_1  (σ : AM) : S_Tw_beginAllow ⊕ Option (Unit × AM) :=
  .inr (some ((), σ))
noncomputable def F_Tw_beginAllow : S_Tw_beginAllow → S_Tw_beginAllow ⊕ Option (Unit × AM) := fun s => match s.1 with
  | 0 => T_Tw_beginAllow_0 (s.2.1) (s.2.2)
  | _ => T_Tw_beginAllow_1  (s.2.2)
noncomputable def L_Tw_beginAllow_0 (v0R : Nat) (σ : AM) : Option (Unit × AM) := lp F_Tw_beginAllow (0, v0R, σ)
noncomputable def L_Tw_beginAllow_1  (σ : AM) : Option (Unit × AM) := lp F_Tw_beginAllow (1, 0, σ)
set_option maxRecDepth 20000 in
theorem E_Tw_beginAllow_0 (v0R : Nat) (σ : AM) : L_Tw_beginAllow_0 v0R σ = (gd (okO σ v0R 1) <| if (aI σ v0R 10) < (4 : Int32) then (gd (okO σ (aR σ v0R 2) 101) <| gd (inB (aI σ v0R 10) (aN σ (aR σ v0R 2))) <| letT (sI σ (aR σ v0R 2) (aI σ v0R 10).toNatClampNeg (aI σ v0R 6)) fun σ4 => L_Tw_beginAllow_1 σ4) else (L_Tw_beginAllow_1 σ)) := by
  unfold L_Tw_beginAllow_0
  rw [lp_eq]
  show lpK (lp F_Tw_beginAllow) (T_Tw_beginAllow_0 v0R σ) = _
  unfold T_Tw_beginAllow_0
  simp only [lpK_ite, lq_inl, lq_inr, lpK_bnd, lpK_gd, lq_let]
  try rfl
set_option maxRecDepth 20000 in
theorem E_Tw_beginAllow_1  (σ : AM) : L_Tw_beginAllow_1  σ = ((some ((), σ))) := by
  unfold L_Tw_beginAllow_1
  rw [lp_eq]
  show lpK (lp F_Tw_beginAllow) (T_Tw_beginAllow_1  σ) = _
  unfold T_Tw_beginAllow_1
  simp only [lpK_ite, lq_inl, lq_inr, lpK_bnd, lpK_gd, lq_let]
  try rfl
noncomputable def M_Tw_beginAllow (v0R : Nat) (σ : AM) : Option (Unit × AM) := mw σ (L_Tw_beginAllow_0 v0R σ)
def I_Tw_beginAllow (G : GX) (p : Program) (l : Launch) (e : Env) (s : State) (m : MethodId) (args : Array Value) (below : List Frame) (meth : Method) (c : Code) (z0 u0 n : Nat) : Prop :=
  (∀ (v0R : Nat) (σ : AM), VX (QM eV G args s below z0 u0) G p l e s m args below meth c 0 z0 u0 1 (lpn F_Tw_beginAllow n (0, v0R, σ)) 0 [(0, .ref v0R)] [] σ) ∧
  (∀ (σ : AM), VX (QM eV G args s below z0 u0) G p l e s m args below meth c 0 z0 u0 1 (lpn F_Tw_beginAllow n (1, 0, σ)) 21 [] [] σ)
set_option maxRecDepth 20000 in
theorem s_Tw_beginAllow_0 {G : GX} {p : Program} {l : Launch} {e : Env} {s : State} {m : MethodId} {args : Array Value} {below : List Frame} {meth : Method} {c : Code} {z0 u0 n : Nat} (C : Cx G p s m args meth c prog_12_method_12_code 1 "BellPlate$Tower" ((none))) (IH : I_Tw_beginAllow G p l e s m args below meth c z0 u0 n) (v0R : Nat) (σ : AM) : VX (QM eV G args s below z0 u0) G p l e s m args below meth c 0 z0 u0 1 (lpK (lpn F_Tw_beginAllow n) (T_Tw_beginAllow_0 v0R σ)) 0 [(0, .ref v0R)] [] σ := by
  unfold T_Tw_beginAllow_0
  refine x_aload_n C d_Tw_beginAllow_0 0 rfl ?_
  refine x_gd (fun h1 => ?_)
  refine x_getI (k := 10) C (okO_iff.mp h1) rfl j0_ok (by decide) rfl w177 d_Tw_beginAllow_1 ?_
  refine x_iconst (v := (4 : Int32)) C d_Tw_beginAllow_4 (by decide) ?_
  refine x_icmp_ge (tgt := 21) C d_Tw_beginAllow_5 (by decide) (fun _ => ?_) (fun _ => ?_)
  · refine x_aload_n C d_Tw_beginAllow_8 0 rfl ?_
    refine x_gd (fun h2 => ?_)
    refine x_getR (k := 2) (kv := 101) C (okO_iff.mp h1) rfl j0_ok (by decide) rfl (okO_iff.mp h2) (by decide) w169 d_Tw_beginAllow_9 ?_
    refine x_aload_n C d_Tw_beginAllow_12 0 rfl ?_
    refine x_getI (k := 10) C (okO_iff.mp h1) rfl j0_ok (by decide) rfl w177 d_Tw_beginAllow_13 ?_
    refine x_aload_n C d_Tw_beginAllow_16 0 rfl ?_
    refine x_getI (k := 6) C (okO_iff.mp h1) rfl j0_ok (by decide) rfl w173 d_Tw_beginAllow_17 ?_
    refine x_gd (fun h3 => ?_)
    refine x_astI C (okO_iff.mp h2) (inB_iff.mp h3) d_Tw_beginAllow_20 ?_
    refine x_letS (fun σ4 e5 => ?_)
    refine x_lv [] rfl ?_
    exact IH.2  (σ4)
  · refine x_lv [] rfl ?_
    exact IH.2  (σ)
set_option maxRecDepth 20000 in
theorem s_Tw_beginAllow_1 {G : GX} {p : Program} {l : Launch} {e : Env} {s : State} {m : MethodId} {args : Array Value} {below : List Frame} {meth : Method} {c : Code} {z0 u0 n : Nat} (C : Cx G p s m args meth c prog_12_method_12_code 1 "BellPlate$Tower" ((none))) (IH : I_Tw_beginAllow G p l e s m args below meth c z0 u0 n)  (σ : AM) : VX (QM eV G args s below z0 u0) G p l e s m args below meth c 0 z0 u0 1 (lpK (lpn F_Tw_beginAllow n) (T_Tw_beginAllow_1  σ)) 21 [] [] σ := by
  unfold T_Tw_beginAllow_1
  exact x_vret C d_Tw_beginAllow_21
theorem i_Tw_beginAllow {G : GX} {p : Program} {l : Launch} {e : Env} {s : State} {m : MethodId} {args : Array Value} {below : List Frame} {meth : Method} {c : Code} {z0 u0 : Nat} (C : Cx G p s m args meth c prog_12_method_12_code 1 "BellPlate$Tower" ((none))) (n : Nat) : I_Tw_beginAllow G p l e s m args below meth c z0 u0 n := by
  induction n with
  | zero => exact ⟨fun _ _ => x_none, fun _ => x_none⟩
  | succ n IH => exact ⟨fun v0R σ => s_Tw_beginAllow_0 C IH v0R σ, fun σ => s_Tw_beginAllow_1 C IH σ⟩
theorem c_Tw_beginAllow (G : GX) (l : Launch) (v0R : Nat) (σ : AM) : CT eV G l 0 y_Tw_beginAllow prog_12_method_12_code 1 (none) [.ref v0R] σ (M_Tw_beginAllow v0R σ) := by
  refine ct_of (by decide +kernel) (Nat.le_of_ble_eq_true rfl) (fun p e s m args below meth c C hin => ?_)
  refine x_lve (lv' := [(0, .ref v0R)]) rfl ?_
  intro r σ' h
  obtain ⟨n, hn⟩ := (lp_iff _ _ _).mp h
  exact (i_Tw_beginAllow C n).1 v0R σ r σ' hn
/-! BellPlate$Tower.add(I)V -/
abbrev y_Tw_add : MethodName := ⟨"BellPlate$Tower", "add", "(I)V"⟩
theorem k_Tw_add : y_Tw_add.cls ≠ "java/lang/invoke/MethodHandle" ∧ y_Tw_add.cls ≠ "java/lang/invoke/VarHandle" ∧ (parseMethodDescriptor y_Tw_add.desc).map (fun d => d.parameters.length) = some 1 := by decide +kernel
theorem d_Tw_add_0 : decode prog_12_method_16_code 0 = .ok (.aload_n 0, 1) := by decide +kernel
theorem d_Tw_add_1 : decode prog_12_method_16_code 1 = .ok (.getfield 40, 3) := by decide +kernel
theorem d_Tw_add_4 : decode prog_12_method_16_code 4 = .ok (.sipush 1000, 3) := by decide +kernel
theorem d_Tw_add_7 : decode prog_12_method_16_code 7 = .ok (.if_icmp .ge 23, 3) := by decide +kernel
theorem d_Tw_add_10 : decode prog_12_method_16_code 10 = .ok (.aload_n 0, 1) := by decide +kernel
theorem d_Tw_add_11 : decode prog_12_method_16_code 11 = .ok (.getfield 15, 3) := by decide +kernel
theorem d_Tw_add_14 : decode prog_12_method_16_code 14 = .ok (.aload_n 0, 1) := by decide +kernel
theorem d_Tw_add_15 : decode prog_12_method_16_code 15 = .ok (.getfield 40, 3) := by decide +kernel
theorem d_Tw_add_18 : decode prog_12_method_16_code 18 = .ok (.iload_n 1, 1) := by decide +kernel
theorem d_Tw_add_19 : decode prog_12_method_16_code 19 = .ok (.iastore, 1) := by decide +kernel
theorem d_Tw_add_20 : decode prog_12_method_16_code 20 = .ok (.aload_n 0, 1) := by decide +kernel
theorem d_Tw_add_21 : decode prog_12_method_16_code 21 = .ok (.dup, 1) := by decide +kernel
theorem d_Tw_add_22 : decode prog_12_method_16_code 22 = .ok (.getfield 40, 3) := by decide +kernel
theorem d_Tw_add_25 : decode prog_12_method_16_code 25 = .ok (.iconst 1, 1) := by decide +kernel
theorem d_Tw_add_26 : decode prog_12_method_16_code 26 = .ok (.iadd, 1) := by decide +kernel
theorem d_Tw_add_27 : decode prog_12_method_16_code 27 = .ok (.putfield 40, 3) := by decide +kernel
theorem d_Tw_add_30 : decode prog_12_method_16_code 30 = .ok (.return_, 1) := by decide +kernel
abbrev S_Tw_add : Type := Nat × Nat × Int32 × AM
noncomputable def T_Tw_add_0 (v0R : Nat) (v1I : Int32) (σ : AM) : S_Tw_add ⊕ Option (Unit × AM) :=
  gdT (okO σ v0R 1) <| if (aI σ v0R 6) < (1000 : Int32) then (gdT (okO σ (aR σ v0R 1) 101) <| gdT (inB (aI σ v0R 6) (aN σ (aR σ v0R 1))) <| letT (sI σ (aR σ v0R 1) (aI σ v0R 6).toNatClampNeg v1I) fun σ4 => letT (sI σ4 v0R 6 ((aI σ4 v0R 6) + (1 : Int32))) fun σ6 => .inl (1, 0, 0, σ6)) else (.inl (1, 0, 0, σ))
noncomputable def T_Tw_add_1  (σ : AM) : S_Tw_add ⊕ Option (Unit × AM) :=
  .inr (some ((), σ))
noncomputable def F_Tw_add : S_Tw_add → S_Tw_add ⊕ Option (Unit × AM) := fun s => match s.1 with
  | 0 => T_Tw_add_0 (s.2.1) (s.2.2.1) (s.2.2.2)
  | _ => T_Tw_add_1  (s.2.2.2)
noncomputable def L_Tw_add_0 (v0R : Nat) (v1I : Int32) (σ : AM) : Option (Unit × AM) := lp F_Tw_add (0, v0R, v1I, σ)
noncomputable def L_Tw_add_1  (σ : AM) : Option (Unit × AM) := lp F_Tw_add (1, 0, 0, σ)
set_option maxRecDepth 20000 in
theorem E_Tw_add_0 (v0R : Nat) (v1I : Int32) (σ : AM) : L_Tw_add_0 v0R v1I σ = (gd (okO σ v0R 1) <| if (aI σ v0R 6) < (1000 : Int32) then (gd (okO σ (aR σ v0R 1) 101) <| gd (inB (aI σ v0R 6) (aN σ (aR σ v0R 1))) <| letT (sI σ (aR σ v0R 1) (aI σ v0R 6).toNatClampNeg v1I) fun σ4 => letT (sI σ4 v0R 6 ((aI σ4 v0R 6) + (1 : Int32))) fun σ6 => L_Tw_add_1 σ6) else (L_Tw_add_1 σ)) := by
  unfold L_Tw_add_0
  rw [lp_eq]
  show lpK (lp F_Tw_add) (T_Tw_add_0 v0R v1I σ) = _
  unfold T_Tw_add_0
  simp only [lpK_ite, lq_inl, lq_inr, lpK_bnd, lpK_gd, lq_let]
  try rfl
set_option maxRecDepth 20000 in
theorem E_Tw_add_1  (σ : AM) : L_Tw_add_1  σ = ((some ((), σ))) := by
  unfold L_Tw_add_1
  rw [lp_eq]
  show lpK (lp F_Tw_add) (T_Tw_add_1  σ) = _
  unfold T_Tw_add_1
  simp only [lpK_ite, lq_inl, lq_inr, lpK_bnd, lpK_gd, lq_let]
  try rfl
noncomputable def M_Tw_add (v0R : Nat) (v1I : Int32) (σ : AM) : Option (Unit × AM) := mw σ (L_Tw_add_0 v0R v1I σ)
def I_Tw_add (G : GX) (p : Program) (l : Launch) (e : Env) (s : State) (m : MethodId) (args : Array Value) (below : List Frame) (meth : Method) (c : Code) (z0 u0 n : Nat) : Prop :=
  (∀ (v0R : Nat) (v1I : Int32) (σ : AM), VX (QM eV G args s below z0 u0) G p l e s m args below meth c 0 z0 u0 2 (lpn F_Tw_add n (0, v0R, v1I, σ)) 0 [(0, .ref v0R), (1, .int v1I)] [] σ) ∧
  (∀ (σ : AM), VX (QM eV G args s below z0 u0) G p l e s m args below meth c 0 z0 u0 2 (lpn F_Tw_add n (1, 0, 0, σ)) 30 [] [] σ)
set_option maxRecDepth 20000 in
theorem s_Tw_add_0 {G : GX} {p : Program} {l : Launch} {e : Env} {s : State} {m : MethodId} {args : Array Value} {below : List Frame} {meth : Method} {c : Code} {z0 u0 n : Nat} (C : Cx G p s m args meth c prog_12_method_16_code 2 "BellPlate$Tower" ((none))) (IH : I_Tw_add G p l e s m args below meth c z0 u0 n) (v0R : Nat) (v1I : Int32) (σ : AM) : VX (QM eV G args s below z0 u0) G p l e s m args below meth c 0 z0 u0 2 (lpK (lpn F_Tw_add n) (T_Tw_add_0 v0R v1I σ)) 0 [(0, .ref v0R), (1, .int v1I)] [] σ := by
  unfold T_Tw_add_0
  refine x_aload_n C d_Tw_add_0 0 rfl ?_
  refine x_gd (fun h1 => ?_)
  refine x_getI (k := 6) C (okO_iff.mp h1) rfl j0_ok (by decide) rfl w173 d_Tw_add_1 ?_
  refine x_sipush (v := (1000 : Int32)) C d_Tw_add_4 (by decide) ?_
  refine x_icmp_ge (tgt := 30) C d_Tw_add_7 (by decide) (fun _ => ?_) (fun _ => ?_)
  · refine x_aload_n C d_Tw_add_10 0 rfl ?_
    refine x_gd (fun h2 => ?_)
    refine x_getR (k := 1) (kv := 101) C (okO_iff.mp h1) rfl j0_ok (by decide) rfl (okO_iff.mp h2) (by decide) w168 d_Tw_add_11 ?_
    refine x_aload_n C d_Tw_add_14 0 rfl ?_
    refine x_getI (k := 6) C (okO_iff.mp h1) rfl j0_ok (by decide) rfl w173 d_Tw_add_15 ?_
    refine x_iload_n C d_Tw_add_18 1 rfl ?_
    refine x_gd (fun h3 => ?_)
    refine x_astI C (okO_iff.mp h2) (inB_iff.mp h3) d_Tw_add_19 ?_
    refine x_letS (fun σ4 e5 => ?_)
    refine x_aload_n C d_Tw_add_20 0 rfl ?_
    refine x_dup C d_Tw_add_21 rfl ?_
    refine x_getI (k := 6) C (by first | exact (okO_iff.mp h1) | (rw [e5]; exact (okO_iff.mp h1))) rfl j0_ok (by decide) rfl w173 d_Tw_add_22 ?_
    refine x_iconst (v := (1 : Int32)) C d_Tw_add_25 (by decide) ?_
    refine x_iadd C d_Tw_add_26 ?_
    refine x_putI (k := 6) C (by first | exact (okO_iff.mp h1) | (rw [e5]; exact (okO_iff.mp h1))) rfl j0_ok y0_ok n0_ok (by decide) rfl rfl rfl rfl w173 d_Tw_add_27 ?_
    refine x_letS (fun σ6 e7 => ?_)
    refine x_lv [] rfl ?_
    exact IH.2  (σ6)
  · refine x_lv [] rfl ?_
    exact IH.2  (σ)
set_option maxRecDepth 20000 in
theorem s_Tw_add_1 {G : GX} {p : Program} {l : Launch} {e : Env} {s : State} {m : MethodId} {args : Array Value} {below : List Frame} {meth : Method} {c : Code} {z0 u0 n : Nat} (C : Cx G p s m args meth c prog_12_method_16_code 2 "BellPlate$Tower" ((none))) (IH : I_Tw_add G p l e s m args below meth c z0 u0 n)  (σ : AM) : VX (QM eV G args s below z0 u0) G p l e s m args below meth c 0 z0 u0 2 (lpK (lpn F_Tw_add n) (T_Tw_add_1  σ)) 30 [] [] σ := by
  unfold T_Tw_add_1
  exact x_vret C d_Tw_add_30
theorem i_Tw_add {G : GX} {p : Program} {l : Launch} {e : Env} {s : State} {m : MethodId} {args : Array Value} {below : List Frame} {meth : Method} {c : Code} {z0 u0 : Nat} (C : Cx G p s m args meth c prog_12_method_16_code 2 "BellPlate$Tower" ((none))) (n : Nat) : I_Tw_add G p l e s m args below meth c z0 u0 n := by
  induction n with
  | zero => exact ⟨fun _ _ _ => x_none, fun _ => x_none⟩
  | succ n IH => exact ⟨fun v0R v1I σ => s_Tw_add_0 C IH v0R v1I σ, fun σ => s_Tw_add_1 C IH σ⟩
theorem c_Tw_add (G : GX) (l : Launch) (v0R : Nat) (v1I : Int32) (σ : AM) : CT eV G l 0 y_Tw_add prog_12_method_16_code 2 (none) [.ref v0R, .int v1I] σ (M_Tw_add v0R v1I σ) := by
  refine ct_of (by decide +kernel) (Nat.le_of_ble_eq_true rfl) (fun p e s m args below meth c C hin => ?_)
  refine x_lve (lv' := [(0, .ref v0R), (1, .int v1I)]) rfl ?_
  intro r σ' h
  obtain ⟨n, hn⟩ := (lp_iff _ _ _).mp h
  exact (i_Tw_add C n).1 v0R v1I σ r σ' hn
/-! BellPlate$Tower.endAllow()V -/
abbrev y_Tw_endAllow : MethodName := ⟨"BellPlate$Tower", "endAllow", "()V"⟩
theorem k_Tw_endAllow : y_Tw_endAllow.cls ≠ "java/lang/invoke/MethodHandle" ∧ y_Tw_endAllow.cls ≠ "java/lang/invoke/VarHandle" ∧ (parseMethodDescriptor y_Tw_endAllow.desc).map (fun d => d.parameters.length) = some 0 := by decide +kernel
theorem d_Tw_endAllow_0 : decode prog_12_method_13_code 0 = .ok (.aload_n 0, 1) := by decide +kernel
theorem d_Tw_endAllow_1 : decode prog_12_method_13_code 1 = .ok (.getfield 46, 3) := by decide +kernel
theorem d_Tw_endAllow_4 : decode prog_12_method_13_code 4 = .ok (.iconst 4, 1) := by decide +kernel
theorem d_Tw_endAllow_5 : decode prog_12_method_13_code 5 = .ok (.if_icmp .ge 26, 3) := by decide +kernel
theorem d_Tw_endAllow_8 : decode prog_12_method_13_code 8 = .ok (.aload_n 0, 1) := by decide +kernel
theorem d_Tw_endAllow_9 : decode prog_12_method_13_code 9 = .ok (.getfield 22, 3) := by decide +kernel
theorem d_Tw_endAllow_12 : decode prog_12_method_13_code 12 = .ok (.aload_n 0, 1) := by decide +kernel
theorem d_Tw_endAllow_13 : decode prog_12_method_13_code 13 = .ok (.getfield 46, 3) := by decide +kernel
theorem d_Tw_endAllow_16 : decode prog_12_method_13_code 16 = .ok (.aload_n 0, 1) := by decide +kernel
theorem d_Tw_endAllow_17 : decode prog_12_method_13_code 17 = .ok (.getfield 40, 3) := by decide +kernel
theorem d_Tw_endAllow_20 : decode prog_12_method_13_code 20 = .ok (.iastore, 1) := by decide +kernel
theorem d_Tw_endAllow_21 : decode prog_12_method_13_code 21 = .ok (.aload_n 0, 1) := by decide +kernel
theorem d_Tw_endAllow_22 : decode prog_12_method_13_code 22 = .ok (.dup, 1) := by decide +kernel
theorem d_Tw_endAllow_23 : decode prog_12_method_13_code 23 = .ok (.getfield 46, 3) := by decide +kernel
theorem d_Tw_endAllow_26 : decode prog_12_method_13_code 26 = .ok (.iconst 1, 1) := by decide +kernel
theorem d_Tw_endAllow_27 : decode prog_12_method_13_code 27 = .ok (.iadd, 1) := by decide +kernel
theorem d_Tw_endAllow_28 : decode prog_12_method_13_code 28 = .ok (.putfield 46, 3) := by decide +kernel
theorem d_Tw_endAllow_31 : decode prog_12_method_13_code 31 = .ok (.return_, 1) := by decide +kernel
abbrev S_Tw_endAllow : Type := Nat × Nat × AM
noncomputable def T_Tw_endAllow_0 (v0R : Nat) (σ : AM) : S_Tw_endAllow ⊕ Option (Unit × AM) :=
  gdT (okO σ v0R 1) <| if (aI σ v0R 10) < (4 : Int32) then (gdT (okO σ (aR σ v0R 3) 101) <| gdT (inB (aI σ v0R 10) (aN σ (aR σ v0R 3))) <| letT (sI σ (aR σ v0R 3) (aI σ v0R 10).toNatClampNeg (aI σ v0R 6)) fun σ4 => letT (sI σ4 v0R 10 ((aI σ4 v0R 10) + (1 : Int32))) fun σ6 => .inl (1, 0, σ6)) else (.inl (1, 0, σ))
noncomputable def T_Tw_endAllow_1  (σ : AM) : S_Tw_endAllow ⊕ Option (Unit × AM) :=
  .inr (some ((), σ))
noncomputable def F_Tw_endAllow : S_Tw_endAllow → S_Tw_endAllow ⊕ Option (Unit × AM) := fun s => match s.1 with
  | 0 => T_Tw_endAllow_0 (s.2.1) (s.2.2)
  | _ => T_Tw_endAllow_1  (s.2.2)
noncomputable def L_Tw_endAllow_0 (v0R : Nat) (σ : AM) : Option (Unit × AM) := lp F_Tw_endAllow (0, v0R, σ)
noncomputable def L_Tw_endAllow_1  (σ : AM) : Option (Unit × AM) := lp F_Tw_endAllow (1, 0, σ)
set_option maxRecDepth 20000 in
theorem E_Tw_endAllow_0 (v0R : Nat) (σ : AM) : L_Tw_endAllow_0 v0R σ = (gd (okO σ v0R 1) <| if (aI σ v0R 10) < (4 : Int32) then (gd (okO σ (aR σ v0R 3) 101) <| gd (inB (aI σ v0R 10) (aN σ (aR σ v0R 3))) <| letT (sI σ (aR σ v0R 3) (aI σ v0R 10).toNatClampNeg (aI σ v0R 6)) fun σ4 => letT (sI σ4 v0R 10 ((aI σ4 v0R 10) + (1 : Int32))) fun σ6 => L_Tw_endAllow_1 σ6) else (L_Tw_endAllow_1 σ)) := by
  unfold L_Tw_endAllow_0
  rw [lp_eq]
  show lpK (lp F_Tw_endAllow) (T_Tw_endAllow_0 v0R σ) = _
  unfold T_Tw_endAllow_0
  simp only [lpK_ite, lq_inl, lq_inr, lpK_bnd, lpK_gd, lq_let]
  try rfl
set_option maxRecDepth 20000 in
theorem E_Tw_endAllow_1  (σ : AM) : L_Tw_endAllow_1  σ = ((some ((), σ))) := by
  unfold L_Tw_endAllow_1
  rw [lp_eq]
  show lpK (lp F_Tw_endAllow) (T_Tw_endAllow_1  σ) = _
  unfold T_Tw_endAllow_1
  simp only [lpK_ite, lq_inl, lq_inr, lpK_bnd, lpK_gd, lq_let]
  try rfl
noncomputable def M_Tw_endAllow (v0R : Nat) (σ : AM) : Option (Unit × AM) := mw σ (L_Tw_endAllow_0 v0R σ)
def I_Tw_endAllow (G : GX) (p : Program) (l : Launch) (e : Env) (s : State) (m : MethodId) (args : Array Value) (below : List Frame) (meth : Method) (c : Code) (z0 u0 n : Nat) : Prop :=
  (∀ (v0R : Nat) (σ : AM), VX (QM eV G args s below z0 u0) G p l e s m args below meth c 0 z0 u0 1 (lpn F_Tw_endAllow n (0, v0R, σ)) 0 [(0, .ref v0R)] [] σ) ∧
  (∀ (σ : AM), VX (QM eV G args s below z0 u0) G p l e s m args below meth c 0 z0 u0 1 (lpn F_Tw_endAllow n (1, 0, σ)) 31 [] [] σ)
set_option maxRecDepth 20000 in
theorem s_Tw_endAllow_0 {G : GX} {p : Program} {l : Launch} {e : Env} {s : State} {m : MethodId} {args : Array Value} {below : List Frame} {meth : Method} {c : Code} {z0 u0 n : Nat} (C : Cx G p s m args meth c prog_12_method_13_code 1 "BellPlate$Tower" ((none))) (IH : I_Tw_endAllow G p l e s m args below meth c z0 u0 n) (v0R : Nat) (σ : AM) : VX (QM eV G args s below z0 u0) G p l e s m args below meth c 0 z0 u0 1 (lpK (lpn F_Tw_endAllow n) (T_Tw_endAllow_0 v0R σ)) 0 [(0, .ref v0R)] [] σ := by
  unfold T_Tw_endAllow_0
  refine x_aload_n C d_Tw_endAllow_0 0 rfl ?_
  refine x_gd (fun h1 => ?_)
  refine x_getI (k := 10) C (okO_iff.mp h1) rfl j0_ok (by decide) rfl w177 d_Tw_endAllow_1 ?_
  refine x_iconst (v := (4 : Int32)) C d_Tw_endAllow_4 (by decide) ?_
  refine x_icmp_ge (tgt := 31) C d_Tw_endAllow_5 (by decide) (fun _ => ?_) (fun _ => ?_)
  · refine x_aload_n C d_Tw_endAllow_8 0 rfl ?_
    refine x_gd (fun h2 => ?_)
    refine x_getR (k := 3) (kv := 101) C (okO_iff.mp h1) rfl j0_ok (by decide) rfl (okO_iff.mp h2) (by decide) w170 d_Tw_endAllow_9 ?_
    refine x_aload_n C d_Tw_endAllow_12 0 rfl ?_
    refine x_getI (k := 10) C (okO_iff.mp h1) rfl j0_ok (by decide) rfl w177 d_Tw_endAllow_13 ?_
    refine x_aload_n C d_Tw_endAllow_16 0 rfl ?_
    refine x_getI (k := 6) C (okO_iff.mp h1) rfl j0_ok (by decide) rfl w173 d_Tw_endAllow_17 ?_
    refine x_gd (fun h3 => ?_)
    refine x_astI C (okO_iff.mp h2) (inB_iff.mp h3) d_Tw_endAllow_20 ?_
    refine x_letS (fun σ4 e5 => ?_)
    refine x_aload_n C d_Tw_endAllow_21 0 rfl ?_
    refine x_dup C d_Tw_endAllow_22 rfl ?_
    refine x_getI (k := 10) C (by first | exact (okO_iff.mp h1) | (rw [e5]; exact (okO_iff.mp h1))) rfl j0_ok (by decide) rfl w177 d_Tw_endAllow_23 ?_
    refine x_iconst (v := (1 : Int32)) C d_Tw_endAllow_26 (by decide) ?_
    refine x_iadd C d_Tw_endAllow_27 ?_
    refine x_putI (k := 10) C (by first | exact (okO_iff.mp h1) | (rw [e5]; exact (okO_iff.mp h1))) rfl j0_ok y0_ok n0_ok (by decide) rfl rfl rfl rfl w177 d_Tw_endAllow_28 ?_
    refine x_letS (fun σ6 e7 => ?_)
    refine x_lv [] rfl ?_
    exact IH.2  (σ6)
  · refine x_lv [] rfl ?_
    exact IH.2  (σ)
set_option maxRecDepth 20000 in
theorem s_Tw_endAllow_1 {G : GX} {p : Program} {l : Launch} {e : Env} {s : State} {m : MethodId} {args : Array Value} {below : List Frame} {meth : Method} {c : Code} {z0 u0 n : Nat} (C : Cx G p s m args meth c prog_12_method_13_code 1 "BellPlate$Tower" ((none))) (IH : I_Tw_endAllow G p l e s m args below meth c z0 u0 n)  (σ : AM) : VX (QM eV G args s below z0 u0) G p l e s m args below meth c 0 z0 u0 1 (lpK (lpn F_Tw_endAllow n) (T_Tw_endAllow_1  σ)) 31 [] [] σ := by
  unfold T_Tw_endAllow_1
  exact x_vret C d_Tw_endAllow_31
theorem i_Tw_endAllow {G : GX} {p : Program} {l : Launch} {e : Env} {s : State} {m : MethodId} {args : Array Value} {below : List Frame} {meth : Method} {c : Code} {z0 u0 : Nat} (C : Cx G p s m args meth c prog_12_method_13_code 1 "BellPlate$Tower" ((none))) (n : Nat) : I_Tw_endAllow G p l e s m args below meth c z0 u0 n := by
  induction n with
  | zero => exact ⟨fun _ _ => x_none, fun _ => x_none⟩
  | succ n IH => exact ⟨fun v0R σ => s_Tw_endAllow_0 C IH v0R σ, fun σ => s_Tw_endAllow_1 C IH σ⟩
theorem c_Tw_endAllow (G : GX) (l : Launch) (v0R : Nat) (σ : AM) : CT eV G l 0 y_Tw_endAllow prog_12_method_13_code 1 (none) [.ref v0R] σ (M_Tw_endAllow v0R σ) := by
  refine ct_of (by decide +kernel) (Nat.le_of_ble_eq_true rfl) (fun p e s m args below meth c C hin => ?_)
  refine x_lve (lv' := [(0, .ref v0R)]) rfl ?_
  intro r σ' h
  obtain ⟨n, hn⟩ := (lp_iff _ _ _).mp h
  exact (i_Tw_endAllow C n).1 v0R σ r σ' hn
/-! BellPlate$Tower.beginCost()V -/
abbrev y_Tw_beginCost : MethodName := ⟨"BellPlate$Tower", "beginCost", "()V"⟩
theorem k_Tw_beginCost : y_Tw_beginCost.cls ≠ "java/lang/invoke/MethodHandle" ∧ y_Tw_beginCost.cls ≠ "java/lang/invoke/VarHandle" ∧ (parseMethodDescriptor y_Tw_beginCost.desc).map (fun d => d.parameters.length) = some 0 := by decide +kernel
theorem d_Tw_beginCost_0 : decode prog_12_method_14_code 0 = .ok (.aload_n 0, 1) := by decide +kernel
theorem d_Tw_beginCost_1 : decode prog_12_method_14_code 1 = .ok (.getfield 19, 3) := by decide +kernel
theorem d_Tw_beginCost_4 : decode prog_12_method_14_code 4 = .ok (.iconst 4, 1) := by decide +kernel
theorem d_Tw_beginCost_5 : decode prog_12_method_14_code 5 = .ok (.aload_n 0, 1) := by decide +kernel
theorem d_Tw_beginCost_6 : decode prog_12_method_14_code 6 = .ok (.getfield 40, 3) := by decide +kernel
theorem d_Tw_beginCost_9 : decode prog_12_method_14_code 9 = .ok (.iastore, 1) := by decide +kernel
theorem d_Tw_beginCost_10 : decode prog_12_method_14_code 10 = .ok (.return_, 1) := by decide +kernel
abbrev S_Tw_beginCost : Type := Nat × Nat × AM
noncomputable def T_Tw_beginCost_0 (v0R : Nat) (σ : AM) : S_Tw_beginCost ⊕ Option (Unit × AM) :=
  gdT (okO σ v0R 1) <| gdT (okO σ (aR σ v0R 2) 101) <| gdT (inB (4 : Int32) (aN σ (aR σ v0R 2))) <| letT (sI σ (aR σ v0R 2) (4 : Int32).toNatClampNeg (aI σ v0R 6)) fun σ4 => .inr (some ((), σ4))
noncomputable def F_Tw_beginCost : S_Tw_beginCost → S_Tw_beginCost ⊕ Option (Unit × AM) := fun s => match s.1 with
  | _ => T_Tw_beginCost_0 (s.2.1) (s.2.2)
noncomputable def L_Tw_beginCost_0 (v0R : Nat) (σ : AM) : Option (Unit × AM) := lp F_Tw_beginCost (0, v0R, σ)
set_option maxRecDepth 20000 in
theorem E_Tw_beginCost_0 (v0R : Nat) (σ : AM) : L_Tw_beginCost_0 v0R σ = (gd (okO σ v0R 1) <| gd (okO σ (aR σ v0R 2) 101) <| gd (inB (4 : Int32) (aN σ (aR σ v0R 2))) <| letT (sI σ (aR σ v0R 2) (4 : Int32).toNatClampNeg (aI σ v0R 6)) fun σ4 => (some ((), σ4))) := by
  unfold L_Tw_beginCost_0
  rw [lp_eq]
  show lpK (lp F_Tw_beginCost) (T_Tw_beginCost_0 v0R σ) = _
  unfold T_Tw_beginCost_0
  simp only [lpK_ite, lq_inl, lq_inr, lpK_bnd, lpK_gd, lq_let]
  try rfl
noncomputable def M_Tw_beginCost (v0R : Nat) (σ : AM) : Option (Unit × AM) := mw σ (L_Tw_beginCost_0 v0R σ)
def I_Tw_beginCost (G : GX) (p : Program) (l : Launch) (e : Env) (s : State) (m : MethodId) (args : Array Value) (below : List Frame) (meth : Method) (c : Code) (z0 u0 n : Nat) : Prop :=
  (∀ (v0R : Nat) (σ : AM), VX (QM eV G args s below z0 u0) G p l e s m args below meth c 0 z0 u0 1 (lpn F_Tw_beginCost n (0, v0R, σ)) 0 [(0, .ref v0R)] [] σ)
set_option maxRecDepth 20000 in
theorem s_Tw_beginCost_0 {G : GX} {p : Program} {l : Launch} {e : Env} {s : State} {m : MethodId} {args : Array Value} {below : List Frame} {meth : Method} {c : Code} {z0 u0 n : Nat} (C : Cx G p s m args meth c prog_12_method_14_code 1 "BellPlate$Tower" ((none))) (IH : I_Tw_beginCost G p l e s m args below meth c z0 u0 n) (v0R : Nat) (σ : AM) : VX (QM eV G args s below z0 u0) G p l e s m args below meth c 0 z0 u0 1 (lpK (lpn F_Tw_beginCost n) (T_Tw_beginCost_0 v0R σ)) 0 [(0, .ref v0R)] [] σ := by
  unfold T_Tw_beginCost_0
  refine x_aload_n C d_Tw_beginCost_0 0 rfl ?_
  refine x_gd (fun h1 => ?_)
  refine x_gd (fun h2 => ?_)
  refine x_getR (k := 2) (kv := 101) C (okO_iff.mp h1) rfl j0_ok (by decide) rfl (okO_iff.mp h2) (by decide) w169 d_Tw_beginCost_1 ?_
  refine x_iconst (v := (4 : Int32)) C d_Tw_beginCost_4 (by decide) ?_
  refine x_aload_n C d_Tw_beginCost_5 0 rfl ?_
  refine x_getI (k := 6) C (okO_iff.mp h1) rfl j0_ok (by decide) rfl w173 d_Tw_beginCost_6 ?_
  refine x_gd (fun h3 => ?_)
  refine x_astI C (okO_iff.mp h2) (inB_iff.mp h3) d_Tw_beginCost_9 ?_
  refine x_letS (fun σ4 e5 => ?_)
  exact x_vret C d_Tw_beginCost_10
theorem i_Tw_beginCost {G : GX} {p : Program} {l : Launch} {e : Env} {s : State} {m : MethodId} {args : Array Value} {below : List Frame} {meth : Method} {c : Code} {z0 u0 : Nat} (C : Cx G p s m args meth c prog_12_method_14_code 1 "BellPlate$Tower" ((none))) (n : Nat) : I_Tw_beginCost G p l e s m args below meth c z0 u0 n := by
  induction n with
  | zero => exact fun _ _ => x_none
  | succ n IH => exact fun v0R σ => s_Tw_beginCost_0 C IH v0R σ
theorem c_Tw_beginCost (G : GX) (l : Launch) (v0R : Nat) (σ : AM) : CT eV G l 0 y_Tw_beginCost prog_12_method_14_code 1 (none) [.ref v0R] σ (M_Tw_beginCost v0R σ) := by
  refine ct_of (by decide +kernel) (Nat.le_of_ble_eq_true rfl) (fun p e s m args below meth c C hin => ?_)
  refine x_lve (lv' := [(0, .ref v0R)]) rfl ?_
  intro r σ' h
  obtain ⟨n, hn⟩ := (lp_iff _ _ _).mp h
  exact (i_Tw_beginCost C n) v0R σ r σ' hn
/-! BellPlate$Tower.endCost()V -/
abbrev y_Tw_endCost : MethodName := ⟨"BellPlate$Tower", "endCost", "()V"⟩
theorem k_Tw_endCost : y_Tw_endCost.cls ≠ "java/lang/invoke/MethodHandle" ∧ y_Tw_endCost.cls ≠ "java/lang/invoke/VarHandle" ∧ (parseMethodDescriptor y_Tw_endCost.desc).map (fun d => d.parameters.length) = some 0 := by decide +kernel
theorem d_Tw_endCost_0 : decode prog_12_method_15_code 0 = .ok (.aload_n 0, 1) := by decide +kernel
theorem d_Tw_endCost_1 : decode prog_12_method_15_code 1 = .ok (.getfield 22, 3) := by decide +kernel
theorem d_Tw_endCost_4 : decode prog_12_method_15_code 4 = .ok (.iconst 4, 1) := by decide +kernel
theorem d_Tw_endCost_5 : decode prog_12_method_15_code 5 = .ok (.aload_n 0, 1) := by decide +kernel
theorem d_Tw_endCost_6 : decode prog_12_method_15_code 6 = .ok (.getfield 40, 3) := by decide +kernel
theorem d_Tw_endCost_9 : decode prog_12_method_15_code 9 = .ok (.iastore, 1) := by decide +kernel
theorem d_Tw_endCost_10 : decode prog_12_method_15_code 10 = .ok (.return_, 1) := by decide +kernel
abbrev S_Tw_endCost : Type := Nat × Nat × AM
noncomputable def T_Tw_endCost_0 (v0R : Nat) (σ : AM) : S_Tw_endCost ⊕ Option (Unit × AM) :=
  gdT (okO σ v0R 1) <| gdT (okO σ (aR σ v0R 3) 101) <| gdT (inB (4 : Int32) (aN σ (aR σ v0R 3))) <| letT (sI σ (aR σ v0R 3) (4 : Int32).toNatClampNeg (aI σ v0R 6)) fun σ4 => .inr (some ((), σ4))
noncomputable def F_Tw_endCost : S_Tw_endCost → S_Tw_endCost ⊕ Option (Unit × AM) := fun s => match s.1 with
  | _ => T_Tw_endCost_0 (s.2.1) (s.2.2)
noncomputable def L_Tw_endCost_0 (v0R : Nat) (σ : AM) : Option (Unit × AM) := lp F_Tw_endCost (0, v0R, σ)
set_option maxRecDepth 20000 in
theorem E_Tw_endCost_0 (v0R : Nat) (σ : AM) : L_Tw_endCost_0 v0R σ = (gd (okO σ v0R 1) <| gd (okO σ (aR σ v0R 3) 101) <| gd (inB (4 : Int32) (aN σ (aR σ v0R 3))) <| letT (sI σ (aR σ v0R 3) (4 : Int32).toNatClampNeg (aI σ v0R 6)) fun σ4 => (some ((), σ4))) := by
  unfold L_Tw_endCost_0
  rw [lp_eq]
  show lpK (lp F_Tw_endCost) (T_Tw_endCost_0 v0R σ) = _
  unfold T_Tw_endCost_0
  simp only [lpK_ite, lq_inl, lq_inr, lpK_bnd, lpK_gd, lq_let]
  try rfl
noncomputable def M_Tw_endCost (v0R : Nat) (σ : AM) : Option (Unit × AM) := mw σ (L_Tw_endCost_0 v0R σ)
def I_Tw_endCost (G : GX) (p : Program) (l : Launch) (e : Env) (s : State) (m : MethodId) (args : Array Value) (below : List Frame) (meth : Method) (c : Code) (z0 u0 n : Nat) : Prop :=
  (∀ (v0R : Nat) (σ : AM), VX (QM eV G args s below z0 u0) G p l e s m args below meth c 0 z0 u0 1 (lpn F_Tw_endCost n (0, v0R, σ)) 0 [(0, .ref v0R)] [] σ)
set_option maxRecDepth 20000 in
theorem s_Tw_endCost_0 {G : GX} {p : Program} {l : Launch} {e : Env} {s : State} {m : MethodId} {args : Array Value} {below : List Frame} {meth : Method} {c : Code} {z0 u0 n : Nat} (C : Cx G p s m args meth c prog_12_method_15_code 1 "BellPlate$Tower" ((none))) (IH : I_Tw_endCost G p l e s m args below meth c z0 u0 n) (v0R : Nat) (σ : AM) : VX (QM eV G args s below z0 u0) G p l e s m args below meth c 0 z0 u0 1 (lpK (lpn F_Tw_endCost n) (T_Tw_endCost_0 v0R σ)) 0 [(0, .ref v0R)] [] σ := by
  unfold T_Tw_endCost_0
  refine x_aload_n C d_Tw_endCost_0 0 rfl ?_
  refine x_gd (fun h1 => ?_)
  refine x_gd (fun h2 => ?_)
  refine x_getR (k := 3) (kv := 101) C (okO_iff.mp h1) rfl j0_ok (by decide) rfl (okO_iff.mp h2) (by decide) w170 d_Tw_endCost_1 ?_
  refine x_iconst (v := (4 : Int32)) C d_Tw_endCost_4 (by decide) ?_
  refine x_aload_n C d_Tw_endCost_5 0 rfl ?_
  refine x_getI (k := 6) C (okO_iff.mp h1) rfl j0_ok (by decide) rfl w173 d_Tw_endCost_6 ?_
  refine x_gd (fun h3 => ?_)
  refine x_astI C (okO_iff.mp h2) (inB_iff.mp h3) d_Tw_endCost_9 ?_
  refine x_letS (fun σ4 e5 => ?_)
  exact x_vret C d_Tw_endCost_10
theorem i_Tw_endCost {G : GX} {p : Program} {l : Launch} {e : Env} {s : State} {m : MethodId} {args : Array Value} {below : List Frame} {meth : Method} {c : Code} {z0 u0 : Nat} (C : Cx G p s m args meth c prog_12_method_15_code 1 "BellPlate$Tower" ((none))) (n : Nat) : I_Tw_endCost G p l e s m args below meth c z0 u0 n := by
  induction n with
  | zero => exact fun _ _ => x_none
  | succ n IH => exact fun v0R σ => s_Tw_endCost_0 C IH v0R σ
theorem c_Tw_endCost (G : GX) (l : Launch) (v0R : Nat) (σ : AM) : CT eV G l 0 y_Tw_endCost prog_12_method_15_code 1 (none) [.ref v0R] σ (M_Tw_endCost v0R σ) := by
  refine ct_of (by decide +kernel) (Nat.le_of_ble_eq_true rfl) (fun p e s m args below meth c C hin => ?_)
  refine x_lve (lv' := [(0, .ref v0R)]) rfl ?_
  intro r σ' h
  obtain ⟨n, hn⟩ := (lp_iff _ _ _).mp h
  exact (i_Tw_endCost C n) v0R σ r σ' hn
/-! BellPlate$Tower.priceSets()V -/
abbrev y_Tw_priceSets : MethodName := ⟨"BellPlate$Tower", "priceSets", "()V"⟩
theorem k_Tw_priceSets : y_Tw_priceSets.cls ≠ "java/lang/invoke/MethodHandle" ∧ y_Tw_priceSets.cls ≠ "java/lang/invoke/VarHandle" ∧ (parseMethodDescriptor y_Tw_priceSets.desc).map (fun d => d.parameters.length) = some 0 := by decide +kernel
theorem d_Tw_priceSets_0 : decode prog_12_method_28_code 0 = .ok (.bipush 6, 2) := by decide +kernel
theorem d_Tw_priceSets_2 : decode prog_12_method_28_code 2 = .ok (.newarray .int, 2) := by decide +kernel
theorem d_Tw_priceSets_4 : decode prog_12_method_28_code 4 = .ok (.astore_n 1, 1) := by decide +kernel
theorem d_Tw_priceSets_5 : decode prog_12_method_28_code 5 = .ok (.aload_n 0, 1) := by decide +kernel
theorem d_Tw_priceSets_6 : decode prog_12_method_28_code 6 = .ok (.getfield 19, 3) := by decide +kernel
theorem d_Tw_priceSets_9 : decode prog_12_method_28_code 9 = .ok (.iconst 4, 1) := by decide +kernel
theorem d_Tw_priceSets_10 : decode prog_12_method_28_code 10 = .ok (.iaload, 1) := by decide +kernel
theorem d_Tw_priceSets_11 : decode prog_12_method_28_code 11 = .ok (.aload_n 0, 1) := by decide +kernel
theorem d_Tw_priceSets_12 : decode prog_12_method_28_code 12 = .ok (.getfield 22, 3) := by decide +kernel
theorem d_Tw_priceSets_15 : decode prog_12_method_28_code 15 = .ok (.iconst 4, 1) := by decide +kernel
theorem d_Tw_priceSets_16 : decode prog_12_method_28_code 16 = .ok (.iaload, 1) := by decide +kernel
theorem d_Tw_priceSets_17 : decode prog_12_method_28_code 17 = .ok (.if_icmp .ne 7, 3) := by decide +kernel
theorem d_Tw_priceSets_20 : decode prog_12_method_28_code 20 = .ok (.iconst 1, 1) := by decide +kernel
theorem d_Tw_priceSets_21 : decode prog_12_method_28_code 21 = .ok (.goto 4, 3) := by decide +kernel
theorem d_Tw_priceSets_24 : decode prog_12_method_28_code 24 = .ok (.iconst 0, 1) := by decide +kernel
theorem d_Tw_priceSets_25 : decode prog_12_method_28_code 25 = .ok (.istore_n 2, 1) := by decide +kernel
theorem d_Tw_priceSets_26 : decode prog_12_method_28_code 26 = .ok (.iconst 0, 1) := by decide +kernel
theorem d_Tw_priceSets_27 : decode prog_12_method_28_code 27 = .ok (.istore_n 3, 1) := by decide +kernel
theorem d_Tw_priceSets_28 : decode prog_12_method_28_code 28 = .ok (.iload_n 3, 1) := by decide +kernel
theorem d_Tw_priceSets_29 : decode prog_12_method_28_code 29 = .ok (.aload_n 0, 1) := by decide +kernel
theorem d_Tw_priceSets_30 : decode prog_12_method_28_code 30 = .ok (.invokevirtual 60, 3) := by decide +kernel
theorem d_Tw_priceSets_33 : decode prog_12_method_28_code 33 = .ok (.if_icmp .ge 65, 3) := by decide +kernel
theorem d_Tw_priceSets_36 : decode prog_12_method_28_code 36 = .ok (.iconst 0, 1) := by decide +kernel
theorem d_Tw_priceSets_37 : decode prog_12_method_28_code 37 = .ok (.istore 4, 2) := by decide +kernel
theorem d_Tw_priceSets_39 : decode prog_12_method_28_code 39 = .ok (.iload 4, 2) := by decide +kernel
theorem d_Tw_priceSets_41 : decode prog_12_method_28_code 41 = .ok (.aload_n 0, 1) := by decide +kernel
theorem d_Tw_priceSets_42 : decode prog_12_method_28_code 42 = .ok (.getfield 43, 3) := by decide +kernel
theorem d_Tw_priceSets_45 : decode prog_12_method_28_code 45 = .ok (.if_icmp .ge 19, 3) := by decide +kernel
theorem d_Tw_priceSets_48 : decode prog_12_method_28_code 48 = .ok (.aload_n 1, 1) := by decide +kernel
theorem d_Tw_priceSets_49 : decode prog_12_method_28_code 49 = .ok (.iload 4, 2) := by decide +kernel
theorem d_Tw_priceSets_51 : decode prog_12_method_28_code 51 = .ok (.iload_n 3, 1) := by decide +kernel
theorem d_Tw_priceSets_52 : decode prog_12_method_28_code 52 = .ok (.iload 4, 2) := by decide +kernel
theorem d_Tw_priceSets_54 : decode prog_12_method_28_code 54 = .ok (.ishr, 1) := by decide +kernel
theorem d_Tw_priceSets_55 : decode prog_12_method_28_code 55 = .ok (.iconst 1, 1) := by decide +kernel
theorem d_Tw_priceSets_56 : decode prog_12_method_28_code 56 = .ok (.iand, 1) := by decide +kernel
theorem d_Tw_priceSets_57 : decode prog_12_method_28_code 57 = .ok (.iastore, 1) := by decide +kernel
theorem d_Tw_priceSets_58 : decode prog_12_method_28_code 58 = .ok (.iinc 4 1, 3) := by decide +kernel
theorem d_Tw_priceSets_61 : decode prog_12_method_28_code 61 = .ok (.goto (-22), 3) := by decide +kernel
theorem d_Tw_priceSets_64 : decode prog_12_method_28_code 64 = .ok (.aload_n 0, 1) := by decide +kernel
theorem d_Tw_priceSets_65 : decode prog_12_method_28_code 65 = .ok (.getfield 27, 3) := by decide +kernel
theorem d_Tw_priceSets_68 : decode prog_12_method_28_code 68 = .ok (.iload_n 3, 1) := by decide +kernel
theorem d_Tw_priceSets_69 : decode prog_12_method_28_code 69 = .ok (.iload_n 2, 1) := by decide +kernel
theorem d_Tw_priceSets_70 : decode prog_12_method_28_code 70 = .ok (.ifCond .eq 7, 3) := by decide +kernel
theorem d_Tw_priceSets_73 : decode prog_12_method_28_code 73 = .ok (.iconst 1, 1) := by decide +kernel
theorem d_Tw_priceSets_74 : decode prog_12_method_28_code 74 = .ok (.goto 17, 3) := by decide +kernel
theorem d_Tw_priceSets_77 : decode prog_12_method_28_code 77 = .ok (.iconst 0, 1) := by decide +kernel
theorem d_Tw_priceSets_78 : decode prog_12_method_28_code 78 = .ok (.aload_n 0, 1) := by decide +kernel
theorem d_Tw_priceSets_79 : decode prog_12_method_28_code 79 = .ok (.iconst 4, 1) := by decide +kernel
theorem d_Tw_priceSets_80 : decode prog_12_method_28_code 80 = .ok (.aload_n 1, 1) := by decide +kernel
theorem d_Tw_priceSets_81 : decode prog_12_method_28_code 81 = .ok (.iload_n 3, 1) := by decide +kernel
theorem d_Tw_priceSets_82 : decode prog_12_method_28_code 82 = .ok (.invokestatic 81, 3) := by decide +kernel
theorem d_Tw_priceSets_85 : decode prog_12_method_28_code 85 = .ok (.invokevirtual 77, 3) := by decide +kernel
theorem d_Tw_priceSets_88 : decode prog_12_method_28_code 88 = .ok (.invokestatic 71, 3) := by decide +kernel
theorem d_Tw_priceSets_91 : decode prog_12_method_28_code 91 = .ok (.iastore, 1) := by decide +kernel
theorem d_Tw_priceSets_92 : decode prog_12_method_28_code 92 = .ok (.iinc 3 1, 3) := by decide +kernel
theorem d_Tw_priceSets_95 : decode prog_12_method_28_code 95 = .ok (.goto (-67), 3) := by decide +kernel
theorem d_Tw_priceSets_98 : decode prog_12_method_28_code 98 = .ok (.return_, 1) := by decide +kernel
abbrev S_Tw_priceSets : Type := Nat × Nat × Nat × Int32 × Int32 × Int32 × Int32 × Nat × Int32 × Int32 × AM
noncomputable def T_Tw_priceSets_0 (v0R : Nat) (σ : AM) : S_Tw_priceSets ⊕ Option (Unit × AM) :=
  letT (nw σ 101 (6 : Int32).toNatClampNeg) fun σ1 => letT (aZ σ) fun x3 => gdT (okO σ1 v0R 1) <| gdT (okO σ1 (aR σ1 v0R 2) 101) <| gdT (inB (4 : Int32) (aN σ1 (aR σ1 v0R 2))) <| gdT (okO σ1 (aR σ1 v0R 3) 101) <| gdT (inB (4 : Int32) (aN σ1 (aR σ1 v0R 3))) <| if (aI σ1 (aR σ1 v0R 2) (4 : Int32).toNatClampNeg) = (aI σ1 (aR σ1 v0R 3) (4 : Int32).toNatClampNeg) then (.inl (1, v0R, x3, 0, 0, 0, (1 : Int32), 0, 0, 0, σ1)) else (.inl (1, v0R, x3, 0, 0, 0, (0 : Int32), 0, 0, 0, σ1))
noncomputable def T_Tw_priceSets_1 (v0R : Nat) (v1R : Nat) (s0I : Int32) (σ : AM) : S_Tw_priceSets ⊕ Option (Unit × AM) :=
  .inl (2, v0R, v1R, s0I, (0 : Int32), 0, 0, 0, 0, 0, σ)
noncomputable def T_Tw_priceSets_2 (v0R : Nat) (v1R : Nat) (v2I : Int32) (v3I : Int32) (σ : AM) : S_Tw_priceSets ⊕ Option (Unit × AM) :=
  gdT (okO σ v0R 1) <| bndT (M_Tw_sets v0R σ) fun r1 σ2 => if v3I < r1 then (.inl (3, v0R, v1R, v2I, v3I, (0 : Int32), 0, 0, 0, 0, σ2)) else (.inr (some ((), σ2)))
noncomputable def T_Tw_priceSets_3 (v0R : Nat) (v1R : Nat) (v2I : Int32) (v3I : Int32) (v4I : Int32) (σ : AM) : S_Tw_priceSets ⊕ Option (Unit × AM) :=
  gdT (okO σ v0R 1) <| if v4I < (aI σ v0R 7) then (gdT (okO σ v1R 101) <| gdT (inB v4I (aN σ v1R)) <| letT (sI σ v1R v4I.toNatClampNeg ((v3I >>> (v4I &&& 31)) &&& (1 : Int32))) fun σ4 => .inl (3, v0R, v1R, v2I, v3I, v4I + (1 : Int32), 0, 0, 0, 0, σ4)) else (gdT (okO σ (aR σ v0R 4) 101) <| if v2I = 0 then (bndT (M_JInt_bitCount v3I σ) fun r7 σ8 => gdT (okO σ8 v0R 1) <| bndT (M_Tw_value v0R (4 : Int32) v1R r7 σ8) fun r9 σ10 => .inl (4, v0R, v1R, v2I, v3I, 0, 0, aR σ v0R 4, v3I, mxI (0 : Int32) r9, σ10)) else (.inl (4, v0R, v1R, v2I, v3I, 0, 0, aR σ v0R 4, v3I, (1 : Int32), σ)))
noncomputable def T_Tw_priceSets_4 (v0R : Nat) (v1R : Nat) (v2I : Int32) (v3I : Int32) (s0R : Nat) (s1I : Int32) (s2I : Int32) (σ : AM) : S_Tw_priceSets ⊕ Option (Unit × AM) :=
  gdT (okO σ s0R 101) <| gdT (inB s1I (aN σ s0R)) <| letT (sI σ s0R s1I.toNatClampNeg s2I) fun σ3 => .inl (2, v0R, v1R, v2I, v3I + (1 : Int32), 0, 0, 0, 0, 0, σ3)
noncomputable def F_Tw_priceSets : S_Tw_priceSets → S_Tw_priceSets ⊕ Option (Unit × AM) := fun s => match s.1 with
  | 0 => T_Tw_priceSets_0 (s.2.1) (s.2.2.2.2.2.2.2.2.2.2)
  | 1 => T_Tw_priceSets_1 (s.2.1) (s.2.2.1) (s.2.2.2.2.2.2.1) (s.2.2.2.2.2.2.2.2.2.2)
  | 2 => T_Tw_priceSets_2 (s.2.1) (s.2.2.1) (s.2.2.2.1) (s.2.2.2.2.1) (s.2.2.2.2.2.2.2.2.2.2)
  | 3 => T_Tw_priceSets_3 (s.2.1) (s.2.2.1) (s.2.2.2.1) (s.2.2.2.2.1) (s.2.2.2.2.2.1) (s.2.2.2.2.2.2.2.2.2.2)
  | _ => T_Tw_priceSets_4 (s.2.1) (s.2.2.1) (s.2.2.2.1) (s.2.2.2.2.1) (s.2.2.2.2.2.2.2.1) (s.2.2.2.2.2.2.2.2.1) (s.2.2.2.2.2.2.2.2.2.1) (s.2.2.2.2.2.2.2.2.2.2)
noncomputable def L_Tw_priceSets_0 (v0R : Nat) (σ : AM) : Option (Unit × AM) := lp F_Tw_priceSets (0, v0R, 0, 0, 0, 0, 0, 0, 0, 0, σ)
noncomputable def L_Tw_priceSets_1 (v0R : Nat) (v1R : Nat) (s0I : Int32) (σ : AM) : Option (Unit × AM) := lp F_Tw_priceSets (1, v0R, v1R, 0, 0, 0, s0I, 0, 0, 0, σ)
noncomputable def L_Tw_priceSets_2 (v0R : Nat) (v1R : Nat) (v2I : Int32) (v3I : Int32) (σ : AM) : Option (Unit × AM) := lp F_Tw_priceSets (2, v0R, v1R, v2I, v3I, 0, 0, 0, 0, 0, σ)
noncomputable def L_Tw_priceSets_3 (v0R : Nat) (v1R : Nat) (v2I : Int32) (v3I : Int32) (v4I : Int32) (σ : AM) : Option (Unit × AM) := lp F_Tw_priceSets (3, v0R, v1R, v2I, v3I, v4I, 0, 0, 0, 0, σ)
noncomputable def L_Tw_priceSets_4 (v0R : Nat) (v1R : Nat) (v2I : Int32) (v3I : Int32) (s0R : Nat) (s1I : Int32) (s2I : Int32) (σ : AM) : Option (Unit × AM) := lp F_Tw_priceSets (4, v0R, v1R, v2I, v3I, 0, 0, s0R, s1I, s2I, σ)
set_option maxRecDepth 20000 in
theorem E_Tw_priceSets_0 (v0R : Nat) (σ : AM) : L_Tw_priceSets_0 v0R σ = (letT (nw σ 101 (6 : Int32).toNatClampNeg) fun σ1 => letT (aZ σ) fun x3 => gd (okO σ1 v0R 1) <| gd (okO σ1 (aR σ1 v0R 2) 101) <| gd (inB (4 : Int32) (aN σ1 (aR σ1 v0R 2))) <| gd (okO σ1 (aR σ1 v0R 3) 101) <| gd (inB (4 : Int32) (aN σ1 (aR σ1 v0R 3))) <| if (aI σ1 (aR σ1 v0R 2) (4 : Int32).toNatClampNeg) = (aI σ1 (aR σ1 v0R 3) (4 : Int32).toNatClampNeg) then (L_Tw_priceSets_1 v0R x3 ((1 : Int32)) σ1) else (L_Tw_priceSets_1 v0R x3 ((0 : Int32)) σ1)) := by
  unfold L_Tw_priceSets_0
  rw [lp_eq]
  show lpK (lp F_Tw_priceSets) (T_Tw_priceSets_0 v0R σ) = _
  unfold T_Tw_priceSets_0
  simp only [lpK_ite, lq_inl, lq_inr, lpK_bnd, lpK_gd, lq_let]
  try rfl
set_option maxRecDepth 20000 in
theorem E_Tw_priceSets_1 (v0R : Nat) (v1R : Nat) (s0I : Int32) (σ : AM) : L_Tw_priceSets_1 v0R v1R s0I σ = (L_Tw_priceSets_2 v0R v1R s0I ((0 : Int32)) σ) := by
  unfold L_Tw_priceSets_1
  rw [lp_eq]
  show lpK (lp F_Tw_priceSets) (T_Tw_priceSets_1 v0R v1R s0I σ) = _
  unfold T_Tw_priceSets_1
  simp only [lpK_ite, lq_inl, lq_inr, lpK_bnd, lpK_gd, lq_let]
  try rfl
set_option maxRecDepth 20000 in
theorem E_Tw_priceSets_2 (v0R : Nat) (v1R : Nat) (v2I : Int32) (v3I : Int32) (σ : AM) : L_Tw_priceSets_2 v0R v1R v2I v3I σ = (gd (okO σ v0R 1) <| bnd (M_Tw_sets v0R σ) fun r1 σ2 => if v3I < r1 then (L_Tw_priceSets_3 v0R v1R v2I v3I ((0 : Int32)) σ2) else ((some ((), σ2)))) := by
  unfold L_Tw_priceSets_2
  rw [lp_eq]
  show lpK (lp F_Tw_priceSets) (T_Tw_priceSets_2 v0R v1R v2I v3I σ) = _
  unfold T_Tw_priceSets_2
  simp only [lpK_ite, lq_inl, lq_inr, lpK_bnd, lpK_gd, lq_let]
  try rfl
set_option maxRecDepth 20000 in
theorem E_Tw_priceSets_3 (v0R : Nat) (v1R : Nat) (v2I : Int32) (v3I : Int32) (v4I : Int32) (σ : AM) : L_Tw_priceSets_3 v0R v1R v2I v3I v4I σ = (gd (okO σ v0R 1) <| if v4I < (aI σ v0R 7) then (gd (okO σ v1R 101) <| gd (inB v4I (aN σ v1R)) <| letT (sI σ v1R v4I.toNatClampNeg ((v3I >>> (v4I &&& 31)) &&& (1 : Int32))) fun σ4 => L_Tw_priceSets_3 v0R v1R v2I v3I (v4I + (1 : Int32)) σ4) else (gd (okO σ (aR σ v0R 4) 101) <| if v2I = 0 then (bnd (M_JInt_bitCount v3I σ) fun r7 σ8 => gd (okO σ8 v0R 1) <| bnd (M_Tw_value v0R (4 : Int32) v1R r7 σ8) fun r9 σ10 => L_Tw_priceSets_4 v0R v1R v2I v3I (aR σ v0R 4) v3I (mxI (0 : Int32) r9) σ10) else (L_Tw_priceSets_4 v0R v1R v2I v3I (aR σ v0R 4) v3I ((1 : Int32)) σ))) := by
  unfold L_Tw_priceSets_3
  rw [lp_eq]
  show lpK (lp F_Tw_priceSets) (T_Tw_priceSets_3 v0R v1R v2I v3I v4I σ) = _
  unfold T_Tw_priceSets_3
  simp only [lpK_ite, lq_inl, lq_inr, lpK_bnd, lpK_gd, lq_let]
  try rfl
set_option maxRecDepth 20000 in
theorem E_Tw_priceSets_4 (v0R : Nat) (v1R : Nat) (v2I : Int32) (v3I : Int32) (s0R : Nat) (s1I : Int32) (s2I : Int32) (σ : AM) : L_Tw_priceSets_4 v0R v1R v2I v3I s0R s1I s2I σ = (gd (okO σ s0R 101) <| gd (inB s1I (aN σ s0R)) <| letT (sI σ s0R s1I.toNatClampNeg s2I) fun σ3 => L_Tw_priceSets_2 v0R v1R v2I (v3I + (1 : Int32)) σ3) := by
  unfold L_Tw_priceSets_4
  rw [lp_eq]
  show lpK (lp F_Tw_priceSets) (T_Tw_priceSets_4 v0R v1R v2I v3I s0R s1I s2I σ) = _
  unfold T_Tw_priceSets_4
  simp only [lpK_ite, lq_inl, lq_inr, lpK_bnd, lpK_gd, lq_let]
  try rfl
noncomputable def M_Tw_priceSets (v0R : Nat) (σ : AM) : Option (Unit × AM) := mw σ (L_Tw_priceSets_0 v0R σ)
def I_Tw_priceSets (G : GX) (p : Program) (l : Launch) (e : Env) (s : State) (m : MethodId) (args : Array Value) (below : List Frame) (meth : Method) (c : Code) (z0 u0 n : Nat) : Prop :=
  (∀ (v0R : Nat) (σ : AM), VX (QM eV G args s below z0 u0) G p l e s m args below meth c 3 z0 u0 5 (lpn F_Tw_priceSets n (0, v0R, 0, 0, 0, 0, 0, 0, 0, 0, σ)) 0 [(0, .ref v0R)] [] σ) ∧
  (∀ (v0R : Nat) (v1R : Nat) (s0I : Int32) (σ : AM), VX (QM eV G args s below z0 u0) G p l e s m args below meth c 3 z0 u0 5 (lpn F_Tw_priceSets n (1, v0R, v1R, 0, 0, 0, s0I, 0, 0, 0, σ)) 25 [(0, .ref v0R), (1, .ref v1R)] [.int s0I] σ) ∧
  (∀ (v0R : Nat) (v1R : Nat) (v2I : Int32) (v3I : Int32) (σ : AM), VX (QM eV G args s below z0 u0) G p l e s m args below meth c 3 z0 u0 5 (lpn F_Tw_priceSets n (2, v0R, v1R, v2I, v3I, 0, 0, 0, 0, 0, σ)) 28 [(0, .ref v0R), (1, .ref v1R), (2, .int v2I), (3, .int v3I)] [] σ) ∧
  (∀ (v0R : Nat) (v1R : Nat) (v2I : Int32) (v3I : Int32) (v4I : Int32) (σ : AM), VX (QM eV G args s below z0 u0) G p l e s m args below meth c 3 z0 u0 5 (lpn F_Tw_priceSets n (3, v0R, v1R, v2I, v3I, v4I, 0, 0, 0, 0, σ)) 39 [(0, .ref v0R), (1, .ref v1R), (2, .int v2I), (3, .int v3I), (4, .int v4I)] [] σ) ∧
  (∀ (v0R : Nat) (v1R : Nat) (v2I : Int32) (v3I : Int32) (s0R : Nat) (s1I : Int32) (s2I : Int32) (σ : AM), VX (QM eV G args s below z0 u0) G p l e s m args below meth c 3 z0 u0 5 (lpn F_Tw_priceSets n (4, v0R, v1R, v2I, v3I, 0, 0, s0R, s1I, s2I, σ)) 91 [(0, .ref v0R), (1, .ref v1R), (2, .int v2I), (3, .int v3I)] [.int s2I, .int s1I, .ref s0R] σ)
set_option maxRecDepth 20000 in
theorem s_Tw_priceSets_0 {G : GX} {p : Program} {l : Launch} {e : Env} {s : State} {m : MethodId} {args : Array Value} {below : List Frame} {meth : Method} {c : Code} {z0 u0 n : Nat} (C : Cx G p s m args meth c prog_12_method_28_code 5 "BellPlate$Tower" ((none))) (IH : I_Tw_priceSets G p l e s m args below meth c z0 u0 n) (v0R : Nat) (σ : AM) : VX (QM eV G args s below z0 u0) G p l e s m args below meth c 3 z0 u0 5 (lpK (lpn F_Tw_priceSets n) (T_Tw_priceSets_0 v0R σ)) 0 [(0, .ref v0R)] [] σ := by
  unfold T_Tw_priceSets_0
  refine x_bipush (v := (6 : Int32)) C d_Tw_priceSets_0 (by decide) ?_
  refine x_newaI C w203 (by decide) (by decide) d_Tw_priceSets_2 ?_
  refine x_letS (fun σ1 e2 => ?_)
  refine x_letR (fun x3 _ => ?_)
  refine x_astore_n (lv' := [(1, .ref x3), (0, .ref v0R)]) C d_Tw_priceSets_4 (by decide) rfl rfl ?_
  refine x_aload_n C d_Tw_priceSets_5 1 rfl ?_
  refine x_gd (fun h4 => ?_)
  refine x_gd (fun h5 => ?_)
  refine x_getR (k := 2) (kv := 101) C (okO_iff.mp h4) rfl j0_ok (by decide) rfl (okO_iff.mp h5) (by decide) w169 d_Tw_priceSets_6 ?_
  refine x_iconst (v := (4 : Int32)) C d_Tw_priceSets_9 (by decide) ?_
  refine x_gd (fun h6 => ?_)
  refine x_aldI C (okO_iff.mp h5) (inB_iff.mp h6) d_Tw_priceSets_10 ?_
  refine x_aload_n C d_Tw_priceSets_11 1 rfl ?_
  refine x_gd (fun h7 => ?_)
  refine x_getR (k := 3) (kv := 101) C (okO_iff.mp h4) rfl j0_ok (by decide) rfl (okO_iff.mp h7) (by decide) w170 d_Tw_priceSets_12 ?_
  refine x_iconst (v := (4 : Int32)) C d_Tw_priceSets_15 (by decide) ?_
  refine x_gd (fun h8 => ?_)
  refine x_aldI C (okO_iff.mp h7) (inB_iff.mp h8) d_Tw_priceSets_16 ?_
  refine x_icmp_ne (tgt := 24) C d_Tw_priceSets_17 (by decide) (fun _ => ?_) (fun _ => ?_)
  · refine x_iconst (v := (1 : Int32)) C d_Tw_priceSets_20 (by decide) ?_
    refine x_goto (tgt := 25) C d_Tw_priceSets_21 (by decide) ?_
    refine x_lv [1, 0] rfl ?_
    exact IH.2.1 v0R x3 ((1 : Int32)) (σ1)
  · refine x_iconst (v := (0 : Int32)) C d_Tw_priceSets_24 (by decide) ?_
    refine x_lv [1, 0] rfl ?_
    exact IH.2.1 v0R x3 ((0 : Int32)) (σ1)
set_option maxRecDepth 20000 in
theorem s_Tw_priceSets_1 {G : GX} {p : Program} {l : Launch} {e : Env} {s : State} {m : MethodId} {args : Array Value} {below : List Frame} {meth : Method} {c : Code} {z0 u0 n : Nat} (C : Cx G p s m args meth c prog_12_method_28_code 5 "BellPlate$Tower" ((none))) (IH : I_Tw_priceSets G p l e s m args below meth c z0 u0 n) (v0R : Nat) (v1R : Nat) (s0I : Int32) (σ : AM) : VX (QM eV G args s below z0 u0) G p l e s m args below meth c 3 z0 u0 5 (lpK (lpn F_Tw_priceSets n) (T_Tw_priceSets_1 v0R v1R s0I σ)) 25 [(0, .ref v0R), (1, .ref v1R)] [.int s0I] σ := by
  unfold T_Tw_priceSets_1
  refine x_istore_n (lv' := [(2, .int s0I), (0, .ref v0R), (1, .ref v1R)]) C d_Tw_priceSets_25 (by decide) rfl rfl ?_
  refine x_iconst (v := (0 : Int32)) C d_Tw_priceSets_26 (by decide) ?_
  refine x_istore_n (lv' := [(3, .int (0 : Int32)), (2, .int s0I), (0, .ref v0R), (1, .ref v1R)]) C d_Tw_priceSets_27 (by decide) rfl rfl ?_
  refine x_lv [2, 3, 1, 0] rfl ?_
  exact IH.2.2.1 v0R v1R s0I ((0 : Int32)) (σ)
set_option maxRecDepth 20000 in
theorem s_Tw_priceSets_2 {G : GX} {p : Program} {l : Launch} {e : Env} {s : State} {m : MethodId} {args : Array Value} {below : List Frame} {meth : Method} {c : Code} {z0 u0 n : Nat} (C : Cx G p s m args meth c prog_12_method_28_code 5 "BellPlate$Tower" ((none))) (IH : I_Tw_priceSets G p l e s m args below meth c z0 u0 n) (v0R : Nat) (v1R : Nat) (v2I : Int32) (v3I : Int32) (σ : AM) : VX (QM eV G args s below z0 u0) G p l e s m args below meth c 3 z0 u0 5 (lpK (lpn F_Tw_priceSets n) (T_Tw_priceSets_2 v0R v1R v2I v3I σ)) 28 [(0, .ref v0R), (1, .ref v1R), (2, .int v2I), (3, .int v3I)] [] σ := by
  unfold T_Tw_priceSets_2
  refine x_iload_n C d_Tw_priceSets_28 3 rfl ?_
  refine x_aload_n C d_Tw_priceSets_29 0 rfl ?_
  refine x_gd (fun h3 => ?_)
  refine x_callVI (As := []) C (c_Tw_sets G l v0R  σ) (okO_iff.mp h3) rfl w600 w601 w599 w602 w122 k_Tw_sets rfl (by decide) (by decide) rfl (Nat.le_of_ble_eq_true rfl) d_Tw_priceSets_30 (fun r1 σ2 => ?_)
  refine x_icmp_ge (tgt := 98) C d_Tw_priceSets_33 (by decide) (fun _ => ?_) (fun _ => ?_)
  · refine x_iconst (v := (0 : Int32)) C d_Tw_priceSets_36 (by decide) ?_
    refine x_istore (lv' := [(4, .int (0 : Int32)), (0, .ref v0R), (1, .ref v1R), (2, .int v2I), (3, .int v3I)]) C d_Tw_priceSets_37 (by decide) rfl ?_
    refine x_lv [1, 2, 3, 4, 0] rfl ?_
    exact IH.2.2.2.1 v0R v1R v2I v3I ((0 : Int32)) (σ2)
  · exact x_vret C d_Tw_priceSets_98
set_option maxRecDepth 20000 in
theorem s_Tw_priceSets_3 {G : GX} {p : Program} {l : Launch} {e : Env} {s : State} {m : MethodId} {args : Array Value} {below : List Frame} {meth : Method} {c : Code} {z0 u0 n : Nat} (C : Cx G p s m args meth c prog_12_method_28_code 5 "BellPlate$Tower" ((none))) (IH : I_Tw_priceSets G p l e s m args below meth c z0 u0 n) (v0R : Nat) (v1R : Nat) (v2I : Int32) (v3I : Int32) (v4I : Int32) (σ : AM) : VX (QM eV G args s below z0 u0) G p l e s m args below meth c 3 z0 u0 5 (lpK (lpn F_Tw_priceSets n) (T_Tw_priceSets_3 v0R v1R v2I v3I v4I σ)) 39 [(0, .ref v0R), (1, .ref v1R), (2, .int v2I), (3, .int v3I), (4, .int v4I)] [] σ := by
  unfold T_Tw_priceSets_3
  refine x_iload C d_Tw_priceSets_39 4 rfl ?_
  refine x_aload_n C d_Tw_priceSets_41 0 rfl ?_
  refine x_gd (fun h1 => ?_)
  refine x_getI (k := 7) C (okO_iff.mp h1) rfl j0_ok (by decide) rfl w174 d_Tw_priceSets_42 ?_
  refine x_icmp_ge (tgt := 64) C d_Tw_priceSets_45 (by decide) (fun _ => ?_) (fun _ => ?_)
  · refine x_aload_n C d_Tw_priceSets_48 1 rfl ?_
    refine x_iload C d_Tw_priceSets_49 4 rfl ?_
    refine x_iload_n C d_Tw_priceSets_51 3 rfl ?_
    refine x_iload C d_Tw_priceSets_52 4 rfl ?_
    refine x_ishr C d_Tw_priceSets_54 ?_
    refine x_iconst (v := (1 : Int32)) C d_Tw_priceSets_55 (by decide) ?_
    refine x_iand C d_Tw_priceSets_56 ?_
    refine x_gd (fun h2 => ?_)
    refine x_gd (fun h3 => ?_)
    refine x_astI C (okO_iff.mp h2) (inB_iff.mp h3) d_Tw_priceSets_57 ?_
    refine x_letS (fun σ4 e5 => ?_)
    refine x_iinc (v := v4I + (1 : Int32)) (lv' := [(4, .int (v4I + (1 : Int32))), (0, .ref v0R), (1, .ref v1R), (2, .int v2I), (3, .int v3I)]) C d_Tw_priceSets_58 4 rfl rfl (by decide) rfl ?_
    refine x_goto (tgt := 39) C d_Tw_priceSets_61 (by decide) ?_
    refine x_lv [1, 2, 3, 4, 0] rfl ?_
    exact IH.2.2.2.1 v0R v1R v2I v3I (v4I + (1 : Int32)) (σ4)
  · refine x_aload_n C d_Tw_priceSets_64 0 rfl ?_
    refine x_gd (fun h6 => ?_)
    refine x_getR (k := 4) (kv := 101) C (okO_iff.mp h1) rfl j0_ok (by decide) rfl (okO_iff.mp h6) (by decide) w171 d_Tw_priceSets_65 ?_
    refine x_iload_n C d_Tw_priceSets_68 3 rfl ?_
    refine x_iload_n C d_Tw_priceSets_69 2 rfl ?_
    refine x_if_eq (tgt := 77) C d_Tw_priceSets_70 (by decide) (fun _ => ?_) (fun _ => ?_)
    · refine x_iconst (v := (0 : Int32)) C d_Tw_priceSets_77 (by decide) ?_
      refine x_aload_n C d_Tw_priceSets_78 0 rfl ?_
      refine x_iconst (v := (4 : Int32)) C d_Tw_priceSets_79 (by decide) ?_
      refine x_aload_n C d_Tw_priceSets_80 1 rfl ?_
      refine x_iload_n C d_Tw_priceSets_81 3 rfl ?_
      refine x_callSI (As := [.int v3I]) C (c_JInt_bitCount G l v3I σ) w604 w603 w605 w132 k_JInt_bitCount rfl (by decide) (by decide) rfl (Nat.le_of_ble_eq_true rfl) d_Tw_priceSets_82 (fun r7 σ8 => ?_)
      refine x_gd (fun h11 => ?_)
      refine x_callVI (As := [.int (4 : Int32), .ref v1R, .int r7]) C (c_Tw_value G l v0R (4 : Int32) v1R r7 σ8) (okO_iff.mp h11) rfl w611 w0 w609 w612 w122 k_Tw_value rfl (by decide) (by decide) rfl (Nat.le_of_ble_eq_true rfl) d_Tw_priceSets_85 (fun r9 σ10 => ?_)
      refine x_mmax C w622 (by decide) (Nat.le_of_ble_eq_true rfl) d_Tw_priceSets_88 ?_
      refine x_lv [0, 1, 2, 3] rfl ?_
      exact IH.2.2.2.2 v0R v1R v2I v3I (aR σ v0R 4) v3I (mxI (0 : Int32) r9) (σ10)
    · refine x_iconst (v := (1 : Int32)) C d_Tw_priceSets_73 (by decide) ?_
      refine x_goto (tgt := 91) C d_Tw_priceSets_74 (by decide) ?_
      refine x_lv [0, 1, 2, 3] rfl ?_
      exact IH.2.2.2.2 v0R v1R v2I v3I (aR σ v0R 4) v3I ((1 : Int32)) (σ)
set_option maxRecDepth 20000 in
theorem s_Tw_priceSets_4 {G : GX} {p : Program} {l : Launch} {e : Env} {s : State} {m : MethodId} {args : Array Value} {below : List Frame} {meth : Method} {c : Code} {z0 u0 n : Nat} (C : Cx G p s m args meth c prog_12_method_28_code 5 "BellPlate$Tower" ((none))) (IH : I_Tw_priceSets G p l e s m args below meth c z0 u0 n) (v0R : Nat) (v1R : Nat) (v2I : Int32) (v3I : Int32) (s0R : Nat) (s1I : Int32) (s2I : Int32) (σ : AM) : VX (QM eV G args s below z0 u0) G p l e s m args below meth c 3 z0 u0 5 (lpK (lpn F_Tw_priceSets n) (T_Tw_priceSets_4 v0R v1R v2I v3I s0R s1I s2I σ)) 91 [(0, .ref v0R), (1, .ref v1R), (2, .int v2I), (3, .int v3I)] [.int s2I, .int s1I, .ref s0R] σ := by
  unfold T_Tw_priceSets_4
  refine x_gd (fun h1 => ?_)
  refine x_gd (fun h2 => ?_)
  refine x_astI C (okO_iff.mp h1) (inB_iff.mp h2) d_Tw_priceSets_91 ?_
  refine x_letS (fun σ3 e4 => ?_)
  refine x_iinc (v := v3I + (1 : Int32)) (lv' := [(3, .int (v3I + (1 : Int32))), (0, .ref v0R), (1, .ref v1R), (2, .int v2I)]) C d_Tw_priceSets_92 3 rfl rfl (by decide) rfl ?_
  refine x_goto (tgt := 28) C d_Tw_priceSets_95 (by decide) ?_
  refine x_lv [1, 2, 3, 0] rfl ?_
  exact IH.2.2.1 v0R v1R v2I (v3I + (1 : Int32)) (σ3)
theorem i_Tw_priceSets {G : GX} {p : Program} {l : Launch} {e : Env} {s : State} {m : MethodId} {args : Array Value} {below : List Frame} {meth : Method} {c : Code} {z0 u0 : Nat} (C : Cx G p s m args meth c prog_12_method_28_code 5 "BellPlate$Tower" ((none))) (n : Nat) : I_Tw_priceSets G p l e s m args below meth c z0 u0 n := by
  induction n with
  | zero => exact ⟨fun _ _ => x_none, fun _ _ _ _ => x_none, fun _ _ _ _ _ => x_none, fun _ _ _ _ _ _ => x_none, fun _ _ _ _ _ _ _ _ => x_none⟩
  | succ n IH => exact ⟨fun v0R σ => s_Tw_priceSets_0 C IH v0R σ, fun v0R v1R s0I σ => s_Tw_priceSets_1 C IH v0R v1R s0I σ, fun v0R v1R v2I v3I σ => s_Tw_priceSets_2 C IH v0R v1R v2I v3I σ, fun v0R v1R v2I v3I v4I σ => s_Tw_priceSets_3 C IH v0R v1R v2I v3I v4I σ, fun v0R v1R v2I v3I s0R s1I s2I σ => s_Tw_priceSets_4 C IH v0R v1R v2I v3I s0R s1I s2I σ⟩
theorem c_Tw_priceSets (G : GX) (l : Launch) (v0R : Nat) (σ : AM) : CT eV G l 3 y_Tw_priceSets prog_12_method_28_code 5 (none) [.ref v0R] σ (M_Tw_priceSets v0R σ) := by
  refine ct_of (by decide +kernel) (Nat.le_of_ble_eq_true rfl) (fun p e s m args below meth c C hin => ?_)
  refine x_lve (lv' := [(0, .ref v0R)]) rfl ?_
  intro r σ' h
  obtain ⟨n, hn⟩ := (lp_iff _ _ _).mp h
  exact (i_Tw_priceSets C n).1 v0R σ r σ' hn
/-! BellPlate$Tower.take(LBellPlate$Tower;)V -/
abbrev y_Tw_take : MethodName := ⟨"BellPlate$Tower", "take", "(LBellPlate$Tower;)V"⟩
theorem k_Tw_take : y_Tw_take.cls ≠ "java/lang/invoke/MethodHandle" ∧ y_Tw_take.cls ≠ "java/lang/invoke/VarHandle" ∧ (parseMethodDescriptor y_Tw_take.desc).map (fun d => d.parameters.length) = some 1 := by decide +kernel
theorem d_Tw_take_0 : decode prog_12_method_3_code 0 = .ok (.aload_n 1, 1) := by decide +kernel
theorem d_Tw_take_1 : decode prog_12_method_3_code 1 = .ok (.getfield 11, 3) := by decide +kernel
theorem d_Tw_take_4 : decode prog_12_method_3_code 4 = .ok (.iconst 0, 1) := by decide +kernel
theorem d_Tw_take_5 : decode prog_12_method_3_code 5 = .ok (.aload_n 0, 1) := by decide +kernel
theorem d_Tw_take_6 : decode prog_12_method_3_code 6 = .ok (.getfield 11, 3) := by decide +kernel
theorem d_Tw_take_9 : decode prog_12_method_3_code 9 = .ok (.iconst 0, 1) := by decide +kernel
theorem d_Tw_take_10 : decode prog_12_method_3_code 10 = .ok (.bipush 6, 2) := by decide +kernel
theorem d_Tw_take_12 : decode prog_12_method_3_code 12 = .ok (.invokestatic 49, 3) := by decide +kernel
theorem d_Tw_take_15 : decode prog_12_method_3_code 15 = .ok (.aload_n 1, 1) := by decide +kernel
theorem d_Tw_take_16 : decode prog_12_method_3_code 16 = .ok (.getfield 15, 3) := by decide +kernel
theorem d_Tw_take_19 : decode prog_12_method_3_code 19 = .ok (.iconst 0, 1) := by decide +kernel
theorem d_Tw_take_20 : decode prog_12_method_3_code 20 = .ok (.aload_n 0, 1) := by decide +kernel
theorem d_Tw_take_21 : decode prog_12_method_3_code 21 = .ok (.getfield 15, 3) := by decide +kernel
theorem d_Tw_take_24 : decode prog_12_method_3_code 24 = .ok (.iconst 0, 1) := by decide +kernel
theorem d_Tw_take_25 : decode prog_12_method_3_code 25 = .ok (.sipush 1000, 3) := by decide +kernel
theorem d_Tw_take_28 : decode prog_12_method_3_code 28 = .ok (.invokestatic 49, 3) := by decide +kernel
theorem d_Tw_take_31 : decode prog_12_method_3_code 31 = .ok (.aload_n 1, 1) := by decide +kernel
theorem d_Tw_take_32 : decode prog_12_method_3_code 32 = .ok (.getfield 19, 3) := by decide +kernel
theorem d_Tw_take_35 : decode prog_12_method_3_code 35 = .ok (.iconst 0, 1) := by decide +kernel
theorem d_Tw_take_36 : decode prog_12_method_3_code 36 = .ok (.aload_n 0, 1) := by decide +kernel
theorem d_Tw_take_37 : decode prog_12_method_3_code 37 = .ok (.getfield 19, 3) := by decide +kernel
theorem d_Tw_take_40 : decode prog_12_method_3_code 40 = .ok (.iconst 0, 1) := by decide +kernel
theorem d_Tw_take_41 : decode prog_12_method_3_code 41 = .ok (.iconst 5, 1) := by decide +kernel
theorem d_Tw_take_42 : decode prog_12_method_3_code 42 = .ok (.invokestatic 49, 3) := by decide +kernel
theorem d_Tw_take_45 : decode prog_12_method_3_code 45 = .ok (.aload_n 1, 1) := by decide +kernel
theorem d_Tw_take_46 : decode prog_12_method_3_code 46 = .ok (.getfield 22, 3) := by decide +kernel
theorem d_Tw_take_49 : decode prog_12_method_3_code 49 = .ok (.iconst 0, 1) := by decide +kernel
theorem d_Tw_take_50 : decode prog_12_method_3_code 50 = .ok (.aload_n 0, 1) := by decide +kernel
theorem d_Tw_take_51 : decode prog_12_method_3_code 51 = .ok (.getfield 22, 3) := by decide +kernel
theorem d_Tw_take_54 : decode prog_12_method_3_code 54 = .ok (.iconst 0, 1) := by decide +kernel
theorem d_Tw_take_55 : decode prog_12_method_3_code 55 = .ok (.iconst 5, 1) := by decide +kernel
theorem d_Tw_take_56 : decode prog_12_method_3_code 56 = .ok (.invokestatic 49, 3) := by decide +kernel
theorem d_Tw_take_59 : decode prog_12_method_3_code 59 = .ok (.aload_n 0, 1) := by decide +kernel
theorem d_Tw_take_60 : decode prog_12_method_3_code 60 = .ok (.aload_n 1, 1) := by decide +kernel
theorem d_Tw_take_61 : decode prog_12_method_3_code 61 = .ok (.getfield 40, 3) := by decide +kernel
theorem d_Tw_take_64 : decode prog_12_method_3_code 64 = .ok (.putfield 40, 3) := by decide +kernel
theorem d_Tw_take_67 : decode prog_12_method_3_code 67 = .ok (.aload_n 0, 1) := by decide +kernel
theorem d_Tw_take_68 : decode prog_12_method_3_code 68 = .ok (.aload_n 1, 1) := by decide +kernel
theorem d_Tw_take_69 : decode prog_12_method_3_code 69 = .ok (.getfield 43, 3) := by decide +kernel
theorem d_Tw_take_72 : decode prog_12_method_3_code 72 = .ok (.putfield 43, 3) := by decide +kernel
theorem d_Tw_take_75 : decode prog_12_method_3_code 75 = .ok (.aload_n 0, 1) := by decide +kernel
theorem d_Tw_take_76 : decode prog_12_method_3_code 76 = .ok (.aload_n 1, 1) := by decide +kernel
theorem d_Tw_take_77 : decode prog_12_method_3_code 77 = .ok (.getfield 33, 3) := by decide +kernel
theorem d_Tw_take_80 : decode prog_12_method_3_code 80 = .ok (.putfield 33, 3) := by decide +kernel
theorem d_Tw_take_83 : decode prog_12_method_3_code 83 = .ok (.aload_n 0, 1) := by decide +kernel
theorem d_Tw_take_84 : decode prog_12_method_3_code 84 = .ok (.aload_n 1, 1) := by decide +kernel
theorem d_Tw_take_85 : decode prog_12_method_3_code 85 = .ok (.getfield 37, 3) := by decide +kernel
theorem d_Tw_take_88 : decode prog_12_method_3_code 88 = .ok (.putfield 37, 3) := by decide +kernel
theorem d_Tw_take_91 : decode prog_12_method_3_code 91 = .ok (.aload_n 0, 1) := by decide +kernel
theorem d_Tw_take_92 : decode prog_12_method_3_code 92 = .ok (.aload_n 1, 1) := by decide +kernel
theorem d_Tw_take_93 : decode prog_12_method_3_code 93 = .ok (.getfield 46, 3) := by decide +kernel
theorem d_Tw_take_96 : decode prog_12_method_3_code 96 = .ok (.putfield 46, 3) := by decide +kernel
theorem d_Tw_take_99 : decode prog_12_method_3_code 99 = .ok (.aload_n 0, 1) := by decide +kernel
theorem d_Tw_take_100 : decode prog_12_method_3_code 100 = .ok (.invokevirtual 55, 3) := by decide +kernel
theorem d_Tw_take_103 : decode prog_12_method_3_code 103 = .ok (.return_, 1) := by decide +kernel
abbrev S_Tw_take : Type := Nat × Nat × Nat × AM
noncomputable def T_Tw_take_0 (v0R : Nat) (v1R : Nat) (σ : AM) : S_Tw_take ⊕ Option (Unit × AM) :=
  gdT (okO σ v1R 1) <| gdT (okO σ (aR σ v1R 0) 102) <| gdT (okO σ v0R 1) <| gdT (okO σ (aR σ v0R 0) 102) <| gdT (okC σ (aR σ v1R 0) (aR σ v0R 0) (0 : Int32) (0 : Int32) (6 : Int32)) <| letT (cpL σ (aR σ v1R 0) (0 : Int32).toNatClampNeg (aR σ v0R 0) (0 : Int32).toNatClampNeg (6 : Int32).toNatClampNeg) fun σ6 => gdT (okO σ6 (aR σ6 v1R 1) 101) <| gdT (okO σ6 (aR σ6 v0R 1) 101) <| gdT (okC σ6 (aR σ6 v1R 1) (aR σ6 v0R 1) (0 : Int32) (0 : Int32) (1000 : Int32)) <| letT (cpI σ6 (aR σ6 v1R 1) (0 : Int32).toNatClampNeg (aR σ6 v0R 1) (0 : Int32).toNatClampNeg (1000 : Int32).toNatClampNeg) fun σ11 => gdT (okO σ11 (aR σ11 v1R 2) 101) <| gdT (okO σ11 (aR σ11 v0R 2) 101) <| gdT (okC σ11 (aR σ11 v1R 2) (aR σ11 v0R 2) (0 : Int32) (0 : Int32) (5 : Int32)) <| letT (cpI σ11 (aR σ11 v1R 2) (0 : Int32).toNatClampNeg (aR σ11 v0R 2) (0 : Int32).toNatClampNeg (5 : Int32).toNatClampNeg) fun σ16 => gdT (okO σ16 (aR σ16 v1R 3) 101) <| gdT (okO σ16 (aR σ16 v0R 3) 101) <| gdT (okC σ16 (aR σ16 v1R 3) (aR σ16 v0R 3) (0 : Int32) (0 : Int32) (5 : Int32)) <| letT (cpI σ16 (aR σ16 v1R 3) (0 : Int32).toNatClampNeg (aR σ16 v0R 3) (0 : Int32).toNatClampNeg (5 : Int32).toNatClampNeg) fun σ21 => letT (sI σ21 v0R 6 (aI σ21 v1R 6)) fun σ23 => letT (sI σ23 v0R 7 (aI σ23 v1R 7)) fun σ25 => letT (sI σ25 v0R 8 (aI σ25 v1R 8)) fun σ27 => letT (sI σ27 v0R 9 (aI σ27 v1R 9)) fun σ29 => letT (sI σ29 v0R 10 (aI σ29 v1R 10)) fun σ31 => bndT (M_Tw_priceSets v0R σ31) fun _ σ34 => .inr (some ((), σ34))
noncomputable def F_Tw_take : S_Tw_take → S_Tw_take ⊕ Option (Unit × AM) := fun s => match s.1 with
  | _ => T_Tw_take_0 (s.2.1) (s.2.2.1) (s.2.2.2)
noncomputable def L_Tw_take_0 (v0R : Nat) (v1R : Nat) (σ : AM) : Option (Unit × AM) := lp F_Tw_take (0, v0R, v1R, σ)
set_option maxRecDepth 20000 in
theorem E_Tw_take_0 (v0R : Nat) (v1R : Nat) (σ : AM) : L_Tw_take_0 v0R v1R σ = (gd (okO σ v1R 1) <| gd (okO σ (aR σ v1R 0) 102) <| gd (okO σ v0R 1) <| gd (okO σ (aR σ v0R 0) 102) <| gd (okC σ (aR σ v1R 0) (aR σ v0R 0) (0 : Int32) (0 : Int32) (6 : Int32)) <| letT (cpL σ (aR σ v1R 0) (0 : Int32).toNatClampNeg (aR σ v0R 0) (0 : Int32).toNatClampNeg (6 : Int32).toNatClampNeg) fun σ6 => gd (okO σ6 (aR σ6 v1R 1) 101) <| gd (okO σ6 (aR σ6 v0R 1) 101) <| gd (okC σ6 (aR σ6 v1R 1) (aR σ6 v0R 1) (0 : Int32) (0 : Int32) (1000 : Int32)) <| letT (cpI σ6 (aR σ6 v1R 1) (0 : Int32).toNatClampNeg (aR σ6 v0R 1) (0 : Int32).toNatClampNeg (1000 : Int32).toNatClampNeg) fun σ11 => gd (okO σ11 (aR σ11 v1R 2) 101) <| gd (okO σ11 (aR σ11 v0R 2) 101) <| gd (okC σ11 (aR σ11 v1R 2) (aR σ11 v0R 2) (0 : Int32) (0 : Int32) (5 : Int32)) <| letT (cpI σ11 (aR σ11 v1R 2) (0 : Int32).toNatClampNeg (aR σ11 v0R 2) (0 : Int32).toNatClampNeg (5 : Int32).toNatClampNeg) fun σ16 => gd (okO σ16 (aR σ16 v1R 3) 101) <| gd (okO σ16 (aR σ16 v0R 3) 101) <| gd (okC σ16 (aR σ16 v1R 3) (aR σ16 v0R 3) (0 : Int32) (0 : Int32) (5 : Int32)) <| letT (cpI σ16 (aR σ16 v1R 3) (0 : Int32).toNatClampNeg (aR σ16 v0R 3) (0 : Int32).toNatClampNeg (5 : Int32).toNatClampNeg) fun σ21 => letT (sI σ21 v0R 6 (aI σ21 v1R 6)) fun σ23 => letT (sI σ23 v0R 7 (aI σ23 v1R 7)) fun σ25 => letT (sI σ25 v0R 8 (aI σ25 v1R 8)) fun σ27 => letT (sI σ27 v0R 9 (aI σ27 v1R 9)) fun σ29 => letT (sI σ29 v0R 10 (aI σ29 v1R 10)) fun σ31 => bnd (M_Tw_priceSets v0R σ31) fun _ σ34 => (some ((), σ34))) := by
  unfold L_Tw_take_0
  rw [lp_eq]
  show lpK (lp F_Tw_take) (T_Tw_take_0 v0R v1R σ) = _
  unfold T_Tw_take_0
  simp only [lpK_ite, lq_inl, lq_inr, lpK_bnd, lpK_gd, lq_let]
  try rfl
noncomputable def M_Tw_take (v0R : Nat) (v1R : Nat) (σ : AM) : Option (Unit × AM) := mw σ (L_Tw_take_0 v0R v1R σ)
def I_Tw_take (G : GX) (p : Program) (l : Launch) (e : Env) (s : State) (m : MethodId) (args : Array Value) (below : List Frame) (meth : Method) (c : Code) (z0 u0 n : Nat) : Prop :=
  (∀ (v0R : Nat) (v1R : Nat) (σ : AM), VX (QM eV G args s below z0 u0) G p l e s m args below meth c 4 z0 u0 2 (lpn F_Tw_take n (0, v0R, v1R, σ)) 0 [(0, .ref v0R), (1, .ref v1R)] [] σ)
set_option maxRecDepth 20000 in
theorem s_Tw_take_0 {G : GX} {p : Program} {l : Launch} {e : Env} {s : State} {m : MethodId} {args : Array Value} {below : List Frame} {meth : Method} {c : Code} {z0 u0 n : Nat} (C : Cx G p s m args meth c prog_12_method_3_code 2 "BellPlate$Tower" ((none))) (IH : I_Tw_take G p l e s m args below meth c z0 u0 n) (v0R : Nat) (v1R : Nat) (σ : AM) : VX (QM eV G args s below z0 u0) G p l e s m args below meth c 4 z0 u0 2 (lpK (lpn F_Tw_take n) (T_Tw_take_0 v0R v1R σ)) 0 [(0, .ref v0R), (1, .ref v1R)] [] σ := by
  unfold T_Tw_take_0
  refine x_aload_n C d_Tw_take_0 1 rfl ?_
  refine x_gd (fun h1 => ?_)
  refine x_gd (fun h2 => ?_)
  refine x_getR (k := 0) (kv := 102) C (okO_iff.mp h1) rfl j0_ok (by decide) rfl (okO_iff.mp h2) (by decide) w167 d_Tw_take_1 ?_
  refine x_iconst (v := (0 : Int32)) C d_Tw_take_4 (by decide) ?_
  refine x_aload_n C d_Tw_take_5 0 rfl ?_
  refine x_gd (fun h3 => ?_)
  refine x_gd (fun h4 => ?_)
  refine x_getR (k := 0) (kv := 102) C (okO_iff.mp h3) rfl j0_ok (by decide) rfl (okO_iff.mp h4) (by decide) w167 d_Tw_take_6 ?_
  refine x_iconst (v := (0 : Int32)) C d_Tw_take_9 (by decide) ?_
  refine x_bipush (v := (6 : Int32)) C d_Tw_take_10 (by decide) ?_
  refine x_gd (fun h5 => ?_)
  refine x_cpyJ C w964 w966 w965 w140 (okO_iff.mp h2) (okO_iff.mp h4) h5 (by decide) (Nat.le_of_ble_eq_true rfl) d_Tw_take_12 ?_
  refine x_letS (fun σ6 e7 => ?_)
  refine x_aload_n C d_Tw_take_15 1 rfl ?_
  refine x_gd (fun h8 => ?_)
  refine x_getR (k := 1) (kv := 101) C (by first | exact (okO_iff.mp h1) | (rw [e7]; exact (okO_iff.mp h1))) rfl j0_ok (by decide) rfl (okO_iff.mp h8) (by decide) w168 d_Tw_take_16 ?_
  refine x_iconst (v := (0 : Int32)) C d_Tw_take_19 (by decide) ?_
  refine x_aload_n C d_Tw_take_20 0 rfl ?_
  refine x_gd (fun h9 => ?_)
  refine x_getR (k := 1) (kv := 101) C (by first | exact (okO_iff.mp h3) | (rw [e7]; exact (okO_iff.mp h3))) rfl j0_ok (by decide) rfl (okO_iff.mp h9) (by decide) w168 d_Tw_take_21 ?_
  refine x_iconst (v := (0 : Int32)) C d_Tw_take_24 (by decide) ?_
  refine x_sipush (v := (1000 : Int32)) C d_Tw_take_25 (by decide) ?_
  refine x_gd (fun h10 => ?_)
  refine x_cpyI C w964 w966 w965 w140 (okO_iff.mp h8) (okO_iff.mp h9) h10 (by decide) (Nat.le_of_ble_eq_true rfl) d_Tw_take_28 ?_
  refine x_letS (fun σ11 e12 => ?_)
  refine x_aload_n C d_Tw_take_31 1 rfl ?_
  refine x_gd (fun h13 => ?_)
  refine x_getR (k := 2) (kv := 101) C (by first | exact (okO_iff.mp h1) | (rw [e12, e7]; exact (okO_iff.mp h1))) rfl j0_ok (by decide) rfl (okO_iff.mp h13) (by decide) w169 d_Tw_take_32 ?_
  refine x_iconst (v := (0 : Int32)) C d_Tw_take_35 (by decide) ?_
  refine x_aload_n C d_Tw_take_36 0 rfl ?_
  refine x_gd (fun h14 => ?_)
  refine x_getR (k := 2) (kv := 101) C (by first | exact (okO_iff.mp h3) | (rw [e12, e7]; exact (okO_iff.mp h3))) rfl j0_ok (by decide) rfl (okO_iff.mp h14) (by decide) w169 d_Tw_take_37 ?_
  refine x_iconst (v := (0 : Int32)) C d_Tw_take_40 (by decide) ?_
  refine x_iconst (v := (5 : Int32)) C d_Tw_take_41 (by decide) ?_
  refine x_gd (fun h15 => ?_)
  refine x_cpyI C w964 w966 w965 w140 (okO_iff.mp h13) (okO_iff.mp h14) h15 (by decide) (Nat.le_of_ble_eq_true rfl) d_Tw_take_42 ?_
  refine x_letS (fun σ16 e17 => ?_)
  refine x_aload_n C d_Tw_take_45 1 rfl ?_
  refine x_gd (fun h18 => ?_)
  refine x_getR (k := 3) (kv := 101) C (by first | exact (okO_iff.mp h1) | (rw [e17, e12, e7]; exact (okO_iff.mp h1))) rfl j0_ok (by decide) rfl (okO_iff.mp h18) (by decide) w170 d_Tw_take_46 ?_
  refine x_iconst (v := (0 : Int32)) C d_Tw_take_49 (by decide) ?_
  refine x_aload_n C d_Tw_take_50 0 rfl ?_
  refine x_gd (fun h19 => ?_)
  refine x_getR (k := 3) (kv := 101) C (by first | exact (okO_iff.mp h3) | (rw [e17, e12, e7]; exact (okO_iff.mp h3))) rfl j0_ok (by decide) rfl (okO_iff.mp h19) (by decide) w170 d_Tw_take_51 ?_
  refine x_iconst (v := (0 : Int32)) C d_Tw_take_54 (by decide) ?_
  refine x_iconst (v := (5 : Int32)) C d_Tw_take_55 (by decide) ?_
  refine x_gd (fun h20 => ?_)
  refine x_cpyI C w964 w966 w965 w140 (okO_iff.mp h18) (okO_iff.mp h19) h20 (by decide) (Nat.le_of_ble_eq_true rfl) d_Tw_take_56 ?_
  refine x_letS (fun σ21 e22 => ?_)
  refine x_aload_n C d_Tw_take_59 0 rfl ?_
  refine x_aload_n C d_Tw_take_60 1 rfl ?_
  refine x_getI (k := 6) C (by first | exact (okO_iff.mp h1) | (rw [e22, e17, e12, e7]; exact (okO_iff.mp h1))) rfl j0_ok (by decide) rfl w173 d_Tw_take_61 ?_
  refine x_putI (k := 6) C (by first | exact (okO_iff.mp h3) | (rw [e22, e17, e12, e7]; exact (okO_iff.mp h3))) rfl j0_ok y0_ok n0_ok (by decide) rfl rfl rfl rfl w173 d_Tw_take_64 ?_
  refine x_letS (fun σ23 e24 => ?_)
  refine x_aload_n C d_Tw_take_67 0 rfl ?_
  refine x_aload_n C d_Tw_take_68 1 rfl ?_
  refine x_getI (k := 7) C (by first | exact (okO_iff.mp h1) | (rw [e24, e22, e17, e12, e7]; exact (okO_iff.mp h1))) rfl j0_ok (by decide) rfl w174 d_Tw_take_69 ?_
  refine x_putI (k := 7) C (by first | exact (okO_iff.mp h3) | (rw [e24, e22, e17, e12, e7]; exact (okO_iff.mp h3))) rfl j0_ok y0_ok n0_ok (by decide) rfl rfl rfl rfl w174 d_Tw_take_72 ?_
  refine x_letS (fun σ25 e26 => ?_)
  refine x_aload_n C d_Tw_take_75 0 rfl ?_
  refine x_aload_n C d_Tw_take_76 1 rfl ?_
  refine x_getI (k := 8) C (by first | exact (okO_iff.mp h1) | (rw [e26, e24, e22, e17, e12, e7]; exact (okO_iff.mp h1))) rfl j0_ok (by decide) rfl w175 d_Tw_take_77 ?_
  refine x_putI (k := 8) C (by first | exact (okO_iff.mp h3) | (rw [e26, e24, e22, e17, e12, e7]; exact (okO_iff.mp h3))) rfl j0_ok y0_ok n0_ok (by decide) rfl rfl rfl rfl w175 d_Tw_take_80 ?_
  refine x_letS (fun σ27 e28 => ?_)
  refine x_aload_n C d_Tw_take_83 0 rfl ?_
  refine x_aload_n C d_Tw_take_84 1 rfl ?_
  refine x_getI (k := 9) C (by first | exact (okO_iff.mp h1) | (rw [e28, e26, e24, e22, e17, e12, e7]; exact (okO_iff.mp h1))) rfl j0_ok (by decide) rfl w176 d_Tw_take_85 ?_
  refine x_putI (k := 9) C (by first | exact (okO_iff.mp h3) | (rw [e28, e26, e24, e22, e17, e12, e7]; exact (okO_iff.mp h3))) rfl j0_ok y0_ok n0_ok (by decide) rfl rfl rfl rfl w176 d_Tw_take_88 ?_
  refine x_letS (fun σ29 e30 => ?_)
  refine x_aload_n C d_Tw_take_91 0 rfl ?_
  refine x_aload_n C d_Tw_take_92 1 rfl ?_
  refine x_getI (k := 10) C (by first | exact (okO_iff.mp h1) | (rw [e30, e28, e26, e24, e22, e17, e12, e7]; exact (okO_iff.mp h1))) rfl j0_ok (by decide) rfl w177 d_Tw_take_93 ?_
  refine x_putI (k := 10) C (by first | exact (okO_iff.mp h3) | (rw [e30, e28, e26, e24, e22, e17, e12, e7]; exact (okO_iff.mp h3))) rfl j0_ok y0_ok n0_ok (by decide) rfl rfl rfl rfl w177 d_Tw_take_96 ?_
  refine x_letS (fun σ31 e32 => ?_)
  refine x_aload_n C d_Tw_take_99 0 rfl ?_
  refine x_callVV (As := []) C (c_Tw_priceSets G l v0R  σ31) (by first | exact (okO_iff.mp h3) | (rw [e32, e30, e28, e26, e24, e22, e17, e12, e7]; exact (okO_iff.mp h3))) rfl w596 w597 w967 w598 w122 k_Tw_priceSets rfl (by decide) (by decide) rfl (Nat.le_of_ble_eq_true rfl) d_Tw_take_100 (fun r33 σ34 => ?_)
  exact x_vret C d_Tw_take_103
theorem i_Tw_take {G : GX} {p : Program} {l : Launch} {e : Env} {s : State} {m : MethodId} {args : Array Value} {below : List Frame} {meth : Method} {c : Code} {z0 u0 : Nat} (C : Cx G p s m args meth c prog_12_method_3_code 2 "BellPlate$Tower" ((none))) (n : Nat) : I_Tw_take G p l e s m args below meth c z0 u0 n := by
  induction n with
  | zero => exact fun _ _ _ => x_none
  | succ n IH => exact fun v0R v1R σ => s_Tw_take_0 C IH v0R v1R σ
theorem c_Tw_take (G : GX) (l : Launch) (v0R : Nat) (v1R : Nat) (σ : AM) : CT eV G l 4 y_Tw_take prog_12_method_3_code 2 (none) [.ref v0R, .ref v1R] σ (M_Tw_take v0R v1R σ) := by
  refine ct_of (by decide +kernel) (Nat.le_of_ble_eq_true rfl) (fun p e s m args below meth c C hin => ?_)
  refine x_lve (lv' := [(0, .ref v0R), (1, .ref v1R)]) rfl ?_
  intro r σ' h
  obtain ⟨n, hn⟩ := (lp_iff _ _ _).mp h
  exact (i_Tw_take C n) v0R v1R σ r σ' hn
/-! BellPlate$Tower.allSets()J -/
abbrev y_Tw_allSets : MethodName := ⟨"BellPlate$Tower", "allSets", "()J"⟩
theorem k_Tw_allSets : y_Tw_allSets.cls ≠ "java/lang/invoke/MethodHandle" ∧ y_Tw_allSets.cls ≠ "java/lang/invoke/VarHandle" ∧ (parseMethodDescriptor y_Tw_allSets.desc).map (fun d => d.parameters.length) = some 0 := by decide +kernel
theorem d_Tw_allSets_0 : decode prog_12_method_19_code 0 = .ok (.aload_n 0, 1) := by decide +kernel
theorem d_Tw_allSets_1 : decode prog_12_method_19_code 1 = .ok (.getfield 43, 3) := by decide +kernel
theorem d_Tw_allSets_4 : decode prog_12_method_19_code 4 = .ok (.bipush 6, 2) := by decide +kernel
theorem d_Tw_allSets_6 : decode prog_12_method_19_code 6 = .ok (.if_icmp .lt 9, 3) := by decide +kernel
theorem d_Tw_allSets_9 : decode prog_12_method_19_code 9 = .ok (.ldc2_w 58, 3) := by decide +kernel
theorem d_Tw_allSets_12 : decode prog_12_method_19_code 12 = .ok (.goto 11, 3) := by decide +kernel
theorem d_Tw_allSets_15 : decode prog_12_method_19_code 15 = .ok (.lconst 1, 1) := by decide +kernel
theorem d_Tw_allSets_16 : decode prog_12_method_19_code 16 = .ok (.aload_n 0, 1) := by decide +kernel
theorem d_Tw_allSets_17 : decode prog_12_method_19_code 17 = .ok (.invokevirtual 60, 3) := by decide +kernel
theorem d_Tw_allSets_20 : decode prog_12_method_19_code 20 = .ok (.lshl, 1) := by decide +kernel
theorem d_Tw_allSets_21 : decode prog_12_method_19_code 21 = .ok (.lconst 1, 1) := by decide +kernel
theorem d_Tw_allSets_22 : decode prog_12_method_19_code 22 = .ok (.lsub, 1) := by decide +kernel
theorem d_Tw_allSets_23 : decode prog_12_method_19_code 23 = .ok (.lreturn, 1) := by decide +kernel
abbrev S_Tw_allSets : Type := Nat × Nat × Int64 × AM
noncomputable def T_Tw_allSets_0 (v0R : Nat) (σ : AM) : S_Tw_allSets ⊕ Option (Int64 × AM) :=
  gdT (okO σ v0R 1) <| if (aI σ v0R 7) < (6 : Int32) then (bndT (M_Tw_sets v0R σ) fun r2 σ3 => .inl (1, 0, ((1 : Int64) <<< (r2.toInt64 &&& 63)) - (1 : Int64), σ3)) else (.inl (1, 0, ((-1) : Int64), σ))
noncomputable def T_Tw_allSets_1 (s0J : Int64) (σ : AM) : S_Tw_allSets ⊕ Option (Int64 × AM) :=
  .inr (some (s0J, σ))
noncomputable def F_Tw_allSets : S_Tw_allSets → S_Tw_allSets ⊕ Option (Int64 × AM) := fun s => match s.1 with
  | 0 => T_Tw_allSets_0 (s.2.1) (s.2.2.2)
  | _ => T_Tw_allSets_1 (s.2.2.1) (s.2.2.2)
noncomputable def L_Tw_allSets_0 (v0R : Nat) (σ : AM) : Option (Int64 × AM) := lp F_Tw_allSets (0, v0R, 0, σ)
noncomputable def L_Tw_allSets_1 (s0J : Int64) (σ : AM) : Option (Int64 × AM) := lp F_Tw_allSets (1, 0, s0J, σ)
set_option maxRecDepth 20000 in
theorem E_Tw_allSets_0 (v0R : Nat) (σ : AM) : L_Tw_allSets_0 v0R σ = (gd (okO σ v0R 1) <| if (aI σ v0R 7) < (6 : Int32) then (bnd (M_Tw_sets v0R σ) fun r2 σ3 => L_Tw_allSets_1 (((1 : Int64) <<< (r2.toInt64 &&& 63)) - (1 : Int64)) σ3) else (L_Tw_allSets_1 (((-1) : Int64)) σ)) := by
  unfold L_Tw_allSets_0
  rw [lp_eq]
  show lpK (lp F_Tw_allSets) (T_Tw_allSets_0 v0R σ) = _
  unfold T_Tw_allSets_0
  simp only [lpK_ite, lq_inl, lq_inr, lpK_bnd, lpK_gd, lq_let]
  try rfl
set_option maxRecDepth 20000 in
theorem E_Tw_allSets_1 (s0J : Int64) (σ : AM) : L_Tw_allSets_1 s0J σ = ((some (s0J, σ))) := by
  unfold L_Tw_allSets_1
  rw [lp_eq]
  show lpK (lp F_Tw_allSets) (T_Tw_allSets_1 s0J σ) = _
  unfold T_Tw_allSets_1
  simp only [lpK_ite, lq_inl, lq_inr, lpK_bnd, lpK_gd, lq_let]
  try rfl
noncomputable def M_Tw_allSets (v0R : Nat) (σ : AM) : Option (Int64 × AM) := mw σ (L_Tw_allSets_0 v0R σ)
def I_Tw_allSets (G : GX) (p : Program) (l : Launch) (e : Env) (s : State) (m : MethodId) (args : Array Value) (below : List Frame) (meth : Method) (c : Code) (z0 u0 n : Nat) : Prop :=
  (∀ (v0R : Nat) (σ : AM), VX (QM eJ G args s below z0 u0) G p l e s m args below meth c 1 z0 u0 1 (lpn F_Tw_allSets n (0, v0R, 0, σ)) 0 [(0, .ref v0R)] [] σ) ∧
  (∀ (s0J : Int64) (σ : AM), VX (QM eJ G args s below z0 u0) G p l e s m args below meth c 1 z0 u0 1 (lpn F_Tw_allSets n (1, 0, s0J, σ)) 23 [] [.long s0J] σ)
set_option maxRecDepth 20000 in
theorem s_Tw_allSets_0 {G : GX} {p : Program} {l : Launch} {e : Env} {s : State} {m : MethodId} {args : Array Value} {below : List Frame} {meth : Method} {c : Code} {z0 u0 n : Nat} (C : Cx G p s m args meth c prog_12_method_19_code 1 "BellPlate$Tower" ((some FieldType.long))) (IH : I_Tw_allSets G p l e s m args below meth c z0 u0 n) (v0R : Nat) (σ : AM) : VX (QM eJ G args s below z0 u0) G p l e s m args below meth c 1 z0 u0 1 (lpK (lpn F_Tw_allSets n) (T_Tw_allSets_0 v0R σ)) 0 [(0, .ref v0R)] [] σ := by
  unfold T_Tw_allSets_0
  refine x_aload_n C d_Tw_allSets_0 0 rfl ?_
  refine x_gd (fun h1 => ?_)
  refine x_getI (k := 7) C (okO_iff.mp h1) rfl j0_ok (by decide) rfl w174 d_Tw_allSets_1 ?_
  refine x_bipush (v := (6 : Int32)) C d_Tw_allSets_4 (by decide) ?_
  refine x_icmp_lt (tgt := 15) C d_Tw_allSets_6 (by decide) (fun _ => ?_) (fun _ => ?_)
  · refine x_lconst (v := (1 : Int64)) C d_Tw_allSets_15 (by decide) ?_
    refine x_aload_n C d_Tw_allSets_16 0 rfl ?_
    refine x_callVI (As := []) C (c_Tw_sets G l v0R  σ) (okO_iff.mp h1) rfl w600 w601 w599 w602 w122 k_Tw_sets rfl (by decide) (by decide) rfl (Nat.le_of_ble_eq_true rfl) d_Tw_allSets_17 (fun r2 σ3 => ?_)
    refine x_lshl C d_Tw_allSets_20 ?_
    refine x_lconst (v := (1 : Int64)) C d_Tw_allSets_21 (by decide) ?_
    refine x_lsub C d_Tw_allSets_22 ?_
    refine x_lv [] rfl ?_
    exact IH.2 (((1 : Int64) <<< (r2.toInt64 &&& 63)) - (1 : Int64)) (σ3)
  · refine x_ldc2 C d_Tw_allSets_9 w1621 ?_
    refine x_goto (tgt := 23) C d_Tw_allSets_12 (by decide) ?_
    refine x_lv [] rfl ?_
    exact IH.2 (((-1) : Int64)) (σ)
set_option maxRecDepth 20000 in
theorem s_Tw_allSets_1 {G : GX} {p : Program} {l : Launch} {e : Env} {s : State} {m : MethodId} {args : Array Value} {below : List Frame} {meth : Method} {c : Code} {z0 u0 n : Nat} (C : Cx G p s m args meth c prog_12_method_19_code 1 "BellPlate$Tower" ((some FieldType.long))) (IH : I_Tw_allSets G p l e s m args below meth c z0 u0 n) (s0J : Int64) (σ : AM) : VX (QM eJ G args s below z0 u0) G p l e s m args below meth c 1 z0 u0 1 (lpK (lpn F_Tw_allSets n) (T_Tw_allSets_1 s0J σ)) 23 [] [.long s0J] σ := by
  unfold T_Tw_allSets_1
  exact x_lret C d_Tw_allSets_23
theorem i_Tw_allSets {G : GX} {p : Program} {l : Launch} {e : Env} {s : State} {m : MethodId} {args : Array Value} {below : List Frame} {meth : Method} {c : Code} {z0 u0 : Nat} (C : Cx G p s m args meth c prog_12_method_19_code 1 "BellPlate$Tower" ((some FieldType.long))) (n : Nat) : I_Tw_allSets G p l e s m args below meth c z0 u0 n := by
  induction n with
  | zero => exact ⟨fun _ _ => x_none, fun _ _ => x_none⟩
  | succ n IH => exact ⟨fun v0R σ => s_Tw_allSets_0 C IH v0R σ, fun s0J σ => s_Tw_allSets_1 C IH s0J σ⟩
theorem c_Tw_allSets (G : GX) (l : Launch) (v0R : Nat) (σ : AM) : CT eJ G l 1 y_Tw_allSets prog_12_method_19_code 1 ((some FieldType.long)) [.ref v0R] σ (M_Tw_allSets v0R σ) := by
  refine ct_of (by decide +kernel) (Nat.le_of_ble_eq_true rfl) (fun p e s m args below meth c C hin => ?_)
  refine x_lve (lv' := [(0, .ref v0R)]) rfl ?_
  intro r σ' h
  obtain ⟨n, hn⟩ := (lp_iff _ _ _).mp h
  exact (i_Tw_allSets C n).1 v0R σ r σ' hn
/-! BellPlate$Tower.hasWeights(I)Z -/
abbrev y_Tw_hasWeights : MethodName := ⟨"BellPlate$Tower", "hasWeights", "(I)Z"⟩
theorem k_Tw_hasWeights : y_Tw_hasWeights.cls ≠ "java/lang/invoke/MethodHandle" ∧ y_Tw_hasWeights.cls ≠ "java/lang/invoke/VarHandle" ∧ (parseMethodDescriptor y_Tw_hasWeights.desc).map (fun d => d.parameters.length) = some 1 := by decide +kernel
theorem d_Tw_hasWeights_0 : decode prog_12_method_20_code 0 = .ok (.iload_n 1, 1) := by decide +kernel
theorem d_Tw_hasWeights_1 : decode prog_12_method_20_code 1 = .ok (.ifCond .lt 15, 3) := by decide +kernel
theorem d_Tw_hasWeights_4 : decode prog_12_method_20_code 4 = .ok (.iload_n 1, 1) := by decide +kernel
theorem d_Tw_hasWeights_5 : decode prog_12_method_20_code 5 = .ok (.aload_n 0, 1) := by decide +kernel
theorem d_Tw_hasWeights_6 : decode prog_12_method_20_code 6 = .ok (.invokevirtual 64, 3) := by decide +kernel
theorem d_Tw_hasWeights_9 : decode prog_12_method_20_code 9 = .ok (.if_icmp .ge 7, 3) := by decide +kernel
theorem d_Tw_hasWeights_12 : decode prog_12_method_20_code 12 = .ok (.iconst 1, 1) := by decide +kernel
theorem d_Tw_hasWeights_13 : decode prog_12_method_20_code 13 = .ok (.goto 4, 3) := by decide +kernel
theorem d_Tw_hasWeights_16 : decode prog_12_method_20_code 16 = .ok (.iconst 0, 1) := by decide +kernel
theorem d_Tw_hasWeights_17 : decode prog_12_method_20_code 17 = .ok (.ireturn, 1) := by decide +kernel
abbrev S_Tw_hasWeights : Type := Nat × Nat × Int32 × Int32 × AM
noncomputable def T_Tw_hasWeights_0 (v0R : Nat) (v1I : Int32) (σ : AM) : S_Tw_hasWeights ⊕ Option (Int32 × AM) :=
  if v1I < 0 then (.inl (1, 0, 0, 0, σ)) else (gdT (okO σ v0R 1) <| bndT (M_Tw_all v0R σ) fun r1 σ2 => if v1I < r1 then (.inl (2, 0, 0, (1 : Int32), σ2)) else (.inl (1, 0, 0, 0, σ2)))
noncomputable def T_Tw_hasWeights_1  (σ : AM) : S_Tw_hasWeights ⊕ Option (Int32 × AM) :=
  .inl (2, 0, 0, (0 : Int32), σ)
noncomputable def T_Tw_hasWeights_2 (s0I : Int32) (σ : AM) : S_Tw_hasWeights ⊕ Option (Int32 × AM) :=
  gdT (isB s0I) <| .inr (some (s0I, σ))
noncomputable def F_Tw_hasWeights : S_Tw_hasWeights → S_Tw_hasWeights ⊕ Option (Int32 × AM) := fun s => match s.1 with
  | 0 => T_Tw_hasWeights_0 (s.2.1) (s.2.2.1) (s.2.2.2.2)
  | 1 => T_Tw_hasWeights_1  (s.2.2.2.2)
  | _ => T_Tw_hasWeights_2 (s.2.2.2.1) (s.2.2.2.2)
noncomputable def L_Tw_hasWeights_0 (v0R : Nat) (v1I : Int32) (σ : AM) : Option (Int32 × AM) := lp F_Tw_hasWeights (0, v0R, v1I, 0, σ)
noncomputable def L_Tw_hasWeights_1  (σ : AM) : Option (Int32 × AM) := lp F_Tw_hasWeights (1, 0, 0, 0, σ)
noncomputable def L_Tw_hasWeights_2 (s0I : Int32) (σ : AM) : Option (Int32 × AM) := lp F_Tw_hasWeights (2, 0, 0, s0I, σ)
set_option maxRecDepth 20000 in
theorem E_Tw_hasWeights_0 (v0R : Nat) (v1I : Int32) (σ : AM) : L_Tw_hasWeights_0 v0R v1I σ = (if v1I < 0 then (L_Tw_hasWeights_1 σ) else (gd (okO σ v0R 1) <| bnd (M_Tw_all v0R σ) fun r1 σ2 => if v1I < r1 then (L_Tw_hasWeights_2 ((1 : Int32)) σ2) else (L_Tw_hasWeights_1 σ2))) := by
  unfold L_Tw_hasWeights_0
  rw [lp_eq]
  show lpK (lp F_Tw_hasWeights) (T_Tw_hasWeights_0 v0R v1I σ) = _
  unfold T_Tw_hasWeights_0
  simp only [lpK_ite, lq_inl, lq_inr, lpK_bnd, lpK_gd, lq_let]
  try rfl
set_option maxRecDepth 20000 in
theorem E_Tw_hasWeights_1  (σ : AM) : L_Tw_hasWeights_1  σ = (L_Tw_hasWeights_2 ((0 : Int32)) σ) := by
  unfold L_Tw_hasWeights_1
  rw [lp_eq]
  show lpK (lp F_Tw_hasWeights) (T_Tw_hasWeights_1  σ) = _
  unfold T_Tw_hasWeights_1
  simp only [lpK_ite, lq_inl, lq_inr, lpK_bnd, lpK_gd, lq_let]
  try rfl
set_option maxRecDepth 20000 in
theorem E_Tw_hasWeights_2 (s0I : Int32) (σ : AM) : L_Tw_hasWeights_2 s0I σ = (gd (isB s0I) <| (some (s0I, σ))) := by
  unfold L_Tw_hasWeights_2
  rw [lp_eq]
  show lpK (lp F_Tw_hasWeights) (T_Tw_hasWeights_2 s0I σ) = _
  unfold T_Tw_hasWeights_2
  simp only [lpK_ite, lq_inl, lq_inr, lpK_bnd, lpK_gd, lq_let]
  try rfl
noncomputable def M_Tw_hasWeights (v0R : Nat) (v1I : Int32) (σ : AM) : Option (Int32 × AM) := mw σ (L_Tw_hasWeights_0 v0R v1I σ)
def I_Tw_hasWeights (G : GX) (p : Program) (l : Launch) (e : Env) (s : State) (m : MethodId) (args : Array Value) (below : List Frame) (meth : Method) (c : Code) (z0 u0 n : Nat) : Prop :=
  (∀ (v0R : Nat) (v1I : Int32) (σ : AM), VX (QM eI G args s below z0 u0) G p l e s m args below meth c 1 z0 u0 2 (lpn F_Tw_hasWeights n (0, v0R, v1I, 0, σ)) 0 [(0, .ref v0R), (1, .int v1I)] [] σ) ∧
  (∀ (σ : AM), VX (QM eI G args s below z0 u0) G p l e s m args below meth c 1 z0 u0 2 (lpn F_Tw_hasWeights n (1, 0, 0, 0, σ)) 16 [] [] σ) ∧
  (∀ (s0I : Int32) (σ : AM), VX (QM eI G args s below z0 u0) G p l e s m args below meth c 1 z0 u0 2 (lpn F_Tw_hasWeights n (2, 0, 0, s0I, σ)) 17 [] [.int s0I] σ)
set_option maxRecDepth 20000 in
theorem s_Tw_hasWeights_0 {G : GX} {p : Program} {l : Launch} {e : Env} {s : State} {m : MethodId} {args : Array Value} {below : List Frame} {meth : Method} {c : Code} {z0 u0 n : Nat} (C : Cx G p s m args meth c prog_12_method_20_code 2 "BellPlate$Tower" ((some FieldType.boolean))) (IH : I_Tw_hasWeights G p l e s m args below meth c z0 u0 n) (v0R : Nat) (v1I : Int32) (σ : AM) : VX (QM eI G args s below z0 u0) G p l e s m args below meth c 1 z0 u0 2 (lpK (lpn F_Tw_hasWeights n) (T_Tw_hasWeights_0 v0R v1I σ)) 0 [(0, .ref v0R), (1, .int v1I)] [] σ := by
  unfold T_Tw_hasWeights_0
  refine x_iload_n C d_Tw_hasWeights_0 1 rfl ?_
  refine x_if_lt (tgt := 16) C d_Tw_hasWeights_1 (by decide) (fun _ => ?_) (fun _ => ?_)
  · refine x_lv [] rfl ?_
    exact IH.2.1  (σ)
  · refine x_iload_n C d_Tw_hasWeights_4 1 rfl ?_
    refine x_aload_n C d_Tw_hasWeights_5 0 rfl ?_
    refine x_gd (fun h3 => ?_)
    refine x_callVI (As := []) C (c_Tw_all G l v0R  σ) (okO_iff.mp h3) rfl w630 w631 w981 w632 w122 k_Tw_all rfl (by decide) (by decide) rfl (Nat.le_of_ble_eq_true rfl) d_Tw_hasWeights_6 (fun r1 σ2 => ?_)
    refine x_icmp_ge (tgt := 16) C d_Tw_hasWeights_9 (by decide) (fun _ => ?_) (fun _ => ?_)
    · refine x_iconst (v := (1 : Int32)) C d_Tw_hasWeights_12 (by decide) ?_
      refine x_goto (tgt := 17) C d_Tw_hasWeights_13 (by decide) ?_
      refine x_lv [] rfl ?_
      exact IH.2.2 ((1 : Int32)) (σ2)
    · refine x_lv [] rfl ?_
      exact IH.2.1  (σ2)
set_option maxRecDepth 20000 in
theorem s_Tw_hasWeights_1 {G : GX} {p : Program} {l : Launch} {e : Env} {s : State} {m : MethodId} {args : Array Value} {below : List Frame} {meth : Method} {c : Code} {z0 u0 n : Nat} (C : Cx G p s m args meth c prog_12_method_20_code 2 "BellPlate$Tower" ((some FieldType.boolean))) (IH : I_Tw_hasWeights G p l e s m args below meth c z0 u0 n)  (σ : AM) : VX (QM eI G args s below z0 u0) G p l e s m args below meth c 1 z0 u0 2 (lpK (lpn F_Tw_hasWeights n) (T_Tw_hasWeights_1  σ)) 16 [] [] σ := by
  unfold T_Tw_hasWeights_1
  refine x_iconst (v := (0 : Int32)) C d_Tw_hasWeights_16 (by decide) ?_
  exact IH.2.2 ((0 : Int32)) (σ)
set_option maxRecDepth 20000 in
theorem s_Tw_hasWeights_2 {G : GX} {p : Program} {l : Launch} {e : Env} {s : State} {m : MethodId} {args : Array Value} {below : List Frame} {meth : Method} {c : Code} {z0 u0 n : Nat} (C : Cx G p s m args meth c prog_12_method_20_code 2 "BellPlate$Tower" ((some FieldType.boolean))) (IH : I_Tw_hasWeights G p l e s m args below meth c z0 u0 n) (s0I : Int32) (σ : AM) : VX (QM eI G args s below z0 u0) G p l e s m args below meth c 1 z0 u0 2 (lpK (lpn F_Tw_hasWeights n) (T_Tw_hasWeights_2 s0I σ)) 17 [] [.int s0I] σ := by
  unfold T_Tw_hasWeights_2
  refine x_gd (fun h1 => ?_)
  exact x_zret C (isB_narrow h1) d_Tw_hasWeights_17
theorem i_Tw_hasWeights {G : GX} {p : Program} {l : Launch} {e : Env} {s : State} {m : MethodId} {args : Array Value} {below : List Frame} {meth : Method} {c : Code} {z0 u0 : Nat} (C : Cx G p s m args meth c prog_12_method_20_code 2 "BellPlate$Tower" ((some FieldType.boolean))) (n : Nat) : I_Tw_hasWeights G p l e s m args below meth c z0 u0 n := by
  induction n with
  | zero => exact ⟨fun _ _ _ => x_none, fun _ => x_none, fun _ _ => x_none⟩
  | succ n IH => exact ⟨fun v0R v1I σ => s_Tw_hasWeights_0 C IH v0R v1I σ, fun σ => s_Tw_hasWeights_1 C IH σ, fun s0I σ => s_Tw_hasWeights_2 C IH s0I σ⟩
theorem c_Tw_hasWeights (G : GX) (l : Launch) (v0R : Nat) (v1I : Int32) (σ : AM) : CT eI G l 1 y_Tw_hasWeights prog_12_method_20_code 2 ((some FieldType.boolean)) [.ref v0R, .int v1I] σ (M_Tw_hasWeights v0R v1I σ) := by
  refine ct_of (by decide +kernel) (Nat.le_of_ble_eq_true rfl) (fun p e s m args below meth c C hin => ?_)
  refine x_lve (lv' := [(0, .ref v0R), (1, .int v1I)]) rfl ?_
  intro r σ' h
  obtain ⟨n, hn⟩ := (lp_iff _ _ _).mp h
  exact (i_Tw_hasWeights C n).1 v0R v1I σ r σ' hn
/-! BellPlate$Tower.hasThing(I)Z -/
abbrev y_Tw_hasThing : MethodName := ⟨"BellPlate$Tower", "hasThing", "(I)Z"⟩
theorem k_Tw_hasThing : y_Tw_hasThing.cls ≠ "java/lang/invoke/MethodHandle" ∧ y_Tw_hasThing.cls ≠ "java/lang/invoke/VarHandle" ∧ (parseMethodDescriptor y_Tw_hasThing.desc).map (fun d => d.parameters.length) = some 1 := by decide +kernel
theorem d_Tw_hasThing_0 : decode prog_12_method_22_code 0 = .ok (.iload_n 1, 1) := by decide +kernel
theorem d_Tw_hasThing_1 : decode prog_12_method_22_code 1 = .ok (.ifCond .lt 15, 3) := by decide +kernel
theorem d_Tw_hasThing_4 : decode prog_12_method_22_code 4 = .ok (.iload_n 1, 1) := by decide +kernel
theorem d_Tw_hasThing_5 : decode prog_12_method_22_code 5 = .ok (.aload_n 0, 1) := by decide +kernel
theorem d_Tw_hasThing_6 : decode prog_12_method_22_code 6 = .ok (.getfield 43, 3) := by decide +kernel
theorem d_Tw_hasThing_9 : decode prog_12_method_22_code 9 = .ok (.if_icmp .ge 7, 3) := by decide +kernel
theorem d_Tw_hasThing_12 : decode prog_12_method_22_code 12 = .ok (.iconst 1, 1) := by decide +kernel
theorem d_Tw_hasThing_13 : decode prog_12_method_22_code 13 = .ok (.goto 4, 3) := by decide +kernel
theorem d_Tw_hasThing_16 : decode prog_12_method_22_code 16 = .ok (.iconst 0, 1) := by decide +kernel
theorem d_Tw_hasThing_17 : decode prog_12_method_22_code 17 = .ok (.ireturn, 1) := by decide +kernel
abbrev S_Tw_hasThing : Type := Nat × Nat × Int32 × Int32 × AM
noncomputable def T_Tw_hasThing_0 (v0R : Nat) (v1I : Int32) (σ : AM) : S_Tw_hasThing ⊕ Option (Int32 × AM) :=
  if v1I < 0 then (.inl (1, 0, 0, 0, σ)) else (gdT (okO σ v0R 1) <| if v1I < (aI σ v0R 7) then (.inl (2, 0, 0, (1 : Int32), σ)) else (.inl (1, 0, 0, 0, σ)))
noncomputable def T_Tw_hasThing_1  (σ : AM) : S_Tw_hasThing ⊕ Option (Int32 × AM) :=
  .inl (2, 0, 0, (0 : Int32), σ)
noncomputable def T_Tw_hasThing_2 (s0I : Int32) (σ : AM) : S_Tw_hasThing ⊕ Option (Int32 × AM) :=
  gdT (isB s0I) <| .inr (some (s0I, σ))
noncomputable def F_Tw_hasThing : S_Tw_hasThing → S_Tw_hasThing ⊕ Option (Int32 × AM) := fun s => match s.1 with
  | 0 => T_Tw_hasThing_0 (s.2.1) (s.2.2.1) (s.2.2.2.2)
  | 1 => T_Tw_hasThing_1  (s.2.2.2.2)
  | _ => T_Tw_hasThing_2 (s.2.2.2.1) (s.2.2.2.2)
noncomputable def L_Tw_hasThing_0 (v0R : Nat) (v1I : Int32) (σ : AM) : Option (Int32 × AM) := lp F_Tw_hasThing (0, v0R, v1I, 0, σ)
noncomputable def L_Tw_hasThing_1  (σ : AM) : Option (Int32 × AM) := lp F_Tw_hasThing (1, 0, 0, 0, σ)
noncomputable def L_Tw_hasThing_2 (s0I : Int32) (σ : AM) : Option (Int32 × AM) := lp F_Tw_hasThing (2, 0, 0, s0I, σ)
set_option maxRecDepth 20000 in
theorem E_Tw_hasThing_0 (v0R : Nat) (v1I : Int32) (σ : AM) : L_Tw_hasThing_0 v0R v1I σ = (if v1I < 0 then (L_Tw_hasThing_1 σ) else (gd (okO σ v0R 1) <| if v1I < (aI σ v0R 7) then (L_Tw_hasThing_2 ((1 : Int32)) σ) else (L_Tw_hasThing_1 σ))) := by
  unfold L_Tw_hasThing_0
  rw [lp_eq]
  show lpK (lp F_Tw_hasThing) (T_Tw_hasThing_0 v0R v1I σ) = _
  unfold T_Tw_hasThing_0
  simp only [lpK_ite, lq_inl, lq_inr, lpK_bnd, lpK_gd, lq_let]
  try rfl
set_option maxRecDepth 20000 in
theorem E_Tw_hasThing_1  (σ : AM) : L_Tw_hasThing_1  σ = (L_Tw_hasThing_2 ((0 : Int32)) σ) := by
  unfold L_Tw_hasThing_1
  rw [lp_eq]
  show lpK (lp F_Tw_hasThing) (T_Tw_hasThing_1  σ) = _
  unfold T_Tw_hasThing_1
  simp only [lpK_ite, lq_inl, lq_inr, lpK_bnd, lpK_gd, lq_let]
  try rfl
set_option maxRecDepth 20000 in
theorem E_Tw_hasThing_2 (s0I : Int32) (σ : AM) : L_Tw_hasThing_2 s0I σ = (gd (isB s0I) <| (some (s0I, σ))) := by
  unfold L_Tw_hasThing_2
  rw [lp_eq]
  show lpK (lp F_Tw_hasThing) (T_Tw_hasThing_2 s0I σ) = _
  unfold T_Tw_hasThing_2
  simp only [lpK_ite, lq_inl, lq_inr, lpK_bnd, lpK_gd, lq_let]
  try rfl
noncomputable def M_Tw_hasThing (v0R : Nat) (v1I : Int32) (σ : AM) : Option (Int32 × AM) := mw σ (L_Tw_hasThing_0 v0R v1I σ)
def I_Tw_hasThing (G : GX) (p : Program) (l : Launch) (e : Env) (s : State) (m : MethodId) (args : Array Value) (below : List Frame) (meth : Method) (c : Code) (z0 u0 n : Nat) : Prop :=
  (∀ (v0R : Nat) (v1I : Int32) (σ : AM), VX (QM eI G args s below z0 u0) G p l e s m args below meth c 0 z0 u0 2 (lpn F_Tw_hasThing n (0, v0R, v1I, 0, σ)) 0 [(0, .ref v0R), (1, .int v1I)] [] σ) ∧
  (∀ (σ : AM), VX (QM eI G args s below z0 u0) G p l e s m args below meth c 0 z0 u0 2 (lpn F_Tw_hasThing n (1, 0, 0, 0, σ)) 16 [] [] σ) ∧
  (∀ (s0I : Int32) (σ : AM), VX (QM eI G args s below z0 u0) G p l e s m args below meth c 0 z0 u0 2 (lpn F_Tw_hasThing n (2, 0, 0, s0I, σ)) 17 [] [.int s0I] σ)
set_option maxRecDepth 20000 in
theorem s_Tw_hasThing_0 {G : GX} {p : Program} {l : Launch} {e : Env} {s : State} {m : MethodId} {args : Array Value} {below : List Frame} {meth : Method} {c : Code} {z0 u0 n : Nat} (C : Cx G p s m args meth c prog_12_method_22_code 2 "BellPlate$Tower" ((some FieldType.boolean))) (IH : I_Tw_hasThing G p l e s m args below meth c z0 u0 n) (v0R : Nat) (v1I : Int32) (σ : AM) : VX (QM eI G args s below z0 u0) G p l e s m args below meth c 0 z0 u0 2 (lpK (lpn F_Tw_hasThing n) (T_Tw_hasThing_0 v0R v1I σ)) 0 [(0, .ref v0R), (1, .int v1I)] [] σ := by
  unfold T_Tw_hasThing_0
  refine x_iload_n C d_Tw_hasThing_0 1 rfl ?_
  refine x_if_lt (tgt := 16) C d_Tw_hasThing_1 (by decide) (fun _ => ?_) (fun _ => ?_)
  · refine x_lv [] rfl ?_
    exact IH.2.1  (σ)
  · refine x_iload_n C d_Tw_hasThing_4 1 rfl ?_
    refine x_aload_n C d_Tw_hasThing_5 0 rfl ?_
    refine x_gd (fun h1 => ?_)
    refine x_getI (k := 7) C (okO_iff.mp h1) rfl j0_ok (by decide) rfl w174 d_Tw_hasThing_6 ?_
    refine x_icmp_ge (tgt := 16) C d_Tw_hasThing_9 (by decide) (fun _ => ?_) (fun _ => ?_)
    · refine x_iconst (v := (1 : Int32)) C d_Tw_hasThing_12 (by decide) ?_
      refine x_goto (tgt := 17) C d_Tw_hasThing_13 (by decide) ?_
      refine x_lv [] rfl ?_
      exact IH.2.2 ((1 : Int32)) (σ)
    · refine x_lv [] rfl ?_
      exact IH.2.1  (σ)
set_option maxRecDepth 20000 in
theorem s_Tw_hasThing_1 {G : GX} {p : Program} {l : Launch} {e : Env} {s : State} {m : MethodId} {args : Array Value} {below : List Frame} {meth : Method} {c : Code} {z0 u0 n : Nat} (C : Cx G p s m args meth c prog_12_method_22_code 2 "BellPlate$Tower" ((some FieldType.boolean))) (IH : I_Tw_hasThing G p l e s m args below meth c z0 u0 n)  (σ : AM) : VX (QM eI G args s below z0 u0) G p l e s m args below meth c 0 z0 u0 2 (lpK (lpn F_Tw_hasThing n) (T_Tw_hasThing_1  σ)) 16 [] [] σ := by
  unfold T_Tw_hasThing_1
  refine x_iconst (v := (0 : Int32)) C d_Tw_hasThing_16 (by decide) ?_
  exact IH.2.2 ((0 : Int32)) (σ)
set_option maxRecDepth 20000 in
theorem s_Tw_hasThing_2 {G : GX} {p : Program} {l : Launch} {e : Env} {s : State} {m : MethodId} {args : Array Value} {below : List Frame} {meth : Method} {c : Code} {z0 u0 n : Nat} (C : Cx G p s m args meth c prog_12_method_22_code 2 "BellPlate$Tower" ((some FieldType.boolean))) (IH : I_Tw_hasThing G p l e s m args below meth c z0 u0 n) (s0I : Int32) (σ : AM) : VX (QM eI G args s below z0 u0) G p l e s m args below meth c 0 z0 u0 2 (lpK (lpn F_Tw_hasThing n) (T_Tw_hasThing_2 s0I σ)) 17 [] [.int s0I] σ := by
  unfold T_Tw_hasThing_2
  refine x_gd (fun h1 => ?_)
  exact x_zret C (isB_narrow h1) d_Tw_hasThing_17
theorem i_Tw_hasThing {G : GX} {p : Program} {l : Launch} {e : Env} {s : State} {m : MethodId} {args : Array Value} {below : List Frame} {meth : Method} {c : Code} {z0 u0 : Nat} (C : Cx G p s m args meth c prog_12_method_22_code 2 "BellPlate$Tower" ((some FieldType.boolean))) (n : Nat) : I_Tw_hasThing G p l e s m args below meth c z0 u0 n := by
  induction n with
  | zero => exact ⟨fun _ _ _ => x_none, fun _ => x_none, fun _ _ => x_none⟩
  | succ n IH => exact ⟨fun v0R v1I σ => s_Tw_hasThing_0 C IH v0R v1I σ, fun σ => s_Tw_hasThing_1 C IH σ, fun s0I σ => s_Tw_hasThing_2 C IH s0I σ⟩
theorem c_Tw_hasThing (G : GX) (l : Launch) (v0R : Nat) (v1I : Int32) (σ : AM) : CT eI G l 0 y_Tw_hasThing prog_12_method_22_code 2 ((some FieldType.boolean)) [.ref v0R, .int v1I] σ (M_Tw_hasThing v0R v1I σ) := by
  refine ct_of (by decide +kernel) (Nat.le_of_ble_eq_true rfl) (fun p e s m args below meth c C hin => ?_)
  refine x_lve (lv' := [(0, .ref v0R), (1, .int v1I)]) rfl ?_
  intro r σ' h
  obtain ⟨n, hn⟩ := (lp_iff _ _ _).mp h
  exact (i_Tw_hasThing C n).1 v0R v1I σ r σ' hn
