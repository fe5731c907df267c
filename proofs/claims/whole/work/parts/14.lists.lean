/-! BellPlate$Lists.at(I)J -/
abbrev y_Ls_at : MethodName := ⟨"BellPlate$Lists", "at", "(I)J"⟩
theorem k_Ls_at : y_Ls_at.cls ≠ "java/lang/invoke/MethodHandle" ∧ y_Ls_at.cls ≠ "java/lang/invoke/VarHandle" ∧ (parseMethodDescriptor y_Ls_at.desc).map (fun d => d.parameters.length) = some 1 := by decide +kernel
theorem d_Ls_at_0 : decode prog_6_method_5_code 0 = .ok (.iload_n 1, 1) := by decide +kernel
theorem d_Ls_at_1 : decode prog_6_method_5_code 1 = .ok (.ifCond .lt 20, 3) := by decide +kernel
theorem d_Ls_at_4 : decode prog_6_method_5_code 4 = .ok (.iload_n 1, 1) := by decide +kernel
theorem d_Ls_at_5 : decode prog_6_method_5_code 5 = .ok (.aload_n 0, 1) := by decide +kernel
theorem d_Ls_at_6 : decode prog_6_method_5_code 6 = .ok (.getfield 48, 3) := by decide +kernel
theorem d_Ls_at_9 : decode prog_6_method_5_code 9 = .ok (.if_icmp .ge 12, 3) := by decide +kernel
theorem d_Ls_at_12 : decode prog_6_method_5_code 12 = .ok (.aload_n 0, 1) := by decide +kernel
theorem d_Ls_at_13 : decode prog_6_method_5_code 13 = .ok (.getfield 29, 3) := by decide +kernel
theorem d_Ls_at_16 : decode prog_6_method_5_code 16 = .ok (.iload_n 1, 1) := by decide +kernel
theorem d_Ls_at_17 : decode prog_6_method_5_code 17 = .ok (.laload, 1) := by decide +kernel
theorem d_Ls_at_18 : decode prog_6_method_5_code 18 = .ok (.goto 4, 3) := by decide +kernel
theorem d_Ls_at_21 : decode prog_6_method_5_code 21 = .ok (.lconst 0, 1) := by decide +kernel
theorem d_Ls_at_22 : decode prog_6_method_5_code 22 = .ok (.lreturn, 1) := by decide +kernel
abbrev S_Ls_at : Type := Nat × Nat × Int32 × Int64 × AM
noncomputable def T_Ls_at_0 (v0R : Nat) (v1I : Int32) (σ : AM) : S_Ls_at ⊕ Option (Int64 × AM) :=
  if v1I < 0 then (.inl (1, 0, 0, 0, σ)) else (gdT (okO σ v0R 3) <| if v1I < (aI σ v0R 11) then (gdT (okO σ (aR σ v0R 4) 102) <| gdT (inB v1I (aN σ (aR σ v0R 4))) <| .inl (2, 0, 0, aL σ (aR σ v0R 4) v1I.toNatClampNeg, σ)) else (.inl (1, 0, 0, 0, σ)))
noncomputable def T_Ls_at_1  (σ : AM) : S_Ls_at ⊕ Option (Int64 × AM) :=
  .inl (2, 0, 0, (0 : Int64), σ)
noncomputable def T_Ls_at_2 (s0J : Int64) (σ : AM) : S_Ls_at ⊕ Option (Int64 × AM) :=
  .inr (some (s0J, σ))
noncomputable def F_Ls_at : S_Ls_at → S_Ls_at ⊕ Option (Int64 × AM) := fun s => match s.1 with
  | 0 => T_Ls_at_0 (s.2.1) (s.2.2.1) (s.2.2.2.2)
  | 1 => T_Ls_at_1  (s.2.2.2.2)
  | _ => T_Ls_at_2 (s.2.2.2.1) (s.2.2.2.2)
noncomputable def L_Ls_at_0 (v0R : Nat) (v1I : Int32) (σ : AM) : Option (Int64 × AM) := lp F_Ls_at (0, v0R, v1I, 0, σ)
noncomputable def L_Ls_at_1  (σ : AM) : Option (Int64 × AM) := lp F_Ls_at (1, 0, 0, 0, σ)
noncomputable def L_Ls_at_2 (s0J : Int64) (σ : AM) : Option (Int64 × AM) := lp F_Ls_at (2, 0, 0, s0J, σ)
set_option maxRecDepth 20000 in
theorem E_Ls_at_0 (v0R : Nat) (v1I : Int32) (σ : AM) : L_Ls_at_0 v0R v1I σ = (if v1I < 0 then (L_Ls_at_1 σ) else (gd (okO σ v0R 3) <| if v1I < (aI σ v0R 11) then (gd (okO σ (aR σ v0R 4) 102) <| gd (inB v1I (aN σ (aR σ v0R 4))) <| L_Ls_at_2 (aL σ (aR σ v0R 4) v1I.toNatClampNeg) σ) else (L_Ls_at_1 σ))) := by
  unfold L_Ls_at_0
  rw [lp_eq]
  show lpK (lp F_Ls_at) (T_Ls_at_0 v0R v1I σ) = _
  unfold T_Ls_at_0
  simp only [lpK_ite, lq_inl, lq_inr, lpK_bnd, lpK_gd, lq_let]
  try rfl
set_option maxRecDepth 20000 in
theorem E_Ls_at_1  (σ : AM) : L_Ls_at_1  σ = (L_Ls_at_2 ((0 : Int64)) σ) := by
  unfold L_Ls_at_1
  rw [lp_eq]
  show lpK (lp F_Ls_at) (T_Ls_at_1  σ) = _
  unfold T_Ls_at_1
  simp only [lpK_ite, lq_inl, lq_inr, lpK_bnd, lpK_gd, lq_let]
  try rfl
set_option maxRecDepth 20000 in
theorem E_Ls_at_2 (s0J : Int64) (σ : AM) : L_Ls_at_2 s0J σ = ((some (s0J, σ))) := by
  unfold L_Ls_at_2
  rw [lp_eq]
  show lpK (lp F_Ls_at) (T_Ls_at_2 s0J σ) = _
  unfold T_Ls_at_2
  simp only [lpK_ite, lq_inl, lq_inr, lpK_bnd, lpK_gd, lq_let]
  try rfl
noncomputable def M_Ls_at (v0R : Nat) (v1I : Int32) (σ : AM) : Option (Int64 × AM) := mw σ (L_Ls_at_0 v0R v1I σ)
def I_Ls_at (G : GX) (p : Program) (l : Launch) (e : Env) (s : State) (m : MethodId) (args : Array Value) (below : List Frame) (meth : Method) (c : Code) (z0 u0 n : Nat) : Prop :=
  (∀ (v0R : Nat) (v1I : Int32) (σ : AM), VX (QM eJ G args s below z0 u0) G p l e s m args below meth c 0 z0 u0 2 (lpn F_Ls_at n (0, v0R, v1I, 0, σ)) 0 [(0, .ref v0R), (1, .int v1I)] [] σ) ∧
  (∀ (σ : AM), VX (QM eJ G args s below z0 u0) G p l e s m args below meth c 0 z0 u0 2 (lpn F_Ls_at n (1, 0, 0, 0, σ)) 21 [] [] σ) ∧
  (∀ (s0J : Int64) (σ : AM), VX (QM eJ G args s below z0 u0) G p l e s m args below meth c 0 z0 u0 2 (lpn F_Ls_at n (2, 0, 0, s0J, σ)) 22 [] [.long s0J] σ)
set_option maxRecDepth 20000 in
theorem s_Ls_at_0 {G : GX} {p : Program} {l : Launch} {e : Env} {s : State} {m : MethodId} {args : Array Value} {below : List Frame} {meth : Method} {c : Code} {z0 u0 n : Nat} (C : Cx G p s m args meth c prog_6_method_5_code 2 "BellPlate$Lists" ((some FieldType.long))) (IH : I_Ls_at G p l e s m args below meth c z0 u0 n) (v0R : Nat) (v1I : Int32) (σ : AM) : VX (QM eJ G args s below z0 u0) G p l e s m args below meth c 0 z0 u0 2 (lpK (lpn F_Ls_at n) (T_Ls_at_0 v0R v1I σ)) 0 [(0, .ref v0R), (1, .int v1I)] [] σ := by
  unfold T_Ls_at_0
  refine x_iload_n C d_Ls_at_0 1 rfl ?_
  refine x_if_lt (tgt := 21) C d_Ls_at_1 (by decide) (fun _ => ?_) (fun _ => ?_)
  · refine x_lv [] rfl ?_
    exact IH.2.1  (σ)
  · refine x_iload_n C d_Ls_at_4 1 rfl ?_
    refine x_aload_n C d_Ls_at_5 0 rfl ?_
    refine x_gd (fun h1 => ?_)
    refine x_getI (k := 11) C (okO_iff.mp h1) rfl j2_ok (by decide) rfl w263 d_Ls_at_6 ?_
    refine x_icmp_ge (tgt := 21) C d_Ls_at_9 (by decide) (fun _ => ?_) (fun _ => ?_)
    · refine x_aload_n C d_Ls_at_12 0 rfl ?_
      refine x_gd (fun h2 => ?_)
      refine x_getR (k := 4) (kv := 102) C (okO_iff.mp h1) rfl j2_ok (by decide) rfl (okO_iff.mp h2) (by decide) w256 d_Ls_at_13 ?_
      refine x_iload_n C d_Ls_at_16 1 rfl ?_
      refine x_gd (fun h3 => ?_)
      refine x_aldJ C (okO_iff.mp h2) (inB_iff.mp h3) d_Ls_at_17 ?_
      refine x_goto (tgt := 22) C d_Ls_at_18 (by decide) ?_
      refine x_lv [] rfl ?_
      exact IH.2.2 (aL σ (aR σ v0R 4) v1I.toNatClampNeg) (σ)
    · refine x_lv [] rfl ?_
      exact IH.2.1  (σ)
set_option maxRecDepth 20000 in
theorem s_Ls_at_1 {G : GX} {p : Program} {l : Launch} {e : Env} {s : State} {m : MethodId} {args : Array Value} {below : List Frame} {meth : Method} {c : Code} {z0 u0 n : Nat} (C : Cx G p s m args meth c prog_6_method_5_code 2 "BellPlate$Lists" ((some FieldType.long))) (IH : I_Ls_at G p l e s m args below meth c z0 u0 n)  (σ : AM) : VX (QM eJ G args s below z0 u0) G p l e s m args below meth c 0 z0 u0 2 (lpK (lpn F_Ls_at n) (T_Ls_at_1  σ)) 21 [] [] σ := by
  unfold T_Ls_at_1
  refine x_lconst (v := (0 : Int64)) C d_Ls_at_21 (by decide) ?_
  exact IH.2.2 ((0 : Int64)) (σ)
set_option maxRecDepth 20000 in
theorem s_Ls_at_2 {G : GX} {p : Program} {l : Launch} {e : Env} {s : State} {m : MethodId} {args : Array Value} {below : List Frame} {meth : Method} {c : Code} {z0 u0 n : Nat} (C : Cx G p s m args meth c prog_6_method_5_code 2 "BellPlate$Lists" ((some FieldType.long))) (IH : I_Ls_at G p l e s m args below meth c z0 u0 n) (s0J : Int64) (σ : AM) : VX (QM eJ G args s below z0 u0) G p l e s m args below meth c 0 z0 u0 2 (lpK (lpn F_Ls_at n) (T_Ls_at_2 s0J σ)) 22 [] [.long s0J] σ := by
  unfold T_Ls_at_2
  exact x_lret C d_Ls_at_22
theorem i_Ls_at {G : GX} {p : Program} {l : Launch} {e : Env} {s : State} {m : MethodId} {args : Array Value} {below : List Frame} {meth : Method} {c : Code} {z0 u0 : Nat} (C : Cx G p s m args meth c prog_6_method_5_code 2 "BellPlate$Lists" ((some FieldType.long))) (n : Nat) : I_Ls_at G p l e s m args below meth c z0 u0 n := by
  induction n with
  | zero => exact ⟨fun _ _ _ => x_none, fun _ => x_none, fun _ _ => x_none⟩
  | succ n IH => exact ⟨fun v0R v1I σ => s_Ls_at_0 C IH v0R v1I σ, fun σ => s_Ls_at_1 C IH σ, fun s0J σ => s_Ls_at_2 C IH s0J σ⟩
theorem c_Ls_at (G : GX) (l : Launch) (v0R : Nat) (v1I : Int32) (σ : AM) : CT eJ G l 0 y_Ls_at prog_6_method_5_code 2 ((some FieldType.long)) [.ref v0R, .int v1I] σ (M_Ls_at v0R v1I σ) := by
  refine ct_of (by decide +kernel) (Nat.le_of_ble_eq_true rfl) (fun p e s m args below meth c C hin => ?_)
  refine x_lve (lv' := [(0, .ref v0R), (1, .int v1I)]) rfl ?_
  intro r σ' h
  obtain ⟨n, hn⟩ := (lp_iff _ _ _).mp h
  exact (i_Ls_at C n).1 v0R v1I σ r σ' hn
/-! BellPlate$Lists.share(I)I -/
abbrev y_Ls_share : MethodName := ⟨"BellPlate$Lists", "share", "(I)I"⟩
theorem k_Ls_share : y_Ls_share.cls ≠ "java/lang/invoke/MethodHandle" ∧ y_Ls_share.cls ≠ "java/lang/invoke/VarHandle" ∧ (parseMethodDescriptor y_Ls_share.desc).map (fun d => d.parameters.length) = some 1 := by decide +kernel
theorem d_Ls_share_0 : decode prog_6_method_6_code 0 = .ok (.iload_n 1, 1) := by decide +kernel
theorem d_Ls_share_1 : decode prog_6_method_6_code 1 = .ok (.ifCond .lt 20, 3) := by decide +kernel
theorem d_Ls_share_4 : decode prog_6_method_6_code 4 = .ok (.iload_n 1, 1) := by decide +kernel
theorem d_Ls_share_5 : decode prog_6_method_6_code 5 = .ok (.aload_n 0, 1) := by decide +kernel
theorem d_Ls_share_6 : decode prog_6_method_6_code 6 = .ok (.getfield 48, 3) := by decide +kernel
theorem d_Ls_share_9 : decode prog_6_method_6_code 9 = .ok (.if_icmp .ge 12, 3) := by decide +kernel
theorem d_Ls_share_12 : decode prog_6_method_6_code 12 = .ok (.aload_n 0, 1) := by decide +kernel
theorem d_Ls_share_13 : decode prog_6_method_6_code 13 = .ok (.getfield 33, 3) := by decide +kernel
theorem d_Ls_share_16 : decode prog_6_method_6_code 16 = .ok (.iload_n 1, 1) := by decide +kernel
theorem d_Ls_share_17 : decode prog_6_method_6_code 17 = .ok (.iaload, 1) := by decide +kernel
theorem d_Ls_share_18 : decode prog_6_method_6_code 18 = .ok (.goto 4, 3) := by decide +kernel
theorem d_Ls_share_21 : decode prog_6_method_6_code 21 = .ok (.iconst 0, 1) := by decide +kernel
theorem d_Ls_share_22 : decode prog_6_method_6_code 22 = .ok (.ireturn, 1) := by decide +kernel
abbrev S_Ls_share : Type := Nat × Nat × Int32 × Int32 × AM
noncomputable def T_Ls_share_0 (v0R : Nat) (v1I : Int32) (σ : AM) : S_Ls_share ⊕ Option (Int32 × AM) :=
  if v1I < 0 then (.inl (1, 0, 0, 0, σ)) else (gdT (okO σ v0R 3) <| if v1I < (aI σ v0R 11) then (gdT (okO σ (aR σ v0R 5) 101) <| gdT (inB v1I (aN σ (aR σ v0R 5))) <| .inl (2, 0, 0, aI σ (aR σ v0R 5) v1I.toNatClampNeg, σ)) else (.inl (1, 0, 0, 0, σ)))
noncomputable def T_Ls_share_1  (σ : AM) : S_Ls_share ⊕ Option (Int32 × AM) :=
  .inl (2, 0, 0, (0 : Int32), σ)
noncomputable def T_Ls_share_2 (s0I : Int32) (σ : AM) : S_Ls_share ⊕ Option (Int32 × AM) :=
  .inr (some (s0I, σ))
noncomputable def F_Ls_share : S_Ls_share → S_Ls_share ⊕ Option (Int32 × AM) := fun s => match s.1 with
  | 0 => T_Ls_share_0 (s.2.1) (s.2.2.1) (s.2.2.2.2)
  | 1 => T_Ls_share_1  (s.2.2.2.2)
  | _ => T_Ls_share_2 (s.2.2.2.1) (s.2.2.2.2)
noncomputable def L_Ls_share_0 (v0R : Nat) (v1I : Int32) (σ : AM) : Option (Int32 × AM) := lp F_Ls_share (0, v0R, v1I, 0, σ)
noncomputable def L_Ls_share_1  (σ : AM) : Option (Int32 × AM) := lp F_Ls_share (1, 0, 0, 0, σ)
noncomputable def L_Ls_share_2 (s0I : Int32) (σ : AM) : Option (Int32 × AM) := lp F_Ls_share (2, 0, 0, s0I, σ)
set_option maxRecDepth 20000 in
theorem E_Ls_share_0 (v0R : Nat) (v1I : Int32) (σ : AM) : L_Ls_share_0 v0R v1I σ = (if v1I < 0 then (L_Ls_share_1 σ) else (gd (okO σ v0R 3) <| if v1I < (aI σ v0R 11) then (gd (okO σ (aR σ v0R 5) 101) <| gd (inB v1I (aN σ (aR σ v0R 5))) <| L_Ls_share_2 (aI σ (aR σ v0R 5) v1I.toNatClampNeg) σ) else (L_Ls_share_1 σ))) := by
  unfold L_Ls_share_0
  rw [lp_eq]
  show lpK (lp F_Ls_share) (T_Ls_share_0 v0R v1I σ) = _
  unfold T_Ls_share_0
  simp only [lpK_ite, lq_inl, lq_inr, lpK_bnd, lpK_gd, lq_let]
  try rfl
set_option maxRecDepth 20000 in
theorem E_Ls_share_1  (σ : AM) : L_Ls_share_1  σ = (L_Ls_share_2 ((0 : Int32)) σ) := by
  unfold L_Ls_share_1
  rw [lp_eq]
  show lpK (lp F_Ls_share) (T_Ls_share_1  σ) = _
  unfold T_Ls_share_1
  simp only [lpK_ite, lq_inl, lq_inr, lpK_bnd, lpK_gd, lq_let]
  try rfl
set_option maxRecDepth 20000 in
theorem E_Ls_share_2 (s0I : Int32) (σ : AM) : L_Ls_share_2 s0I σ = ((some (s0I, σ))) := by
  unfold L_Ls_share_2
  rw [lp_eq]
  show lpK (lp F_Ls_share) (T_Ls_share_2 s0I σ) = _
  unfold T_Ls_share_2
  simp only [lpK_ite, lq_inl, lq_inr, lpK_bnd, lpK_gd, lq_let]
  try rfl
noncomputable def M_Ls_share (v0R : Nat) (v1I : Int32) (σ : AM) : Option (Int32 × AM) := mw σ (L_Ls_share_0 v0R v1I σ)
def I_Ls_share (G : GX) (p : Program) (l : Launch) (e : Env) (s : State) (m : MethodId) (args : Array Value) (below : List Frame) (meth : Method) (c : Code) (z0 u0 n : Nat) : Prop :=
  (∀ (v0R : Nat) (v1I : Int32) (σ : AM), VX (QM eI G args s below z0 u0) G p l e s m args below meth c 0 z0 u0 2 (lpn F_Ls_share n (0, v0R, v1I, 0, σ)) 0 [(0, .ref v0R), (1, .int v1I)] [] σ) ∧
  (∀ (σ : AM), VX (QM eI G args s below z0 u0) G p l e s m args below meth c 0 z0 u0 2 (lpn F_Ls_share n (1, 0, 0, 0, σ)) 21 [] [] σ) ∧
  (∀ (s0I : Int32) (σ : AM), VX (QM eI G args s below z0 u0) G p l e s m args below meth c 0 z0 u0 2 (lpn F_Ls_share n (2, 0, 0, s0I, σ)) 22 [] [.int s0I] σ)
set_option maxRecDepth 20000 in
theorem s_Ls_share_0 {G : GX} {p : Program} {l : Launch} {e : Env} {s : State} {m : MethodId} {args : Array Value} {below : List Frame} {meth : Method} {c : Code} {z0 u0 n : Nat} (C : Cx G p s m args meth c prog_6_method_6_code 2 "BellPlate$Lists" ((some FieldType.int))) (IH : I_Ls_share G p l e s m args below meth c z0 u0 n) (v0R : Nat) (v1I : Int32) (σ : AM) : VX (QM eI G args s below z0 u0) G p l e s m args below meth c 0 z0 u0 2 (lpK (lpn F_Ls_share n) (T_Ls_share_0 v0R v1I σ)) 0 [(0, .ref v0R), (1, .int v1I)] [] σ := by
  unfold T_Ls_share_0
  refine x_iload_n C d_Ls_share_0 1 rfl ?_
  refine x_if_lt (tgt := 21) C d_Ls_share_1 (by decide) (fun _ => ?_) (fun _ => ?_)
  · refine x_lv [] rfl ?_
    exact IH.2.1  (σ)
  · refine x_iload_n C d_Ls_share_4 1 rfl ?_
    refine x_aload_n C d_Ls_share_5 0 rfl ?_
    refine x_gd (fun h1 => ?_)
    refine x_getI (k := 11) C (okO_iff.mp h1) rfl j2_ok (by decide) rfl w263 d_Ls_share_6 ?_
    refine x_icmp_ge (tgt := 21) C d_Ls_share_9 (by decide) (fun _ => ?_) (fun _ => ?_)
    · refine x_aload_n C d_Ls_share_12 0 rfl ?_
      refine x_gd (fun h2 => ?_)
      refine x_getR (k := 5) (kv := 101) C (okO_iff.mp h1) rfl j2_ok (by decide) rfl (okO_iff.mp h2) (by decide) w257 d_Ls_share_13 ?_
      refine x_iload_n C d_Ls_share_16 1 rfl ?_
      refine x_gd (fun h3 => ?_)
      refine x_aldI C (okO_iff.mp h2) (inB_iff.mp h3) d_Ls_share_17 ?_
      refine x_goto (tgt := 22) C d_Ls_share_18 (by decide) ?_
      refine x_lv [] rfl ?_
      exact IH.2.2 (aI σ (aR σ v0R 5) v1I.toNatClampNeg) (σ)
    · refine x_lv [] rfl ?_
      exact IH.2.1  (σ)
set_option maxRecDepth 20000 in
theorem s_Ls_share_1 {G : GX} {p : Program} {l : Launch} {e : Env} {s : State} {m : MethodId} {args : Array Value} {below : List Frame} {meth : Method} {c : Code} {z0 u0 n : Nat} (C : Cx G p s m args meth c prog_6_method_6_code 2 "BellPlate$Lists" ((some FieldType.int))) (IH : I_Ls_share G p l e s m args below meth c z0 u0 n)  (σ : AM) : VX (QM eI G args s below z0 u0) G p l e s m args below meth c 0 z0 u0 2 (lpK (lpn F_Ls_share n) (T_Ls_share_1  σ)) 21 [] [] σ := by
  unfold T_Ls_share_1
  refine x_iconst (v := (0 : Int32)) C d_Ls_share_21 (by decide) ?_
  exact IH.2.2 ((0 : Int32)) (σ)
set_option maxRecDepth 20000 in
theorem s_Ls_share_2 {G : GX} {p : Program} {l : Launch} {e : Env} {s : State} {m : MethodId} {args : Array Value} {below : List Frame} {meth : Method} {c : Code} {z0 u0 n : Nat} (C : Cx G p s m args meth c prog_6_method_6_code 2 "BellPlate$Lists" ((some FieldType.int))) (IH : I_Ls_share G p l e s m args below meth c z0 u0 n) (s0I : Int32) (σ : AM) : VX (QM eI G args s below z0 u0) G p l e s m args below meth c 0 z0 u0 2 (lpK (lpn F_Ls_share n) (T_Ls_share_2 s0I σ)) 22 [] [.int s0I] σ := by
  unfold T_Ls_share_2
  exact x_iret C d_Ls_share_22
theorem i_Ls_share {G : GX} {p : Program} {l : Launch} {e : Env} {s : State} {m : MethodId} {args : Array Value} {below : List Frame} {meth : Method} {c : Code} {z0 u0 : Nat} (C : Cx G p s m args meth c prog_6_method_6_code 2 "BellPlate$Lists" ((some FieldType.int))) (n : Nat) : I_Ls_share G p l e s m args below meth c z0 u0 n := by
  induction n with
  | zero => exact ⟨fun _ _ _ => x_none, fun _ => x_none, fun _ _ => x_none⟩
  | succ n IH => exact ⟨fun v0R v1I σ => s_Ls_share_0 C IH v0R v1I σ, fun σ => s_Ls_share_1 C IH σ, fun s0I σ => s_Ls_share_2 C IH s0I σ⟩
theorem c_Ls_share (G : GX) (l : Launch) (v0R : Nat) (v1I : Int32) (σ : AM) : CT eI G l 0 y_Ls_share prog_6_method_6_code 2 ((some FieldType.int)) [.ref v0R, .int v1I] σ (M_Ls_share v0R v1I σ) := by
  refine ct_of (by decide +kernel) (Nat.le_of_ble_eq_true rfl) (fun p e s m args below meth c C hin => ?_)
  refine x_lve (lv' := [(0, .ref v0R), (1, .int v1I)]) rfl ?_
  intro r σ' h
  obtain ⟨n, hn⟩ := (lp_iff _ _ _).mp h
  exact (i_Ls_share C n).1 v0R v1I σ r σ' hn
/-! BellPlate$Lists.spare()[I -/
abbrev y_Ls_spare : MethodName := ⟨"BellPlate$Lists", "spare", "()[I"⟩
theorem k_Ls_spare : y_Ls_spare.cls ≠ "java/lang/invoke/MethodHandle" ∧ y_Ls_spare.cls ≠ "java/lang/invoke/VarHandle" ∧ (parseMethodDescriptor y_Ls_spare.desc).map (fun d => d.parameters.length) = some 0 := by decide +kernel
theorem d_Ls_spare_0 : decode prog_6_method_8_code 0 = .ok (.aload_n 0, 1) := by decide +kernel
theorem d_Ls_spare_1 : decode prog_6_method_8_code 1 = .ok (.getfield 39, 3) := by decide +kernel
theorem d_Ls_spare_4 : decode prog_6_method_8_code 4 = .ok (.areturn, 1) := by decide +kernel
abbrev S_Ls_spare : Type := Nat × Nat × AM
noncomputable def T_Ls_spare_0 (v0R : Nat) (σ : AM) : S_Ls_spare ⊕ Option (Nat × AM) :=
  gdT (okO σ v0R 3) <| gdT (okO σ (aR σ v0R 7) 101) <| .inr (some ((aR σ v0R 7), σ))
noncomputable def F_Ls_spare : S_Ls_spare → S_Ls_spare ⊕ Option (Nat × AM) := fun s => match s.1 with
  | _ => T_Ls_spare_0 (s.2.1) (s.2.2)
noncomputable def L_Ls_spare_0 (v0R : Nat) (σ : AM) : Option (Nat × AM) := lp F_Ls_spare (0, v0R, σ)
set_option maxRecDepth 20000 in
theorem E_Ls_spare_0 (v0R : Nat) (σ : AM) : L_Ls_spare_0 v0R σ = (gd (okO σ v0R 3) <| gd (okO σ (aR σ v0R 7) 101) <| (some ((aR σ v0R 7), σ))) := by
  unfold L_Ls_spare_0
  rw [lp_eq]
  show lpK (lp F_Ls_spare) (T_Ls_spare_0 v0R σ) = _
  unfold T_Ls_spare_0
  simp only [lpK_ite, lq_inl, lq_inr, lpK_bnd, lpK_gd, lq_let]
  try rfl
noncomputable def M_Ls_spare (v0R : Nat) (σ : AM) : Option (Nat × AM) := mw σ (L_Ls_spare_0 v0R σ)
def I_Ls_spare (G : GX) (p : Program) (l : Launch) (e : Env) (s : State) (m : MethodId) (args : Array Value) (below : List Frame) (meth : Method) (c : Code) (z0 u0 n : Nat) : Prop :=
  (∀ (v0R : Nat) (σ : AM), VX (QM eR G args s below z0 u0) G p l e s m args below meth c 0 z0 u0 1 (lpn F_Ls_spare n (0, v0R, σ)) 0 [(0, .ref v0R)] [] σ)
set_option maxRecDepth 20000 in
theorem s_Ls_spare_0 {G : GX} {p : Program} {l : Launch} {e : Env} {s : State} {m : MethodId} {args : Array Value} {below : List Frame} {meth : Method} {c : Code} {z0 u0 n : Nat} (C : Cx G p s m args meth c prog_6_method_8_code 1 "BellPlate$Lists" ((some (FieldType.array FieldType.int)))) (IH : I_Ls_spare G p l e s m args below meth c z0 u0 n) (v0R : Nat) (σ : AM) : VX (QM eR G args s below z0 u0) G p l e s m args below meth c 0 z0 u0 1 (lpK (lpn F_Ls_spare n) (T_Ls_spare_0 v0R σ)) 0 [(0, .ref v0R)] [] σ := by
  unfold T_Ls_spare_0
  refine x_aload_n C d_Ls_spare_0 0 rfl ?_
  refine x_gd (fun h1 => ?_)
  refine x_gd (fun h2 => ?_)
  refine x_getR (k := 7) (kv := 101) C (okO_iff.mp h1) rfl j2_ok (by decide) rfl (okO_iff.mp h2) (by decide) w259 d_Ls_spare_1 ?_
  exact x_aret (by first | exact Or.inl ⟨_, rfl⟩ | exact Or.inr ⟨_, rfl⟩) C d_Ls_spare_4
theorem i_Ls_spare {G : GX} {p : Program} {l : Launch} {e : Env} {s : State} {m : MethodId} {args : Array Value} {below : List Frame} {meth : Method} {c : Code} {z0 u0 : Nat} (C : Cx G p s m args meth c prog_6_method_8_code 1 "BellPlate$Lists" ((some (FieldType.array FieldType.int)))) (n : Nat) : I_Ls_spare G p l e s m args below meth c z0 u0 n := by
  induction n with
  | zero => exact fun _ _ => x_none
  | succ n IH => exact fun v0R σ => s_Ls_spare_0 C IH v0R σ
theorem c_Ls_spare (G : GX) (l : Launch) (v0R : Nat) (σ : AM) : CT eR G l 0 y_Ls_spare prog_6_method_8_code 1 ((some (FieldType.array FieldType.int))) [.ref v0R] σ (M_Ls_spare v0R σ) := by
  refine ct_of (by decide +kernel) (Nat.le_of_ble_eq_true rfl) (fun p e s m args below meth c C hin => ?_)
  refine x_lve (lv' := [(0, .ref v0R)]) rfl ?_
  intro r σ' h
  obtain ⟨n, hn⟩ := (lp_iff _ _ _).mp h
  exact (i_Ls_spare C n) v0R σ r σ' hn
/-! BellPlate$Lists.numberOf(I)I -/
abbrev y_Ls_numberOf : MethodName := ⟨"BellPlate$Lists", "numberOf", "(I)I"⟩
theorem k_Ls_numberOf : y_Ls_numberOf.cls ≠ "java/lang/invoke/MethodHandle" ∧ y_Ls_numberOf.cls ≠ "java/lang/invoke/VarHandle" ∧ (parseMethodDescriptor y_Ls_numberOf.desc).map (fun d => d.parameters.length) = some 1 := by decide +kernel
theorem d_Ls_numberOf_0 : decode prog_6_method_7_code 0 = .ok (.iload_n 1, 1) := by decide +kernel
theorem d_Ls_numberOf_1 : decode prog_6_method_7_code 1 = .ok (.ifCond .lt 21, 3) := by decide +kernel
theorem d_Ls_numberOf_4 : decode prog_6_method_7_code 4 = .ok (.iload_n 1, 1) := by decide +kernel
theorem d_Ls_numberOf_5 : decode prog_6_method_7_code 5 = .ok (.aload_n 0, 1) := by decide +kernel
theorem d_Ls_numberOf_6 : decode prog_6_method_7_code 6 = .ok (.getfield 36, 3) := by decide +kernel
theorem d_Ls_numberOf_9 : decode prog_6_method_7_code 9 = .ok (.arraylength, 1) := by decide +kernel
theorem d_Ls_numberOf_10 : decode prog_6_method_7_code 10 = .ok (.if_icmp .ge 12, 3) := by decide +kernel
theorem d_Ls_numberOf_13 : decode prog_6_method_7_code 13 = .ok (.aload_n 0, 1) := by decide +kernel
theorem d_Ls_numberOf_14 : decode prog_6_method_7_code 14 = .ok (.getfield 36, 3) := by decide +kernel
theorem d_Ls_numberOf_17 : decode prog_6_method_7_code 17 = .ok (.iload_n 1, 1) := by decide +kernel
theorem d_Ls_numberOf_18 : decode prog_6_method_7_code 18 = .ok (.iaload, 1) := by decide +kernel
theorem d_Ls_numberOf_19 : decode prog_6_method_7_code 19 = .ok (.goto 4, 3) := by decide +kernel
theorem d_Ls_numberOf_22 : decode prog_6_method_7_code 22 = .ok (.iconst (-1), 1) := by decide +kernel
theorem d_Ls_numberOf_23 : decode prog_6_method_7_code 23 = .ok (.ireturn, 1) := by decide +kernel
abbrev S_Ls_numberOf : Type := Nat × Nat × Int32 × Int32 × AM
noncomputable def T_Ls_numberOf_0 (v0R : Nat) (v1I : Int32) (σ : AM) : S_Ls_numberOf ⊕ Option (Int32 × AM) :=
  if v1I < 0 then (.inl (1, 0, 0, 0, σ)) else (gdT (okO σ v0R 3) <| gdT (okO σ (aR σ v0R 6) 101) <| if v1I < (nI (aN σ (aR σ v0R 6))) then (gdT (inB v1I (aN σ (aR σ v0R 6))) <| .inl (2, 0, 0, aI σ (aR σ v0R 6) v1I.toNatClampNeg, σ)) else (.inl (1, 0, 0, 0, σ)))
noncomputable def T_Ls_numberOf_1  (σ : AM) : S_Ls_numberOf ⊕ Option (Int32 × AM) :=
  .inl (2, 0, 0, ((-1) : Int32), σ)
noncomputable def T_Ls_numberOf_2 (s0I : Int32) (σ : AM) : S_Ls_numberOf ⊕ Option (Int32 × AM) :=
  .inr (some (s0I, σ))
noncomputable def F_Ls_numberOf : S_Ls_numberOf → S_Ls_numberOf ⊕ Option (Int32 × AM) := fun s => match s.1 with
  | 0 => T_Ls_numberOf_0 (s.2.1) (s.2.2.1) (s.2.2.2.2)
  | 1 => T_Ls_numberOf_1  (s.2.2.2.2)
  | _ => T_Ls_numberOf_2 (s.2.2.2.1) (s.2.2.2.2)
noncomputable def L_Ls_numberOf_0 (v0R : Nat) (v1I : Int32) (σ : AM) : Option (Int32 × AM) := lp F_Ls_numberOf (0, v0R, v1I, 0, σ)
noncomputable def L_Ls_numberOf_1  (σ : AM) : Option (Int32 × AM) := lp F_Ls_numberOf (1, 0, 0, 0, σ)
noncomputable def L_Ls_numberOf_2 (s0I : Int32) (σ : AM) : Option (Int32 × AM) := lp F_Ls_numberOf (2, 0, 0, s0I, σ)
set_option maxRecDepth 20000 in
theorem E_Ls_numberOf_0 (v0R : Nat) (v1I : Int32) (σ : AM) : L_Ls_numberOf_0 v0R v1I σ = (if v1I < 0 then (L_Ls_numberOf_1 σ) else (gd (okO σ v0R 3) <| gd (okO σ (aR σ v0R 6) 101) <| if v1I < (nI (aN σ (aR σ v0R 6))) then (gd (inB v1I (aN σ (aR σ v0R 6))) <| L_Ls_numberOf_2 (aI σ (aR σ v0R 6) v1I.toNatClampNeg) σ) else (L_Ls_numberOf_1 σ))) := by
  unfold L_Ls_numberOf_0
  rw [lp_eq]
  show lpK (lp F_Ls_numberOf) (T_Ls_numberOf_0 v0R v1I σ) = _
  unfold T_Ls_numberOf_0
  simp only [lpK_ite, lq_inl, lq_inr, lpK_bnd, lpK_gd, lq_let]
  try rfl
set_option maxRecDepth 20000 in
theorem E_Ls_numberOf_1  (σ : AM) : L_Ls_numberOf_1  σ = (L_Ls_numberOf_2 (((-1) : Int32)) σ) := by
  unfold L_Ls_numberOf_1
  rw [lp_eq]
  show lpK (lp F_Ls_numberOf) (T_Ls_numberOf_1  σ) = _
  unfold T_Ls_numberOf_1
  simp only [lpK_ite, lq_inl, lq_inr, lpK_bnd, lpK_gd, lq_let]
  try rfl
set_option maxRecDepth 20000 in
theorem E_Ls_numberOf_2 (s0I : Int32) (σ : AM) : L_Ls_numberOf_2 s0I σ = ((some (s0I, σ))) := by
  unfold L_Ls_numberOf_2
  rw [lp_eq]
  show lpK (lp F_Ls_numberOf) (T_Ls_numberOf_2 s0I σ) = _
  unfold T_Ls_numberOf_2
  simp only [lpK_ite, lq_inl, lq_inr, lpK_bnd, lpK_gd, lq_let]
  try rfl
noncomputable def M_Ls_numberOf (v0R : Nat) (v1I : Int32) (σ : AM) : Option (Int32 × AM) := mw σ (L_Ls_numberOf_0 v0R v1I σ)
def I_Ls_numberOf (G : GX) (p : Program) (l : Launch) (e : Env) (s : State) (m : MethodId) (args : Array Value) (below : List Frame) (meth : Method) (c : Code) (z0 u0 n : Nat) : Prop :=
  (∀ (v0R : Nat) (v1I : Int32) (σ : AM), VX (QM eI G args s below z0 u0) G p l e s m args below meth c 0 z0 u0 2 (lpn F_Ls_numberOf n (0, v0R, v1I, 0, σ)) 0 [(0, .ref v0R), (1, .int v1I)] [] σ) ∧
  (∀ (σ : AM), VX (QM eI G args s below z0 u0) G p l e s m args below meth c 0 z0 u0 2 (lpn F_Ls_numberOf n (1, 0, 0, 0, σ)) 22 [] [] σ) ∧
  (∀ (s0I : Int32) (σ : AM), VX (QM eI G args s below z0 u0) G p l e s m args below meth c 0 z0 u0 2 (lpn F_Ls_numberOf n (2, 0, 0, s0I, σ)) 23 [] [.int s0I] σ)
set_option maxRecDepth 20000 in
theorem s_Ls_numberOf_0 {G : GX} {p : Program} {l : Launch} {e : Env} {s : State} {m : MethodId} {args : Array Value} {below : List Frame} {meth : Method} {c : Code} {z0 u0 n : Nat} (C : Cx G p s m args meth c prog_6_method_7_code 2 "BellPlate$Lists" ((some FieldType.int))) (IH : I_Ls_numberOf G p l e s m args below meth c z0 u0 n) (v0R : Nat) (v1I : Int32) (σ : AM) : VX (QM eI G args s below z0 u0) G p l e s m args below meth c 0 z0 u0 2 (lpK (lpn F_Ls_numberOf n) (T_Ls_numberOf_0 v0R v1I σ)) 0 [(0, .ref v0R), (1, .int v1I)] [] σ := by
  unfold T_Ls_numberOf_0
  refine x_iload_n C d_Ls_numberOf_0 1 rfl ?_
  refine x_if_lt (tgt := 22) C d_Ls_numberOf_1 (by decide) (fun _ => ?_) (fun _ => ?_)
  · refine x_lv [] rfl ?_
    exact IH.2.1  (σ)
  · refine x_iload_n C d_Ls_numberOf_4 1 rfl ?_
    refine x_aload_n C d_Ls_numberOf_5 0 rfl ?_
    refine x_gd (fun h1 => ?_)
    refine x_gd (fun h2 => ?_)
    refine x_getR (k := 6) (kv := 101) C (okO_iff.mp h1) rfl j2_ok (by decide) rfl (okO_iff.mp h2) (by decide) w258 d_Ls_numberOf_6 ?_
    refine x_alen (t := 0) C (okO_iff.mp h2) (by decide) d_Ls_numberOf_9 ?_
    refine x_icmp_ge (tgt := 22) C d_Ls_numberOf_10 (by decide) (fun _ => ?_) (fun _ => ?_)
    · refine x_aload_n C d_Ls_numberOf_13 0 rfl ?_
      refine x_getR (k := 6) (kv := 101) C (okO_iff.mp h1) rfl j2_ok (by decide) rfl (okO_iff.mp h2) (by decide) w258 d_Ls_numberOf_14 ?_
      refine x_iload_n C d_Ls_numberOf_17 1 rfl ?_
      refine x_gd (fun h3 => ?_)
      refine x_aldI C (okO_iff.mp h2) (inB_iff.mp h3) d_Ls_numberOf_18 ?_
      refine x_goto (tgt := 23) C d_Ls_numberOf_19 (by decide) ?_
      refine x_lv [] rfl ?_
      exact IH.2.2 (aI σ (aR σ v0R 6) v1I.toNatClampNeg) (σ)
    · refine x_lv [] rfl ?_
      exact IH.2.1  (σ)
set_option maxRecDepth 20000 in
theorem s_Ls_numberOf_1 {G : GX} {p : Program} {l : Launch} {e : Env} {s : State} {m : MethodId} {args : Array Value} {below : List Frame} {meth : Method} {c : Code} {z0 u0 n : Nat} (C : Cx G p s m args meth c prog_6_method_7_code 2 "BellPlate$Lists" ((some FieldType.int))) (IH : I_Ls_numberOf G p l e s m args below meth c z0 u0 n)  (σ : AM) : VX (QM eI G args s below z0 u0) G p l e s m args below meth c 0 z0 u0 2 (lpK (lpn F_Ls_numberOf n) (T_Ls_numberOf_1  σ)) 22 [] [] σ := by
  unfold T_Ls_numberOf_1
  refine x_iconst (v := ((-1) : Int32)) C d_Ls_numberOf_22 (by decide) ?_
  exact IH.2.2 (((-1) : Int32)) (σ)
set_option maxRecDepth 20000 in
theorem s_Ls_numberOf_2 {G : GX} {p : Program} {l : Launch} {e : Env} {s : State} {m : MethodId} {args : Array Value} {below : List Frame} {meth : Method} {c : Code} {z0 u0 n : Nat} (C : Cx G p s m args meth c prog_6_method_7_code 2 "BellPlate$Lists" ((some FieldType.int))) (IH : I_Ls_numberOf G p l e s m args below meth c z0 u0 n) (s0I : Int32) (σ : AM) : VX (QM eI G args s below z0 u0) G p l e s m args below meth c 0 z0 u0 2 (lpK (lpn F_Ls_numberOf n) (T_Ls_numberOf_2 s0I σ)) 23 [] [.int s0I] σ := by
  unfold T_Ls_numberOf_2
  exact x_iret C d_Ls_numberOf_23
theorem i_Ls_numberOf {G : GX} {p : Program} {l : Launch} {e : Env} {s : State} {m : MethodId} {args : Array Value} {below : List Frame} {meth : Method} {c : Code} {z0 u0 : Nat} (C : Cx G p s m args meth c prog_6_method_7_code 2 "BellPlate$Lists" ((some FieldType.int))) (n : Nat) : I_Ls_numberOf G p l e s m args below meth c z0 u0 n := by
  induction n with
  | zero => exact ⟨fun _ _ _ => x_none, fun _ => x_none, fun _ _ => x_none⟩
  | succ n IH => exact ⟨fun v0R v1I σ => s_Ls_numberOf_0 C IH v0R v1I σ, fun σ => s_Ls_numberOf_1 C IH σ, fun s0I σ => s_Ls_numberOf_2 C IH s0I σ⟩
theorem c_Ls_numberOf (G : GX) (l : Launch) (v0R : Nat) (v1I : Int32) (σ : AM) : CT eI G l 0 y_Ls_numberOf prog_6_method_7_code 2 ((some FieldType.int)) [.ref v0R, .int v1I] σ (M_Ls_numberOf v0R v1I σ) := by
  refine ct_of (by decide +kernel) (Nat.le_of_ble_eq_true rfl) (fun p e s m args below meth c C hin => ?_)
  refine x_lve (lv' := [(0, .ref v0R), (1, .int v1I)]) rfl ?_
  intro r σ' h
  obtain ⟨n, hn⟩ := (lp_iff _ _ _).mp h
  exact (i_Ls_numberOf C n).1 v0R v1I σ r σ' hn
/-! BellPlate$Lists.weigh(I)V -/
abbrev y_Ls_weigh : MethodName := ⟨"BellPlate$Lists", "weigh", "(I)V"⟩
theorem k_Ls_weigh : y_Ls_weigh.cls ≠ "java/lang/invoke/MethodHandle" ∧ y_Ls_weigh.cls ≠ "java/lang/invoke/VarHandle" ∧ (parseMethodDescriptor y_Ls_weigh.desc).map (fun d => d.parameters.length) = some 1 := by decide +kernel
theorem d_Ls_weigh_0 : decode prog_6_method_10_code 0 = .ok (.aload_n 0, 1) := by decide +kernel
theorem d_Ls_weigh_1 : decode prog_6_method_10_code 1 = .ok (.getfield 9, 3) := by decide +kernel
theorem d_Ls_weigh_4 : decode prog_6_method_10_code 4 = .ok (.iload_n 1, 1) := by decide +kernel
theorem d_Ls_weigh_5 : decode prog_6_method_10_code 5 = .ok (.aload_n 0, 1) := by decide +kernel
theorem d_Ls_weigh_6 : decode prog_6_method_10_code 6 = .ok (.getfield 17, 3) := by decide +kernel
theorem d_Ls_weigh_9 : decode prog_6_method_10_code 9 = .ok (.invokevirtual 74, 3) := by decide +kernel
theorem d_Ls_weigh_12 : decode prog_6_method_10_code 12 = .ok (.aload_n 0, 1) := by decide +kernel
theorem d_Ls_weigh_13 : decode prog_6_method_10_code 13 = .ok (.getfield 23, 3) := by decide +kernel
theorem d_Ls_weigh_16 : decode prog_6_method_10_code 16 = .ok (.iconst 0, 1) := by decide +kernel
theorem d_Ls_weigh_17 : decode prog_6_method_10_code 17 = .ok (.iconst 0, 1) := by decide +kernel
theorem d_Ls_weigh_18 : decode prog_6_method_10_code 18 = .ok (.iastore, 1) := by decide +kernel
theorem d_Ls_weigh_19 : decode prog_6_method_10_code 19 = .ok (.iconst 0, 1) := by decide +kernel
theorem d_Ls_weigh_20 : decode prog_6_method_10_code 20 = .ok (.istore_n 2, 1) := by decide +kernel
theorem d_Ls_weigh_21 : decode prog_6_method_10_code 21 = .ok (.iload_n 2, 1) := by decide +kernel
theorem d_Ls_weigh_22 : decode prog_6_method_10_code 22 = .ok (.aload_n 0, 1) := by decide +kernel
theorem d_Ls_weigh_23 : decode prog_6_method_10_code 23 = .ok (.getfield 9, 3) := by decide +kernel
theorem d_Ls_weigh_26 : decode prog_6_method_10_code 26 = .ok (.invokevirtual 78, 3) := by decide +kernel
theorem d_Ls_weigh_29 : decode prog_6_method_10_code 29 = .ok (.if_icmp .ge 51, 3) := by decide +kernel
theorem d_Ls_weigh_32 : decode prog_6_method_10_code 32 = .ok (.iconst 1, 1) := by decide +kernel
theorem d_Ls_weigh_33 : decode prog_6_method_10_code 33 = .ok (.iload_n 2, 1) := by decide +kernel
theorem d_Ls_weigh_34 : decode prog_6_method_10_code 34 = .ok (.ishl, 1) := by decide +kernel
theorem d_Ls_weigh_35 : decode prog_6_method_10_code 35 = .ok (.istore_n 3, 1) := by decide +kernel
theorem d_Ls_weigh_36 : decode prog_6_method_10_code 36 = .ok (.iconst 0, 1) := by decide +kernel
theorem d_Ls_weigh_37 : decode prog_6_method_10_code 37 = .ok (.istore 4, 2) := by decide +kernel
theorem d_Ls_weigh_39 : decode prog_6_method_10_code 39 = .ok (.iload 4, 2) := by decide +kernel
theorem d_Ls_weigh_41 : decode prog_6_method_10_code 41 = .ok (.iload_n 3, 1) := by decide +kernel
theorem d_Ls_weigh_42 : decode prog_6_method_10_code 42 = .ok (.if_icmp .ge 32, 3) := by decide +kernel
theorem d_Ls_weigh_45 : decode prog_6_method_10_code 45 = .ok (.aload_n 0, 1) := by decide +kernel
theorem d_Ls_weigh_46 : decode prog_6_method_10_code 46 = .ok (.getfield 23, 3) := by decide +kernel
theorem d_Ls_weigh_49 : decode prog_6_method_10_code 49 = .ok (.iload_n 3, 1) := by decide +kernel
theorem d_Ls_weigh_50 : decode prog_6_method_10_code 50 = .ok (.iload 4, 2) := by decide +kernel
theorem d_Ls_weigh_52 : decode prog_6_method_10_code 52 = .ok (.iadd, 1) := by decide +kernel
theorem d_Ls_weigh_53 : decode prog_6_method_10_code 53 = .ok (.aload_n 0, 1) := by decide +kernel
theorem d_Ls_weigh_54 : decode prog_6_method_10_code 54 = .ok (.getfield 23, 3) := by decide +kernel
theorem d_Ls_weigh_57 : decode prog_6_method_10_code 57 = .ok (.iload 4, 2) := by decide +kernel
theorem d_Ls_weigh_59 : decode prog_6_method_10_code 59 = .ok (.iaload, 1) := by decide +kernel
theorem d_Ls_weigh_60 : decode prog_6_method_10_code 60 = .ok (.aload_n 0, 1) := by decide +kernel
theorem d_Ls_weigh_61 : decode prog_6_method_10_code 61 = .ok (.getfield 17, 3) := by decide +kernel
theorem d_Ls_weigh_64 : decode prog_6_method_10_code 64 = .ok (.iload_n 2, 1) := by decide +kernel
theorem d_Ls_weigh_65 : decode prog_6_method_10_code 65 = .ok (.iaload, 1) := by decide +kernel
theorem d_Ls_weigh_66 : decode prog_6_method_10_code 66 = .ok (.iadd, 1) := by decide +kernel
theorem d_Ls_weigh_67 : decode prog_6_method_10_code 67 = .ok (.iastore, 1) := by decide +kernel
theorem d_Ls_weigh_68 : decode prog_6_method_10_code 68 = .ok (.iinc 4 1, 3) := by decide +kernel
theorem d_Ls_weigh_71 : decode prog_6_method_10_code 71 = .ok (.goto (-32), 3) := by decide +kernel
theorem d_Ls_weigh_74 : decode prog_6_method_10_code 74 = .ok (.iinc 2 1, 3) := by decide +kernel
theorem d_Ls_weigh_77 : decode prog_6_method_10_code 77 = .ok (.goto (-56), 3) := by decide +kernel
theorem d_Ls_weigh_80 : decode prog_6_method_10_code 80 = .ok (.return_, 1) := by decide +kernel
abbrev S_Ls_weigh : Type := Nat × Nat × Int32 × Int32 × Int32 × Int32 × AM
noncomputable def T_Ls_weigh_0 (v0R : Nat) (v1I : Int32) (σ : AM) : S_Ls_weigh ⊕ Option (Unit × AM) :=
  gdT (okO σ v0R 3) <| gdT (okO σ (aR σ v0R 0) 1) <| gdT (okO σ (aR σ v0R 1) 101) <| bndT (M_Tw_spread (aR σ v0R 0) v1I (aR σ v0R 1) σ) fun _ σ5 => gdT (okO σ5 v0R 3) <| gdT (okO σ5 (aR σ5 v0R 2) 101) <| gdT (inB (0 : Int32) (aN σ5 (aR σ5 v0R 2))) <| letT (sI σ5 (aR σ5 v0R 2) (0 : Int32).toNatClampNeg (0 : Int32)) fun σ9 => .inl (1, v0R, 0, (0 : Int32), 0, 0, σ9)
noncomputable def T_Ls_weigh_1 (v0R : Nat) (v2I : Int32) (σ : AM) : S_Ls_weigh ⊕ Option (Unit × AM) :=
  gdT (okO σ v0R 3) <| gdT (okO σ (aR σ v0R 0) 1) <| bndT (M_Tw_things (aR σ v0R 0) σ) fun r3 σ4 => if v2I < r3 then (letT ((1 : Int32) <<< (v2I &&& 31)) fun x5 => .inl (2, v0R, 0, v2I, x5, (0 : Int32), σ4)) else (.inr (some ((), σ4)))
noncomputable def T_Ls_weigh_2 (v0R : Nat) (v2I : Int32) (v3I : Int32) (v4I : Int32) (σ : AM) : S_Ls_weigh ⊕ Option (Unit × AM) :=
  if v4I < v3I then (gdT (okO σ v0R 3) <| gdT (okO σ (aR σ v0R 2) 101) <| gdT (inB v4I (aN σ (aR σ v0R 2))) <| gdT (okO σ (aR σ v0R 1) 101) <| gdT (inB v2I (aN σ (aR σ v0R 1))) <| gdT (inB (v3I + v4I) (aN σ (aR σ v0R 2))) <| letT (sI σ (aR σ v0R 2) (v3I + v4I).toNatClampNeg ((aI σ (aR σ v0R 2) v4I.toNatClampNeg) + (aI σ (aR σ v0R 1) v2I.toNatClampNeg))) fun σ7 => .inl (2, v0R, 0, v2I, v3I, v4I + (1 : Int32), σ7)) else (.inl (1, v0R, 0, v2I + (1 : Int32), 0, 0, σ))
noncomputable def F_Ls_weigh : S_Ls_weigh → S_Ls_weigh ⊕ Option (Unit × AM) := fun s => match s.1 with
  | 0 => T_Ls_weigh_0 (s.2.1) (s.2.2.1) (s.2.2.2.2.2.2)
  | 1 => T_Ls_weigh_1 (s.2.1) (s.2.2.2.1) (s.2.2.2.2.2.2)
  | _ => T_Ls_weigh_2 (s.2.1) (s.2.2.2.1) (s.2.2.2.2.1) (s.2.2.2.2.2.1) (s.2.2.2.2.2.2)
noncomputable def L_Ls_weigh_0 (v0R : Nat) (v1I : Int32) (σ : AM) : Option (Unit × AM) := lp F_Ls_weigh (0, v0R, v1I, 0, 0, 0, σ)
noncomputable def L_Ls_weigh_1 (v0R : Nat) (v2I : Int32) (σ : AM) : Option (Unit × AM) := lp F_Ls_weigh (1, v0R, 0, v2I, 0, 0, σ)
noncomputable def L_Ls_weigh_2 (v0R : Nat) (v2I : Int32) (v3I : Int32) (v4I : Int32) (σ : AM) : Option (Unit × AM) := lp F_Ls_weigh (2, v0R, 0, v2I, v3I, v4I, σ)
set_option maxRecDepth 20000 in
theorem E_Ls_weigh_0 (v0R : Nat) (v1I : Int32) (σ : AM) : L_Ls_weigh_0 v0R v1I σ = (gd (okO σ v0R 3) <| gd (okO σ (aR σ v0R 0) 1) <| gd (okO σ (aR σ v0R 1) 101) <| bnd (M_Tw_spread (aR σ v0R 0) v1I (aR σ v0R 1) σ) fun _ σ5 => gd (okO σ5 v0R 3) <| gd (okO σ5 (aR σ5 v0R 2) 101) <| gd (inB (0 : Int32) (aN σ5 (aR σ5 v0R 2))) <| letT (sI σ5 (aR σ5 v0R 2) (0 : Int32).toNatClampNeg (0 : Int32)) fun σ9 => L_Ls_weigh_1 v0R ((0 : Int32)) σ9) := by
  unfold L_Ls_weigh_0
  rw [lp_eq]
  show lpK (lp F_Ls_weigh) (T_Ls_weigh_0 v0R v1I σ) = _
  unfold T_Ls_weigh_0
  simp only [lpK_ite, lq_inl, lq_inr, lpK_bnd, lpK_gd, lq_let]
  try rfl
set_option maxRecDepth 20000 in
theorem E_Ls_weigh_1 (v0R : Nat) (v2I : Int32) (σ : AM) : L_Ls_weigh_1 v0R v2I σ = (gd (okO σ v0R 3) <| gd (okO σ (aR σ v0R 0) 1) <| bnd (M_Tw_things (aR σ v0R 0) σ) fun r3 σ4 => if v2I < r3 then (letT ((1 : Int32) <<< (v2I &&& 31)) fun x5 => L_Ls_weigh_2 v0R v2I x5 ((0 : Int32)) σ4) else ((some ((), σ4)))) := by
  unfold L_Ls_weigh_1
  rw [lp_eq]
  show lpK (lp F_Ls_weigh) (T_Ls_weigh_1 v0R v2I σ) = _
  unfold T_Ls_weigh_1
  simp only [lpK_ite, lq_inl, lq_inr, lpK_bnd, lpK_gd, lq_let]
  try rfl
set_option maxRecDepth 20000 in
theorem E_Ls_weigh_2 (v0R : Nat) (v2I : Int32) (v3I : Int32) (v4I : Int32) (σ : AM) : L_Ls_weigh_2 v0R v2I v3I v4I σ = (if v4I < v3I then (gd (okO σ v0R 3) <| gd (okO σ (aR σ v0R 2) 101) <| gd (inB v4I (aN σ (aR σ v0R 2))) <| gd (okO σ (aR σ v0R 1) 101) <| gd (inB v2I (aN σ (aR σ v0R 1))) <| gd (inB (v3I + v4I) (aN σ (aR σ v0R 2))) <| letT (sI σ (aR σ v0R 2) (v3I + v4I).toNatClampNeg ((aI σ (aR σ v0R 2) v4I.toNatClampNeg) + (aI σ (aR σ v0R 1) v2I.toNatClampNeg))) fun σ7 => L_Ls_weigh_2 v0R v2I v3I (v4I + (1 : Int32)) σ7) else (L_Ls_weigh_1 v0R (v2I + (1 : Int32)) σ)) := by
  unfold L_Ls_weigh_2
  rw [lp_eq]
  show lpK (lp F_Ls_weigh) (T_Ls_weigh_2 v0R v2I v3I v4I σ) = _
  unfold T_Ls_weigh_2
  simp only [lpK_ite, lq_inl, lq_inr, lpK_bnd, lpK_gd, lq_let]
  try rfl
noncomputable def M_Ls_weigh (v0R : Nat) (v1I : Int32) (σ : AM) : Option (Unit × AM) := mw σ (L_Ls_weigh_0 v0R v1I σ)
def I_Ls_weigh (G : GX) (p : Program) (l : Launch) (e : Env) (s : State) (m : MethodId) (args : Array Value) (below : List Frame) (meth : Method) (c : Code) (z0 u0 n : Nat) : Prop :=
  (∀ (v0R : Nat) (v1I : Int32) (σ : AM), VX (QM eV G args s below z0 u0) G p l e s m args below meth c 2 z0 u0 5 (lpn F_Ls_weigh n (0, v0R, v1I, 0, 0, 0, σ)) 0 [(0, .ref v0R), (1, .int v1I)] [] σ) ∧
  (∀ (v0R : Nat) (v2I : Int32) (σ : AM), VX (QM eV G args s below z0 u0) G p l e s m args below meth c 2 z0 u0 5 (lpn F_Ls_weigh n (1, v0R, 0, v2I, 0, 0, σ)) 21 [(0, .ref v0R), (2, .int v2I)] [] σ) ∧
  (∀ (v0R : Nat) (v2I : Int32) (v3I : Int32) (v4I : Int32) (σ : AM), VX (QM eV G args s below z0 u0) G p l e s m args below meth c 2 z0 u0 5 (lpn F_Ls_weigh n (2, v0R, 0, v2I, v3I, v4I, σ)) 39 [(0, .ref v0R), (2, .int v2I), (3, .int v3I), (4, .int v4I)] [] σ)
set_option maxRecDepth 20000 in
theorem s_Ls_weigh_0 {G : GX} {p : Program} {l : Launch} {e : Env} {s : State} {m : MethodId} {args : Array Value} {below : List Frame} {meth : Method} {c : Code} {z0 u0 n : Nat} (C : Cx G p s m args meth c prog_6_method_10_code 5 "BellPlate$Lists" ((none))) (IH : I_Ls_weigh G p l e s m args below meth c z0 u0 n) (v0R : Nat) (v1I : Int32) (σ : AM) : VX (QM eV G args s below z0 u0) G p l e s m args below meth c 2 z0 u0 5 (lpK (lpn F_Ls_weigh n) (T_Ls_weigh_0 v0R v1I σ)) 0 [(0, .ref v0R), (1, .int v1I)] [] σ := by
  unfold T_Ls_weigh_0
  refine x_aload_n C d_Ls_weigh_0 0 rfl ?_
  refine x_gd (fun h1 => ?_)
  refine x_gd (fun h2 => ?_)
  refine x_getR (k := 0) (kv := 1) C (okO_iff.mp h1) rfl j2_ok (by decide) rfl (okO_iff.mp h2) (by decide) w252 d_Ls_weigh_1 ?_
  refine x_iload_n C d_Ls_weigh_4 1 rfl ?_
  refine x_aload_n C d_Ls_weigh_5 0 rfl ?_
  refine x_gd (fun h3 => ?_)
  refine x_getR (k := 1) (kv := 101) C (okO_iff.mp h1) rfl j2_ok (by decide) rfl (okO_iff.mp h3) (by decide) w253 d_Ls_weigh_6 ?_
  refine x_callVV (As := [.int v1I, .ref (aR σ v0R 1)]) C (c_Tw_spread G l (aR σ v0R 0) v1I (aR σ v0R 1) σ) (okO_iff.mp h2) rfl w663 w664 w662 w665 w122 k_Tw_spread rfl (by decide) (by decide) rfl (Nat.le_of_ble_eq_true rfl) d_Ls_weigh_9 (fun r4 σ5 => ?_)
  refine x_aload_n C d_Ls_weigh_12 0 rfl ?_
  refine x_gd (fun h6 => ?_)
  refine x_gd (fun h7 => ?_)
  refine x_getR (k := 2) (kv := 101) C (okO_iff.mp h6) rfl j2_ok (by decide) rfl (okO_iff.mp h7) (by decide) w254 d_Ls_weigh_13 ?_
  refine x_iconst (v := (0 : Int32)) C d_Ls_weigh_16 (by decide) ?_
  refine x_iconst (v := (0 : Int32)) C d_Ls_weigh_17 (by decide) ?_
  refine x_gd (fun h8 => ?_)
  refine x_astI C (okO_iff.mp h7) (inB_iff.mp h8) d_Ls_weigh_18 ?_
  refine x_letS (fun σ9 e10 => ?_)
  refine x_iconst (v := (0 : Int32)) C d_Ls_weigh_19 (by decide) ?_
  refine x_istore_n (lv' := [(2, .int (0 : Int32)), (0, .ref v0R), (1, .int v1I)]) C d_Ls_weigh_20 (by decide) rfl rfl ?_
  refine x_lv [1, 0] rfl ?_
  exact IH.2.1 v0R ((0 : Int32)) (σ9)
set_option maxRecDepth 20000 in
theorem s_Ls_weigh_1 {G : GX} {p : Program} {l : Launch} {e : Env} {s : State} {m : MethodId} {args : Array Value} {below : List Frame} {meth : Method} {c : Code} {z0 u0 n : Nat} (C : Cx G p s m args meth c prog_6_method_10_code 5 "BellPlate$Lists" ((none))) (IH : I_Ls_weigh G p l e s m args below meth c z0 u0 n) (v0R : Nat) (v2I : Int32) (σ : AM) : VX (QM eV G args s below z0 u0) G p l e s m args below meth c 2 z0 u0 5 (lpK (lpn F_Ls_weigh n) (T_Ls_weigh_1 v0R v2I σ)) 21 [(0, .ref v0R), (2, .int v2I)] [] σ := by
  unfold T_Ls_weigh_1
  refine x_iload_n C d_Ls_weigh_21 1 rfl ?_
  refine x_aload_n C d_Ls_weigh_22 0 rfl ?_
  refine x_gd (fun h1 => ?_)
  refine x_gd (fun h2 => ?_)
  refine x_getR (k := 0) (kv := 1) C (okO_iff.mp h1) rfl j2_ok (by decide) rfl (okO_iff.mp h2) (by decide) w252 d_Ls_weigh_23 ?_
  refine x_callVI (As := []) C (c_Tw_things G l (aR σ v0R 0)  σ) (okO_iff.mp h2) rfl w643 w644 w642 w645 w122 k_Tw_things rfl (by decide) (by decide) rfl (Nat.le_of_ble_eq_true rfl) d_Ls_weigh_26 (fun r3 σ4 => ?_)
  refine x_icmp_ge (tgt := 80) C d_Ls_weigh_29 (by decide) (fun _ => ?_) (fun _ => ?_)
  · refine x_iconst (v := (1 : Int32)) C d_Ls_weigh_32 (by decide) ?_
    refine x_iload_n C d_Ls_weigh_33 1 rfl ?_
    refine x_ishl C d_Ls_weigh_34 ?_
    refine x_letI (fun x5 _ => ?_)
    refine x_istore_n (lv' := [(3, .int x5), (0, .ref v0R), (2, .int v2I)]) C d_Ls_weigh_35 (by decide) rfl rfl ?_
    refine x_iconst (v := (0 : Int32)) C d_Ls_weigh_36 (by decide) ?_
    refine x_istore (lv' := [(4, .int (0 : Int32)), (3, .int x5), (0, .ref v0R), (2, .int v2I)]) C d_Ls_weigh_37 (by decide) rfl ?_
    refine x_lv [2, 3, 1, 0] rfl ?_
    exact IH.2.2 v0R v2I x5 ((0 : Int32)) (σ4)
  · exact x_vret C d_Ls_weigh_80
set_option maxRecDepth 20000 in
theorem s_Ls_weigh_2 {G : GX} {p : Program} {l : Launch} {e : Env} {s : State} {m : MethodId} {args : Array Value} {below : List Frame} {meth : Method} {c : Code} {z0 u0 n : Nat} (C : Cx G p s m args meth c prog_6_method_10_code 5 "BellPlate$Lists" ((none))) (IH : I_Ls_weigh G p l e s m args below meth c z0 u0 n) (v0R : Nat) (v2I : Int32) (v3I : Int32) (v4I : Int32) (σ : AM) : VX (QM eV G args s below z0 u0) G p l e s m args below meth c 2 z0 u0 5 (lpK (lpn F_Ls_weigh n) (T_Ls_weigh_2 v0R v2I v3I v4I σ)) 39 [(0, .ref v0R), (2, .int v2I), (3, .int v3I), (4, .int v4I)] [] σ := by
  unfold T_Ls_weigh_2
  refine x_iload C d_Ls_weigh_39 3 rfl ?_
  refine x_iload_n C d_Ls_weigh_41 2 rfl ?_
  refine x_icmp_ge (tgt := 74) C d_Ls_weigh_42 (by decide) (fun _ => ?_) (fun _ => ?_)
  · refine x_aload_n C d_Ls_weigh_45 0 rfl ?_
    refine x_gd (fun h1 => ?_)
    refine x_gd (fun h2 => ?_)
    refine x_getR (k := 2) (kv := 101) C (okO_iff.mp h1) rfl j2_ok (by decide) rfl (okO_iff.mp h2) (by decide) w254 d_Ls_weigh_46 ?_
    refine x_iload_n C d_Ls_weigh_49 2 rfl ?_
    refine x_iload C d_Ls_weigh_50 3 rfl ?_
    refine x_iadd C d_Ls_weigh_52 ?_
    refine x_aload_n C d_Ls_weigh_53 0 rfl ?_
    refine x_getR (k := 2) (kv := 101) C (okO_iff.mp h1) rfl j2_ok (by decide) rfl (okO_iff.mp h2) (by decide) w254 d_Ls_weigh_54 ?_
    refine x_iload C d_Ls_weigh_57 3 rfl ?_
    refine x_gd (fun h3 => ?_)
    refine x_aldI C (okO_iff.mp h2) (inB_iff.mp h3) d_Ls_weigh_59 ?_
    refine x_aload_n C d_Ls_weigh_60 0 rfl ?_
    refine x_gd (fun h4 => ?_)
    refine x_getR (k := 1) (kv := 101) C (okO_iff.mp h1) rfl j2_ok (by decide) rfl (okO_iff.mp h4) (by decide) w253 d_Ls_weigh_61 ?_
    refine x_iload_n C d_Ls_weigh_64 1 rfl ?_
    refine x_gd (fun h5 => ?_)
    refine x_aldI C (okO_iff.mp h4) (inB_iff.mp h5) d_Ls_weigh_65 ?_
    refine x_iadd C d_Ls_weigh_66 ?_
    refine x_gd (fun h6 => ?_)
    refine x_astI C (okO_iff.mp h2) (inB_iff.mp h6) d_Ls_weigh_67 ?_
    refine x_letS (fun σ7 e8 => ?_)
    refine x_iinc (v := v4I + (1 : Int32)) (lv' := [(4, .int (v4I + (1 : Int32))), (0, .ref v0R), (2, .int v2I), (3, .int v3I)]) C d_Ls_weigh_68 3 rfl rfl (by decide) rfl ?_
    refine x_goto (tgt := 39) C d_Ls_weigh_71 (by decide) ?_
    refine x_lv [1, 2, 3, 0] rfl ?_
    exact IH.2.2 v0R v2I v3I (v4I + (1 : Int32)) (σ7)
  · refine x_iinc (v := v2I + (1 : Int32)) (lv' := [(2, .int (v2I + (1 : Int32))), (0, .ref v0R), (3, .int v3I), (4, .int v4I)]) C d_Ls_weigh_74 1 rfl rfl (by decide) rfl ?_
    refine x_goto (tgt := 21) C d_Ls_weigh_77 (by decide) ?_
    refine x_lv [1, 0] rfl ?_
    exact IH.2.1 v0R (v2I + (1 : Int32)) (σ)
theorem i_Ls_weigh {G : GX} {p : Program} {l : Launch} {e : Env} {s : State} {m : MethodId} {args : Array Value} {below : List Frame} {meth : Method} {c : Code} {z0 u0 : Nat} (C : Cx G p s m args meth c prog_6_method_10_code 5 "BellPlate$Lists" ((none))) (n : Nat) : I_Ls_weigh G p l e s m args below meth c z0 u0 n := by
  induction n with
  | zero => exact ⟨fun _ _ _ => x_none, fun _ _ _ => x_none, fun _ _ _ _ _ => x_none⟩
  | succ n IH => exact ⟨fun v0R v1I σ => s_Ls_weigh_0 C IH v0R v1I σ, fun v0R v2I σ => s_Ls_weigh_1 C IH v0R v2I σ, fun v0R v2I v3I v4I σ => s_Ls_weigh_2 C IH v0R v2I v3I v4I σ⟩
theorem c_Ls_weigh (G : GX) (l : Launch) (v0R : Nat) (v1I : Int32) (σ : AM) : CT eV G l 2 y_Ls_weigh prog_6_method_10_code 5 (none) [.ref v0R, .int v1I] σ (M_Ls_weigh v0R v1I σ) := by
  refine ct_of (by decide +kernel) (Nat.le_of_ble_eq_true rfl) (fun p e s m args below meth c C hin => ?_)
  refine x_lve (lv' := [(0, .ref v0R), (1, .int v1I)]) rfl ?_
  intro r σ' h
  obtain ⟨n, hn⟩ := (lp_iff _ _ _).mp h
  exact (i_Ls_weigh C n).1 v0R v1I σ r σ' hn
/-! BellPlate$Lists.listOf(I)J -/
abbrev y_Ls_listOf : MethodName := ⟨"BellPlate$Lists", "listOf", "(I)J"⟩
theorem k_Ls_listOf : y_Ls_listOf.cls ≠ "java/lang/invoke/MethodHandle" ∧ y_Ls_listOf.cls ≠ "java/lang/invoke/VarHandle" ∧ (parseMethodDescriptor y_Ls_listOf.desc).map (fun d => d.parameters.length) = some 1 := by decide +kernel
theorem d_Ls_listOf_0 : decode prog_6_method_9_code 0 = .ok (.aload_n 0, 1) := by decide +kernel
theorem d_Ls_listOf_1 : decode prog_6_method_9_code 1 = .ok (.iload_n 1, 1) := by decide +kernel
theorem d_Ls_listOf_2 : decode prog_6_method_9_code 2 = .ok (.invokevirtual 55, 3) := by decide +kernel
theorem d_Ls_listOf_5 : decode prog_6_method_9_code 5 = .ok (.istore_n 2, 1) := by decide +kernel
theorem d_Ls_listOf_6 : decode prog_6_method_9_code 6 = .ok (.iload_n 2, 1) := by decide +kernel
theorem d_Ls_listOf_7 : decode prog_6_method_9_code 7 = .ok (.ifCond .lt 9, 3) := by decide +kernel
theorem d_Ls_listOf_10 : decode prog_6_method_9_code 10 = .ok (.aload_n 0, 1) := by decide +kernel
theorem d_Ls_listOf_11 : decode prog_6_method_9_code 11 = .ok (.iload_n 2, 1) := by decide +kernel
theorem d_Ls_listOf_12 : decode prog_6_method_9_code 12 = .ok (.invokevirtual 59, 3) := by decide +kernel
theorem d_Ls_listOf_15 : decode prog_6_method_9_code 15 = .ok (.lreturn, 1) := by decide +kernel
theorem d_Ls_listOf_16 : decode prog_6_method_9_code 16 = .ok (.aload_n 0, 1) := by decide +kernel
theorem d_Ls_listOf_17 : decode prog_6_method_9_code 17 = .ok (.iload_n 1, 1) := by decide +kernel
theorem d_Ls_listOf_18 : decode prog_6_method_9_code 18 = .ok (.invokevirtual 63, 3) := by decide +kernel
theorem d_Ls_listOf_21 : decode prog_6_method_9_code 21 = .ok (.lconst 0, 1) := by decide +kernel
theorem d_Ls_listOf_22 : decode prog_6_method_9_code 22 = .ok (.lstore_n 3, 1) := by decide +kernel
theorem d_Ls_listOf_23 : decode prog_6_method_9_code 23 = .ok (.iconst 0, 1) := by decide +kernel
theorem d_Ls_listOf_24 : decode prog_6_method_9_code 24 = .ok (.istore 5, 2) := by decide +kernel
theorem d_Ls_listOf_26 : decode prog_6_method_9_code 26 = .ok (.iload 5, 2) := by decide +kernel
theorem d_Ls_listOf_28 : decode prog_6_method_9_code 28 = .ok (.aload_n 0, 1) := by decide +kernel
theorem d_Ls_listOf_29 : decode prog_6_method_9_code 29 = .ok (.getfield 9, 3) := by decide +kernel
theorem d_Ls_listOf_32 : decode prog_6_method_9_code 32 = .ok (.invokevirtual 67, 3) := by decide +kernel
theorem d_Ls_listOf_35 : decode prog_6_method_9_code 35 = .ok (.if_icmp .ge 33, 3) := by decide +kernel
theorem d_Ls_listOf_38 : decode prog_6_method_9_code 38 = .ok (.aload_n 0, 1) := by decide +kernel
theorem d_Ls_listOf_39 : decode prog_6_method_9_code 39 = .ok (.getfield 23, 3) := by decide +kernel
theorem d_Ls_listOf_42 : decode prog_6_method_9_code 42 = .ok (.iload 5, 2) := by decide +kernel
theorem d_Ls_listOf_44 : decode prog_6_method_9_code 44 = .ok (.iaload, 1) := by decide +kernel
theorem d_Ls_listOf_45 : decode prog_6_method_9_code 45 = .ok (.aload_n 0, 1) := by decide +kernel
theorem d_Ls_listOf_46 : decode prog_6_method_9_code 46 = .ok (.getfield 9, 3) := by decide +kernel
theorem d_Ls_listOf_49 : decode prog_6_method_9_code 49 = .ok (.invokevirtual 71, 3) := by decide +kernel
theorem d_Ls_listOf_52 : decode prog_6_method_9_code 52 = .ok (.if_icmp .lt 10, 3) := by decide +kernel
theorem d_Ls_listOf_55 : decode prog_6_method_9_code 55 = .ok (.lload_n 3, 1) := by decide +kernel
theorem d_Ls_listOf_56 : decode prog_6_method_9_code 56 = .ok (.lconst 1, 1) := by decide +kernel
theorem d_Ls_listOf_57 : decode prog_6_method_9_code 57 = .ok (.iload 5, 2) := by decide +kernel
theorem d_Ls_listOf_59 : decode prog_6_method_9_code 59 = .ok (.lshl, 1) := by decide +kernel
theorem d_Ls_listOf_60 : decode prog_6_method_9_code 60 = .ok (.lor, 1) := by decide +kernel
theorem d_Ls_listOf_61 : decode prog_6_method_9_code 61 = .ok (.lstore_n 3, 1) := by decide +kernel
theorem d_Ls_listOf_62 : decode prog_6_method_9_code 62 = .ok (.iinc 5 1, 3) := by decide +kernel
theorem d_Ls_listOf_65 : decode prog_6_method_9_code 65 = .ok (.goto (-39), 3) := by decide +kernel
theorem d_Ls_listOf_68 : decode prog_6_method_9_code 68 = .ok (.lload_n 3, 1) := by decide +kernel
theorem d_Ls_listOf_69 : decode prog_6_method_9_code 69 = .ok (.lreturn, 1) := by decide +kernel
abbrev S_Ls_listOf : Type := Nat × Nat × Int32 × Int64 × Int32 × AM
noncomputable def T_Ls_listOf_0 (v0R : Nat) (v1I : Int32) (σ : AM) : S_Ls_listOf ⊕ Option (Int64 × AM) :=
  gdT (okO σ v0R 3) <| bndT (M_Ls_numberOf v0R v1I σ) fun r1 σ2 => if r1 < 0 then (gdT (okO σ2 v0R 3) <| bndT (M_Ls_weigh v0R v1I σ2) fun _ σ5 => .inl (1, v0R, 0, (0 : Int64), (0 : Int32), σ5)) else (gdT (okO σ2 v0R 3) <| bndT (M_Ls_at v0R r1 σ2) fun r7 σ8 => .inr (some (r7, σ8)))
noncomputable def T_Ls_listOf_1 (v0R : Nat) (v3J : Int64) (v5I : Int32) (σ : AM) : S_Ls_listOf ⊕ Option (Int64 × AM) :=
  gdT (okO σ v0R 3) <| gdT (okO σ (aR σ v0R 0) 1) <| bndT (M_Tw_sets (aR σ v0R 0) σ) fun r3 σ4 => if v5I < r3 then (gdT (okO σ4 v0R 3) <| gdT (okO σ4 (aR σ4 v0R 2) 101) <| gdT (inB v5I (aN σ4 (aR σ4 v0R 2))) <| gdT (okO σ4 (aR σ4 v0R 0) 1) <| bndT (M_Tw_bar (aR σ4 v0R 0) σ4) fun r9 σ10 => if (aI σ4 (aR σ4 v0R 2) v5I.toNatClampNeg) < r9 then (.inl (2, v0R, 0, v3J, v5I, σ10)) else (letT (v3J ||| ((1 : Int64) <<< (v5I.toInt64 &&& 63))) fun x11 => .inl (2, v0R, 0, x11, v5I, σ10))) else (.inr (some (v3J, σ4)))
noncomputable def T_Ls_listOf_2 (v0R : Nat) (v3J : Int64) (v5I : Int32) (σ : AM) : S_Ls_listOf ⊕ Option (Int64 × AM) :=
  .inl (1, v0R, 0, v3J, v5I + (1 : Int32), σ)
noncomputable def F_Ls_listOf : S_Ls_listOf → S_Ls_listOf ⊕ Option (Int64 × AM) := fun s => match s.1 with
  | 0 => T_Ls_listOf_0 (s.2.1) (s.2.2.1) (s.2.2.2.2.2)
  | 1 => T_Ls_listOf_1 (s.2.1) (s.2.2.2.1) (s.2.2.2.2.1) (s.2.2.2.2.2)
  | _ => T_Ls_listOf_2 (s.2.1) (s.2.2.2.1) (s.2.2.2.2.1) (s.2.2.2.2.2)
noncomputable def L_Ls_listOf_0 (v0R : Nat) (v1I : Int32) (σ : AM) : Option (Int64 × AM) := lp F_Ls_listOf (0, v0R, v1I, 0, 0, σ)
noncomputable def L_Ls_listOf_1 (v0R : Nat) (v3J : Int64) (v5I : Int32) (σ : AM) : Option (Int64 × AM) := lp F_Ls_listOf (1, v0R, 0, v3J, v5I, σ)
noncomputable def L_Ls_listOf_2 (v0R : Nat) (v3J : Int64) (v5I : Int32) (σ : AM) : Option (Int64 × AM) := lp F_Ls_listOf (2, v0R, 0, v3J, v5I, σ)
set_option maxRecDepth 20000 in
theorem E_Ls_listOf_0 (v0R : Nat) (v1I : Int32) (σ : AM) : L_Ls_listOf_0 v0R v1I σ = (gd (okO σ v0R 3) <| bnd (M_Ls_numberOf v0R v1I σ) fun r1 σ2 => if r1 < 0 then (gd (okO σ2 v0R 3) <| bnd (M_Ls_weigh v0R v1I σ2) fun _ σ5 => L_Ls_listOf_1 v0R ((0 : Int64)) ((0 : Int32)) σ5) else (gd (okO σ2 v0R 3) <| bnd (M_Ls_at v0R r1 σ2) fun r7 σ8 => (some (r7, σ8)))) := by
  unfold L_Ls_listOf_0
  rw [lp_eq]
  show lpK (lp F_Ls_listOf) (T_Ls_listOf_0 v0R v1I σ) = _
  unfold T_Ls_listOf_0
  simp only [lpK_ite, lq_inl, lq_inr, lpK_bnd, lpK_gd, lq_let]
  try rfl
set_option maxRecDepth 20000 in
theorem E_Ls_listOf_1 (v0R : Nat) (v3J : Int64) (v5I : Int32) (σ : AM) : L_Ls_listOf_1 v0R v3J v5I σ = (gd (okO σ v0R 3) <| gd (okO σ (aR σ v0R 0) 1) <| bnd (M_Tw_sets (aR σ v0R 0) σ) fun r3 σ4 => if v5I < r3 then (gd (okO σ4 v0R 3) <| gd (okO σ4 (aR σ4 v0R 2) 101) <| gd (inB v5I (aN σ4 (aR σ4 v0R 2))) <| gd (okO σ4 (aR σ4 v0R 0) 1) <| bnd (M_Tw_bar (aR σ4 v0R 0) σ4) fun r9 σ10 => if (aI σ4 (aR σ4 v0R 2) v5I.toNatClampNeg) < r9 then (L_Ls_listOf_2 v0R v3J v5I σ10) else (letT (v3J ||| ((1 : Int64) <<< (v5I.toInt64 &&& 63))) fun x11 => L_Ls_listOf_2 v0R x11 v5I σ10)) else ((some (v3J, σ4)))) := by
  unfold L_Ls_listOf_1
  rw [lp_eq]
  show lpK (lp F_Ls_listOf) (T_Ls_listOf_1 v0R v3J v5I σ) = _
  unfold T_Ls_listOf_1
  simp only [lpK_ite, lq_inl, lq_inr, lpK_bnd, lpK_gd, lq_let]
  try rfl
set_option maxRecDepth 20000 in
theorem E_Ls_listOf_2 (v0R : Nat) (v3J : Int64) (v5I : Int32) (σ : AM) : L_Ls_listOf_2 v0R v3J v5I σ = (L_Ls_listOf_1 v0R v3J (v5I + (1 : Int32)) σ) := by
  unfold L_Ls_listOf_2
  rw [lp_eq]
  show lpK (lp F_Ls_listOf) (T_Ls_listOf_2 v0R v3J v5I σ) = _
  unfold T_Ls_listOf_2
  simp only [lpK_ite, lq_inl, lq_inr, lpK_bnd, lpK_gd, lq_let]
  try rfl
noncomputable def M_Ls_listOf (v0R : Nat) (v1I : Int32) (σ : AM) : Option (Int64 × AM) := mw σ (L_Ls_listOf_0 v0R v1I σ)
def I_Ls_listOf (G : GX) (p : Program) (l : Launch) (e : Env) (s : State) (m : MethodId) (args : Array Value) (below : List Frame) (meth : Method) (c : Code) (z0 u0 n : Nat) : Prop :=
  (∀ (v0R : Nat) (v1I : Int32) (σ : AM), VX (QM eJ G args s below z0 u0) G p l e s m args below meth c 3 z0 u0 6 (lpn F_Ls_listOf n (0, v0R, v1I, 0, 0, σ)) 0 [(0, .ref v0R), (1, .int v1I)] [] σ) ∧
  (∀ (v0R : Nat) (v3J : Int64) (v5I : Int32) (σ : AM), VX (QM eJ G args s below z0 u0) G p l e s m args below meth c 3 z0 u0 6 (lpn F_Ls_listOf n (1, v0R, 0, v3J, v5I, σ)) 26 [(0, .ref v0R), (3, .long v3J), (5, .int v5I)] [] σ) ∧
  (∀ (v0R : Nat) (v3J : Int64) (v5I : Int32) (σ : AM), VX (QM eJ G args s below z0 u0) G p l e s m args below meth c 3 z0 u0 6 (lpn F_Ls_listOf n (2, v0R, 0, v3J, v5I, σ)) 62 [(0, .ref v0R), (3, .long v3J), (5, .int v5I)] [] σ)
set_option maxRecDepth 20000 in
theorem s_Ls_listOf_0 {G : GX} {p : Program} {l : Launch} {e : Env} {s : State} {m : MethodId} {args : Array Value} {below : List Frame} {meth : Method} {c : Code} {z0 u0 n : Nat} (C : Cx G p s m args meth c prog_6_method_9_code 6 "BellPlate$Lists" ((some FieldType.long))) (IH : I_Ls_listOf G p l e s m args below meth c z0 u0 n) (v0R : Nat) (v1I : Int32) (σ : AM) : VX (QM eJ G args s below z0 u0) G p l e s m args below meth c 3 z0 u0 6 (lpK (lpn F_Ls_listOf n) (T_Ls_listOf_0 v0R v1I σ)) 0 [(0, .ref v0R), (1, .int v1I)] [] σ := by
  unfold T_Ls_listOf_0
  refine x_aload_n C d_Ls_listOf_0 0 rfl ?_
  refine x_iload_n C d_Ls_listOf_1 1 rfl ?_
  refine x_gd (fun h3 => ?_)
  refine x_callVI (As := [.int v1I]) C (c_Ls_numberOf G l v0R v1I σ) (okO_iff.mp h3) rfl w983 w984 w994 w985 w123 k_Ls_numberOf rfl (by decide) (by decide) rfl (Nat.le_of_ble_eq_true rfl) d_Ls_listOf_2 (fun r1 σ2 => ?_)
  refine x_istore_n (lv' := [(2, .int r1), (0, .ref v0R), (1, .int v1I)]) C d_Ls_listOf_5 (by decide) rfl rfl ?_
  refine x_iload_n C d_Ls_listOf_6 0 rfl ?_
  refine x_if_lt (tgt := 16) C d_Ls_listOf_7 (by decide) (fun _ => ?_) (fun _ => ?_)
  · refine x_aload_n C d_Ls_listOf_16 1 rfl ?_
    refine x_iload_n C d_Ls_listOf_17 2 rfl ?_
    refine x_gd (fun h6 => ?_)
    refine x_callVV (As := [.int v1I]) C (c_Ls_weigh G l v0R v1I σ2) (okO_iff.mp h6) rfl w659 w660 w658 w661 w123 k_Ls_weigh rfl (by decide) (by decide) rfl (Nat.le_of_ble_eq_true rfl) d_Ls_listOf_18 (fun r4 σ5 => ?_)
    refine x_lconst (v := (0 : Int64)) C d_Ls_listOf_21 (by decide) ?_
    refine x_lstore_n (lv' := [(3, .long (0 : Int64)), (2, .int r1), (0, .ref v0R), (1, .int v1I)]) C d_Ls_listOf_22 (by decide) rfl rfl ?_
    refine x_iconst (v := (0 : Int32)) C d_Ls_listOf_23 (by decide) ?_
    refine x_istore (lv' := [(5, .int (0 : Int32)), (3, .long (0 : Int64)), (2, .int r1), (0, .ref v0R), (1, .int v1I)]) C d_Ls_listOf_24 (by decide) rfl ?_
    refine x_lv [3, 1, 0] rfl ?_
    exact IH.2.1 v0R ((0 : Int64)) ((0 : Int32)) (σ5)
  · refine x_aload_n C d_Ls_listOf_10 1 rfl ?_
    refine x_iload_n C d_Ls_listOf_11 0 rfl ?_
    refine x_gd (fun h9 => ?_)
    refine x_callVJ (As := [.int r1]) C (c_Ls_at G l v0R r1 σ2) (okO_iff.mp h9) rfl w996 w997 w995 w998 w123 k_Ls_at rfl (by decide) (by decide) rfl (Nat.le_of_ble_eq_true rfl) d_Ls_listOf_12 (fun r7 σ8 => ?_)
    exact x_lret C d_Ls_listOf_15
set_option maxRecDepth 20000 in
theorem s_Ls_listOf_1 {G : GX} {p : Program} {l : Launch} {e : Env} {s : State} {m : MethodId} {args : Array Value} {below : List Frame} {meth : Method} {c : Code} {z0 u0 n : Nat} (C : Cx G p s m args meth c prog_6_method_9_code 6 "BellPlate$Lists" ((some FieldType.long))) (IH : I_Ls_listOf G p l e s m args below meth c z0 u0 n) (v0R : Nat) (v3J : Int64) (v5I : Int32) (σ : AM) : VX (QM eJ G args s below z0 u0) G p l e s m args below meth c 3 z0 u0 6 (lpK (lpn F_Ls_listOf n) (T_Ls_listOf_1 v0R v3J v5I σ)) 26 [(0, .ref v0R), (3, .long v3J), (5, .int v5I)] [] σ := by
  unfold T_Ls_listOf_1
  refine x_iload C d_Ls_listOf_26 2 rfl ?_
  refine x_aload_n C d_Ls_listOf_28 0 rfl ?_
  refine x_gd (fun h1 => ?_)
  refine x_gd (fun h2 => ?_)
  refine x_getR (k := 0) (kv := 1) C (okO_iff.mp h1) rfl j2_ok (by decide) rfl (okO_iff.mp h2) (by decide) w252 d_Ls_listOf_29 ?_
  refine x_callVI (As := []) C (c_Tw_sets G l (aR σ v0R 0)  σ) (okO_iff.mp h2) rfl w600 w601 w999 w602 w122 k_Tw_sets rfl (by decide) (by decide) rfl (Nat.le_of_ble_eq_true rfl) d_Ls_listOf_32 (fun r3 σ4 => ?_)
  refine x_icmp_ge (tgt := 68) C d_Ls_listOf_35 (by decide) (fun _ => ?_) (fun _ => ?_)
  · refine x_aload_n C d_Ls_listOf_38 0 rfl ?_
    refine x_gd (fun h5 => ?_)
    refine x_gd (fun h6 => ?_)
    refine x_getR (k := 2) (kv := 101) C (okO_iff.mp h5) rfl j2_ok (by decide) rfl (okO_iff.mp h6) (by decide) w254 d_Ls_listOf_39 ?_
    refine x_iload C d_Ls_listOf_42 2 rfl ?_
    refine x_gd (fun h7 => ?_)
    refine x_aldI C (okO_iff.mp h6) (inB_iff.mp h7) d_Ls_listOf_44 ?_
    refine x_aload_n C d_Ls_listOf_45 0 rfl ?_
    refine x_gd (fun h8 => ?_)
    refine x_getR (k := 0) (kv := 1) C (okO_iff.mp h5) rfl j2_ok (by decide) rfl (okO_iff.mp h8) (by decide) w252 d_Ls_listOf_46 ?_
    refine x_callVI (As := []) C (c_Tw_bar G l (aR σ4 v0R 0)  σ4) (okO_iff.mp h8) rfl w655 w656 w654 w657 w122 k_Tw_bar rfl (by decide) (by decide) rfl (Nat.le_of_ble_eq_true rfl) d_Ls_listOf_49 (fun r9 σ10 => ?_)
    refine x_icmp_lt (tgt := 62) C d_Ls_listOf_52 (by decide) (fun _ => ?_) (fun _ => ?_)
    · exact IH.2.2 v0R v3J v5I (σ10)
    · refine x_lload_n C d_Ls_listOf_55 1 rfl ?_
      refine x_lconst (v := (1 : Int64)) C d_Ls_listOf_56 (by decide) ?_
      refine x_iload C d_Ls_listOf_57 2 rfl ?_
      refine x_lshl C d_Ls_listOf_59 ?_
      refine x_lor C d_Ls_listOf_60 ?_
      refine x_letJ (fun x11 _ => ?_)
      refine x_lstore_n (lv' := [(3, .long x11), (0, .ref v0R), (5, .int v5I)]) C d_Ls_listOf_61 (by decide) rfl rfl ?_
      refine x_lv [1, 0, 2] rfl ?_
      exact IH.2.2 v0R x11 v5I (σ10)
  · refine x_lload_n C d_Ls_listOf_68 1 rfl ?_
    exact x_lret C d_Ls_listOf_69
set_option maxRecDepth 20000 in
theorem s_Ls_listOf_2 {G : GX} {p : Program} {l : Launch} {e : Env} {s : State} {m : MethodId} {args : Array Value} {below : List Frame} {meth : Method} {c : Code} {z0 u0 n : Nat} (C : Cx G p s m args meth c prog_6_method_9_code 6 "BellPlate$Lists" ((some FieldType.long))) (IH : I_Ls_listOf G p l e s m args below meth c z0 u0 n) (v0R : Nat) (v3J : Int64) (v5I : Int32) (σ : AM) : VX (QM eJ G args s below z0 u0) G p l e s m args below meth c 3 z0 u0 6 (lpK (lpn F_Ls_listOf n) (T_Ls_listOf_2 v0R v3J v5I σ)) 62 [(0, .ref v0R), (3, .long v3J), (5, .int v5I)] [] σ := by
  unfold T_Ls_listOf_2
  refine x_iinc (v := v5I + (1 : Int32)) (lv' := [(5, .int (v5I + (1 : Int32))), (0, .ref v0R), (3, .long v3J)]) C d_Ls_listOf_62 2 rfl rfl (by decide) rfl ?_
  refine x_goto (tgt := 26) C d_Ls_listOf_65 (by decide) ?_
  refine x_lv [1, 2, 0] rfl ?_
  exact IH.2.1 v0R v3J (v5I + (1 : Int32)) (σ)
theorem i_Ls_listOf {G : GX} {p : Program} {l : Launch} {e : Env} {s : State} {m : MethodId} {args : Array Value} {below : List Frame} {meth : Method} {c : Code} {z0 u0 : Nat} (C : Cx G p s m args meth c prog_6_method_9_code 6 "BellPlate$Lists" ((some FieldType.long))) (n : Nat) : I_Ls_listOf G p l e s m args below meth c z0 u0 n := by
  induction n with
  | zero => exact ⟨fun _ _ _ => x_none, fun _ _ _ _ => x_none, fun _ _ _ _ => x_none⟩
  | succ n IH => exact ⟨fun v0R v1I σ => s_Ls_listOf_0 C IH v0R v1I σ, fun v0R v3J v5I σ => s_Ls_listOf_1 C IH v0R v3J v5I σ, fun v0R v3J v5I σ => s_Ls_listOf_2 C IH v0R v3J v5I σ⟩
theorem c_Ls_listOf (G : GX) (l : Launch) (v0R : Nat) (v1I : Int32) (σ : AM) : CT eJ G l 3 y_Ls_listOf prog_6_method_9_code 6 ((some FieldType.long)) [.ref v0R, .int v1I] σ (M_Ls_listOf v0R v1I σ) := by
  refine ct_of (by decide +kernel) (Nat.le_of_ble_eq_true rfl) (fun p e s m args below meth c C hin => ?_)
  refine x_lve (lv' := [(0, .ref v0R), (1, .int v1I)]) rfl ?_
  intro r σ' h
  obtain ⟨n, hn⟩ := (lp_iff _ _ _).mp h
  exact (i_Ls_listOf C n).1 v0R v1I σ r σ' hn
/-! BellPlate$Lists.size()I -/
abbrev y_Ls_size : MethodName := ⟨"BellPlate$Lists", "size", "()I"⟩
theorem k_Ls_size : y_Ls_size.cls ≠ "java/lang/invoke/MethodHandle" ∧ y_Ls_size.cls ≠ "java/lang/invoke/VarHandle" ∧ (parseMethodDescriptor y_Ls_size.desc).map (fun d => d.parameters.length) = some 0 := by decide +kernel
theorem d_Ls_size_0 : decode prog_6_method_2_code 0 = .ok (.aload_n 0, 1) := by decide +kernel
theorem d_Ls_size_1 : decode prog_6_method_2_code 1 = .ok (.getfield 48, 3) := by decide +kernel
theorem d_Ls_size_4 : decode prog_6_method_2_code 4 = .ok (.ireturn, 1) := by decide +kernel
abbrev S_Ls_size : Type := Nat × Nat × AM
noncomputable def T_Ls_size_0 (v0R : Nat) (σ : AM) : S_Ls_size ⊕ Option (Int32 × AM) :=
  gdT (okO σ v0R 3) <| .inr (some ((aI σ v0R 11), σ))
noncomputable def F_Ls_size : S_Ls_size → S_Ls_size ⊕ Option (Int32 × AM) := fun s => match s.1 with
  | _ => T_Ls_size_0 (s.2.1) (s.2.2)
noncomputable def L_Ls_size_0 (v0R : Nat) (σ : AM) : Option (Int32 × AM) := lp F_Ls_size (0, v0R, σ)
set_option maxRecDepth 20000 in
theorem E_Ls_size_0 (v0R : Nat) (σ : AM) : L_Ls_size_0 v0R σ = (gd (okO σ v0R 3) <| (some ((aI σ v0R 11), σ))) := by
  unfold L_Ls_size_0
  rw [lp_eq]
  show lpK (lp F_Ls_size) (T_Ls_size_0 v0R σ) = _
  unfold T_Ls_size_0
  simp only [lpK_ite, lq_inl, lq_inr, lpK_bnd, lpK_gd, lq_let]
  try rfl
noncomputable def M_Ls_size (v0R : Nat) (σ : AM) : Option (Int32 × AM) := mw σ (L_Ls_size_0 v0R σ)
def I_Ls_size (G : GX) (p : Program) (l : Launch) (e : Env) (s : State) (m : MethodId) (args : Array Value) (below : List Frame) (meth : Method) (c : Code) (z0 u0 n : Nat) : Prop :=
  (∀ (v0R : Nat) (σ : AM), VX (QM eI G args s below z0 u0) G p l e s m args below meth c 0 z0 u0 1 (lpn F_Ls_size n (0, v0R, σ)) 0 [(0, .ref v0R)] [] σ)
set_option maxRecDepth 20000 in
theorem s_Ls_size_0 {G : GX} {p : Program} {l : Launch} {e : Env} {s : State} {m : MethodId} {args : Array Value} {below : List Frame} {meth : Method} {c : Code} {z0 u0 n : Nat} (C : Cx G p s m args meth c prog_6_method_2_code 1 "BellPlate$Lists" ((some FieldType.int))) (IH : I_Ls_size G p l e s m args below meth c z0 u0 n) (v0R : Nat) (σ : AM) : VX (QM eI G args s below z0 u0) G p l e s m args below meth c 0 z0 u0 1 (lpK (lpn F_Ls_size n) (T_Ls_size_0 v0R σ)) 0 [(0, .ref v0R)] [] σ := by
  unfold T_Ls_size_0
  refine x_aload_n C d_Ls_size_0 0 rfl ?_
  refine x_gd (fun h1 => ?_)
  refine x_getI (k := 11) C (okO_iff.mp h1) rfl j2_ok (by decide) rfl w263 d_Ls_size_1 ?_
  exact x_iret C d_Ls_size_4
theorem i_Ls_size {G : GX} {p : Program} {l : Launch} {e : Env} {s : State} {m : MethodId} {args : Array Value} {below : List Frame} {meth : Method} {c : Code} {z0 u0 : Nat} (C : Cx G p s m args meth c prog_6_method_2_code 1 "BellPlate$Lists" ((some FieldType.int))) (n : Nat) : I_Ls_size G p l e s m args below meth c z0 u0 n := by
  induction n with
  | zero => exact fun _ _ => x_none
  | succ n IH => exact fun v0R σ => s_Ls_size_0 C IH v0R σ
theorem c_Ls_size (G : GX) (l : Launch) (v0R : Nat) (σ : AM) : CT eI G l 0 y_Ls_size prog_6_method_2_code 1 ((some FieldType.int)) [.ref v0R] σ (M_Ls_size v0R σ) := by
  refine ct_of (by decide +kernel) (Nat.le_of_ble_eq_true rfl) (fun p e s m args below meth c C hin => ?_)
  refine x_lve (lv' := [(0, .ref v0R)]) rfl ?_
  intro r σ' h
  obtain ⟨n, hn⟩ := (lp_iff _ _ _).mp h
  exact (i_Ls_size C n) v0R σ r σ' hn
/-! BellPlate$Lists.weightsAs(JJ)I -/
abbrev y_Ls_weightsAs : MethodName := ⟨"BellPlate$Lists", "weightsAs", "(JJ)I"⟩
theorem k_Ls_weightsAs : y_Ls_weightsAs.cls ≠ "java/lang/invoke/MethodHandle" ∧ y_Ls_weightsAs.cls ≠ "java/lang/invoke/VarHandle" ∧ (parseMethodDescriptor y_Ls_weightsAs.desc).map (fun d => d.parameters.length) = some 2 := by decide +kernel
theorem d_Ls_weightsAs_0 : decode prog_6_method_12_code 0 = .ok (.iconst 0, 1) := by decide +kernel
theorem d_Ls_weightsAs_1 : decode prog_6_method_12_code 1 = .ok (.istore 5, 2) := by decide +kernel
theorem d_Ls_weightsAs_3 : decode prog_6_method_12_code 3 = .ok (.iconst 0, 1) := by decide +kernel
theorem d_Ls_weightsAs_4 : decode prog_6_method_12_code 4 = .ok (.istore 6, 2) := by decide +kernel
theorem d_Ls_weightsAs_6 : decode prog_6_method_12_code 6 = .ok (.iload 6, 2) := by decide +kernel
theorem d_Ls_weightsAs_8 : decode prog_6_method_12_code 8 = .ok (.aload_n 0, 1) := by decide +kernel
theorem d_Ls_weightsAs_9 : decode prog_6_method_12_code 9 = .ok (.getfield 48, 3) := by decide +kernel
theorem d_Ls_weightsAs_12 : decode prog_6_method_12_code 12 = .ok (.if_icmp .ge 53, 3) := by decide +kernel
theorem d_Ls_weightsAs_15 : decode prog_6_method_12_code 15 = .ok (.aload_n 0, 1) := by decide +kernel
theorem d_Ls_weightsAs_16 : decode prog_6_method_12_code 16 = .ok (.getfield 29, 3) := by decide +kernel
theorem d_Ls_weightsAs_19 : decode prog_6_method_12_code 19 = .ok (.iload 6, 2) := by decide +kernel
theorem d_Ls_weightsAs_21 : decode prog_6_method_12_code 21 = .ok (.laload, 1) := by decide +kernel
theorem d_Ls_weightsAs_22 : decode prog_6_method_12_code 22 = .ok (.lload_n 3, 1) := by decide +kernel
theorem d_Ls_weightsAs_23 : decode prog_6_method_12_code 23 = .ok (.land, 1) := by decide +kernel
theorem d_Ls_weightsAs_24 : decode prog_6_method_12_code 24 = .ok (.lconst 0, 1) := by decide +kernel
theorem d_Ls_weightsAs_25 : decode prog_6_method_12_code 25 = .ok (.lcmp, 1) := by decide +kernel
theorem d_Ls_weightsAs_26 : decode prog_6_method_12_code 26 = .ok (.ifCond .ne 33, 3) := by decide +kernel
theorem d_Ls_weightsAs_29 : decode prog_6_method_12_code 29 = .ok (.aload_n 0, 1) := by decide +kernel
theorem d_Ls_weightsAs_30 : decode prog_6_method_12_code 30 = .ok (.getfield 29, 3) := by decide +kernel
theorem d_Ls_weightsAs_33 : decode prog_6_method_12_code 33 = .ok (.iload 6, 2) := by decide +kernel
theorem d_Ls_weightsAs_35 : decode prog_6_method_12_code 35 = .ok (.laload, 1) := by decide +kernel
theorem d_Ls_weightsAs_36 : decode prog_6_method_12_code 36 = .ok (.ldc2_w 81, 3) := by decide +kernel
theorem d_Ls_weightsAs_39 : decode prog_6_method_12_code 39 = .ok (.lxor, 1) := by decide +kernel
theorem d_Ls_weightsAs_40 : decode prog_6_method_12_code 40 = .ok (.lload_n 1, 1) := by decide +kernel
theorem d_Ls_weightsAs_41 : decode prog_6_method_12_code 41 = .ok (.land, 1) := by decide +kernel
theorem d_Ls_weightsAs_42 : decode prog_6_method_12_code 42 = .ok (.lconst 0, 1) := by decide +kernel
theorem d_Ls_weightsAs_43 : decode prog_6_method_12_code 43 = .ok (.lcmp, 1) := by decide +kernel
theorem d_Ls_weightsAs_44 : decode prog_6_method_12_code 44 = .ok (.ifCond .ne 15, 3) := by decide +kernel
theorem d_Ls_weightsAs_47 : decode prog_6_method_12_code 47 = .ok (.iload 5, 2) := by decide +kernel
theorem d_Ls_weightsAs_49 : decode prog_6_method_12_code 49 = .ok (.aload_n 0, 1) := by decide +kernel
theorem d_Ls_weightsAs_50 : decode prog_6_method_12_code 50 = .ok (.getfield 33, 3) := by decide +kernel
theorem d_Ls_weightsAs_53 : decode prog_6_method_12_code 53 = .ok (.iload 6, 2) := by decide +kernel
theorem d_Ls_weightsAs_55 : decode prog_6_method_12_code 55 = .ok (.iaload, 1) := by decide +kernel
theorem d_Ls_weightsAs_56 : decode prog_6_method_12_code 56 = .ok (.iadd, 1) := by decide +kernel
theorem d_Ls_weightsAs_57 : decode prog_6_method_12_code 57 = .ok (.istore 5, 2) := by decide +kernel
theorem d_Ls_weightsAs_59 : decode prog_6_method_12_code 59 = .ok (.iinc 6 1, 3) := by decide +kernel
theorem d_Ls_weightsAs_62 : decode prog_6_method_12_code 62 = .ok (.goto (-56), 3) := by decide +kernel
theorem d_Ls_weightsAs_65 : decode prog_6_method_12_code 65 = .ok (.iload 5, 2) := by decide +kernel
theorem d_Ls_weightsAs_67 : decode prog_6_method_12_code 67 = .ok (.ireturn, 1) := by decide +kernel
abbrev S_Ls_weightsAs : Type := Nat × Nat × Int64 × Int64 × Int32 × Int32 × AM
noncomputable def T_Ls_weightsAs_0 (v0R : Nat) (v1J : Int64) (v3J : Int64) (σ : AM) : S_Ls_weightsAs ⊕ Option (Int32 × AM) :=
  .inl (1, v0R, v1J, v3J, (0 : Int32), (0 : Int32), σ)
noncomputable def T_Ls_weightsAs_1 (v0R : Nat) (v1J : Int64) (v3J : Int64) (v5I : Int32) (v6I : Int32) (σ : AM) : S_Ls_weightsAs ⊕ Option (Int32 × AM) :=
  gdT (okO σ v0R 3) <| if v6I < (aI σ v0R 11) then (gdT (okO σ (aR σ v0R 4) 102) <| gdT (inB v6I (aN σ (aR σ v0R 4))) <| if (lg_cmp ((aL σ (aR σ v0R 4) v6I.toNatClampNeg) &&& v3J) (0 : Int64)) = 0 then (if (lg_cmp (((aL σ (aR σ v0R 4) v6I.toNatClampNeg) ^^^ ((-1) : Int64)) &&& v1J) (0 : Int64)) = 0 then (gdT (okO σ (aR σ v0R 5) 101) <| gdT (inB v6I (aN σ (aR σ v0R 5))) <| letT (v5I + (aI σ (aR σ v0R 5) v6I.toNatClampNeg)) fun x6 => .inl (2, v0R, v1J, v3J, x6, v6I, σ)) else (.inl (2, v0R, v1J, v3J, v5I, v6I, σ))) else (.inl (2, v0R, v1J, v3J, v5I, v6I, σ))) else (.inr (some (v5I, σ)))
noncomputable def T_Ls_weightsAs_2 (v0R : Nat) (v1J : Int64) (v3J : Int64) (v5I : Int32) (v6I : Int32) (σ : AM) : S_Ls_weightsAs ⊕ Option (Int32 × AM) :=
  .inl (1, v0R, v1J, v3J, v5I, v6I + (1 : Int32), σ)
noncomputable def F_Ls_weightsAs : S_Ls_weightsAs → S_Ls_weightsAs ⊕ Option (Int32 × AM) := fun s => match s.1 with
  | 0 => T_Ls_weightsAs_0 (s.2.1) (s.2.2.1) (s.2.2.2.1) (s.2.2.2.2.2.2)
  | 1 => T_Ls_weightsAs_1 (s.2.1) (s.2.2.1) (s.2.2.2.1) (s.2.2.2.2.1) (s.2.2.2.2.2.1) (s.2.2.2.2.2.2)
  | _ => T_Ls_weightsAs_2 (s.2.1) (s.2.2.1) (s.2.2.2.1) (s.2.2.2.2.1) (s.2.2.2.2.2.1) (s.2.2.2.2.2.2)
noncomputable def L_Ls_weightsAs_0 (v0R : Nat) (v1J : Int64) (v3J : Int64) (σ : AM) : Option (Int32 × AM) := lp F_Ls_weightsAs (0, v0R, v1J, v3J, 0, 0, σ)
noncomputable def L_Ls_weightsAs_1 (v0R : Nat) (v1J : Int64) (v3J : Int64) (v5I : Int32) (v6I : Int32) (σ : AM) : Option (Int32 × AM) := lp F_Ls_weightsAs (1, v0R, v1J, v3J, v5I, v6I, σ)
noncomputable def L_Ls_weightsAs_2 (v0R : Nat) (v1J : Int64) (v3J : Int64) (v5I : Int32) (v6I : Int32) (σ : AM) : Option (Int32 × AM) := lp F_Ls_weightsAs (2, v0R, v1J, v3J, v5I, v6I, σ)
set_option maxRecDepth 20000 in
theorem E_Ls_weightsAs_0 (v0R : Nat) (v1J : Int64) (v3J : Int64) (σ : AM) : L_Ls_weightsAs_0 v0R v1J v3J σ = (L_Ls_weightsAs_1 v0R v1J v3J ((0 : Int32)) ((0 : Int32)) σ) := by
  unfold L_Ls_weightsAs_0
  rw [lp_eq]
  show lpK (lp F_Ls_weightsAs) (T_Ls_weightsAs_0 v0R v1J v3J σ) = _
  unfold T_Ls_weightsAs_0
  simp only [lpK_ite, lq_inl, lq_inr, lpK_bnd, lpK_gd, lq_let]
  try rfl
set_option maxRecDepth 20000 in
theorem E_Ls_weightsAs_1 (v0R : Nat) (v1J : Int64) (v3J : Int64) (v5I : Int32) (v6I : Int32) (σ : AM) : L_Ls_weightsAs_1 v0R v1J v3J v5I v6I σ = (gd (okO σ v0R 3) <| if v6I < (aI σ v0R 11) then (gd (okO σ (aR σ v0R 4) 102) <| gd (inB v6I (aN σ (aR σ v0R 4))) <| if (lg_cmp ((aL σ (aR σ v0R 4) v6I.toNatClampNeg) &&& v3J) (0 : Int64)) = 0 then (if (lg_cmp (((aL σ (aR σ v0R 4) v6I.toNatClampNeg) ^^^ ((-1) : Int64)) &&& v1J) (0 : Int64)) = 0 then (gd (okO σ (aR σ v0R 5) 101) <| gd (inB v6I (aN σ (aR σ v0R 5))) <| letT (v5I + (aI σ (aR σ v0R 5) v6I.toNatClampNeg)) fun x6 => L_Ls_weightsAs_2 v0R v1J v3J x6 v6I σ) else (L_Ls_weightsAs_2 v0R v1J v3J v5I v6I σ)) else (L_Ls_weightsAs_2 v0R v1J v3J v5I v6I σ)) else ((some (v5I, σ)))) := by
  unfold L_Ls_weightsAs_1
  rw [lp_eq]
  show lpK (lp F_Ls_weightsAs) (T_Ls_weightsAs_1 v0R v1J v3J v5I v6I σ) = _
  unfold T_Ls_weightsAs_1
  simp only [lpK_ite, lq_inl, lq_inr, lpK_bnd, lpK_gd, lq_let]
  try rfl
set_option maxRecDepth 20000 in
theorem E_Ls_weightsAs_2 (v0R : Nat) (v1J : Int64) (v3J : Int64) (v5I : Int32) (v6I : Int32) (σ : AM) : L_Ls_weightsAs_2 v0R v1J v3J v5I v6I σ = (L_Ls_weightsAs_1 v0R v1J v3J v5I (v6I + (1 : Int32)) σ) := by
  unfold L_Ls_weightsAs_2
  rw [lp_eq]
  show lpK (lp F_Ls_weightsAs) (T_Ls_weightsAs_2 v0R v1J v3J v5I v6I σ) = _
  unfold T_Ls_weightsAs_2
  simp only [lpK_ite, lq_inl, lq_inr, lpK_bnd, lpK_gd, lq_let]
  try rfl
noncomputable def M_Ls_weightsAs (v0R : Nat) (v1J : Int64) (v3J : Int64) (σ : AM) : Option (Int32 × AM) := mw σ (L_Ls_weightsAs_0 v0R v1J v3J σ)
def I_Ls_weightsAs (G : GX) (p : Program) (l : Launch) (e : Env) (s : State) (m : MethodId) (args : Array Value) (below : List Frame) (meth : Method) (c : Code) (z0 u0 n : Nat) : Prop :=
  (∀ (v0R : Nat) (v1J : Int64) (v3J : Int64) (σ : AM), VX (QM eI G args s below z0 u0) G p l e s m args below meth c 0 z0 u0 7 (lpn F_Ls_weightsAs n (0, v0R, v1J, v3J, 0, 0, σ)) 0 [(0, .ref v0R), (1, .long v1J), (3, .long v3J)] [] σ) ∧
  (∀ (v0R : Nat) (v1J : Int64) (v3J : Int64) (v5I : Int32) (v6I : Int32) (σ : AM), VX (QM eI G args s below z0 u0) G p l e s m args below meth c 0 z0 u0 7 (lpn F_Ls_weightsAs n (1, v0R, v1J, v3J, v5I, v6I, σ)) 6 [(0, .ref v0R), (1, .long v1J), (3, .long v3J), (5, .int v5I), (6, .int v6I)] [] σ) ∧
  (∀ (v0R : Nat) (v1J : Int64) (v3J : Int64) (v5I : Int32) (v6I : Int32) (σ : AM), VX (QM eI G args s below z0 u0) G p l e s m args below meth c 0 z0 u0 7 (lpn F_Ls_weightsAs n (2, v0R, v1J, v3J, v5I, v6I, σ)) 59 [(0, .ref v0R), (1, .long v1J), (3, .long v3J), (5, .int v5I), (6, .int v6I)] [] σ)
set_option maxRecDepth 20000 in
theorem s_Ls_weightsAs_0 {G : GX} {p : Program} {l : Launch} {e : Env} {s : State} {m : MethodId} {args : Array Value} {below : List Frame} {meth : Method} {c : Code} {z0 u0 n : Nat} (C : Cx G p s m args meth c prog_6_method_12_code 7 "BellPlate$Lists" ((some FieldType.int))) (IH : I_Ls_weightsAs G p l e s m args below meth c z0 u0 n) (v0R : Nat) (v1J : Int64) (v3J : Int64) (σ : AM) : VX (QM eI G args s below z0 u0) G p l e s m args below meth c 0 z0 u0 7 (lpK (lpn F_Ls_weightsAs n) (T_Ls_weightsAs_0 v0R v1J v3J σ)) 0 [(0, .ref v0R), (1, .long v1J), (3, .long v3J)] [] σ := by
  unfold T_Ls_weightsAs_0
  refine x_iconst (v := (0 : Int32)) C d_Ls_weightsAs_0 (by decide) ?_
  refine x_istore (lv' := [(5, .int (0 : Int32)), (0, .ref v0R), (1, .long v1J), (3, .long v3J)]) C d_Ls_weightsAs_1 (by decide) rfl ?_
  refine x_iconst (v := (0 : Int32)) C d_Ls_weightsAs_3 (by decide) ?_
  refine x_istore (lv' := [(6, .int (0 : Int32)), (5, .int (0 : Int32)), (0, .ref v0R), (1, .long v1J), (3, .long v3J)]) C d_Ls_weightsAs_4 (by decide) rfl ?_
  refine x_lv [2, 3, 4, 1, 0] rfl ?_
  exact IH.2.1 v0R v1J v3J ((0 : Int32)) ((0 : Int32)) (σ)
set_option maxRecDepth 20000 in
theorem s_Ls_weightsAs_1 {G : GX} {p : Program} {l : Launch} {e : Env} {s : State} {m : MethodId} {args : Array Value} {below : List Frame} {meth : Method} {c : Code} {z0 u0 n : Nat} (C : Cx G p s m args meth c prog_6_method_12_code 7 "BellPlate$Lists" ((some FieldType.int))) (IH : I_Ls_weightsAs G p l e s m args below meth c z0 u0 n) (v0R : Nat) (v1J : Int64) (v3J : Int64) (v5I : Int32) (v6I : Int32) (σ : AM) : VX (QM eI G args s below z0 u0) G p l e s m args below meth c 0 z0 u0 7 (lpK (lpn F_Ls_weightsAs n) (T_Ls_weightsAs_1 v0R v1J v3J v5I v6I σ)) 6 [(0, .ref v0R), (1, .long v1J), (3, .long v3J), (5, .int v5I), (6, .int v6I)] [] σ := by
  unfold T_Ls_weightsAs_1
  refine x_iload C d_Ls_weightsAs_6 4 rfl ?_
  refine x_aload_n C d_Ls_weightsAs_8 0 rfl ?_
  refine x_gd (fun h1 => ?_)
  refine x_getI (k := 11) C (okO_iff.mp h1) rfl j2_ok (by decide) rfl w263 d_Ls_weightsAs_9 ?_
  refine x_icmp_ge (tgt := 65) C d_Ls_weightsAs_12 (by decide) (fun _ => ?_) (fun _ => ?_)
  · refine x_aload_n C d_Ls_weightsAs_15 0 rfl ?_
    refine x_gd (fun h2 => ?_)
    refine x_getR (k := 4) (kv := 102) C (okO_iff.mp h1) rfl j2_ok (by decide) rfl (okO_iff.mp h2) (by decide) w256 d_Ls_weightsAs_16 ?_
    refine x_iload C d_Ls_weightsAs_19 4 rfl ?_
    refine x_gd (fun h3 => ?_)
    refine x_aldJ C (okO_iff.mp h2) (inB_iff.mp h3) d_Ls_weightsAs_21 ?_
    refine x_lload_n C d_Ls_weightsAs_22 2 rfl ?_
    refine x_land C d_Ls_weightsAs_23 ?_
    refine x_lconst (v := (0 : Int64)) C d_Ls_weightsAs_24 (by decide) ?_
    refine x_lcmp C d_Ls_weightsAs_25 ?_
    refine x_if_ne (tgt := 59) C d_Ls_weightsAs_26 (by decide) (fun _ => ?_) (fun _ => ?_)
    · refine x_aload_n C d_Ls_weightsAs_29 0 rfl ?_
      refine x_getR (k := 4) (kv := 102) C (okO_iff.mp h1) rfl j2_ok (by decide) rfl (okO_iff.mp h2) (by decide) w256 d_Ls_weightsAs_30 ?_
      refine x_iload C d_Ls_weightsAs_33 4 rfl ?_
      refine x_aldJ C (okO_iff.mp h2) (inB_iff.mp h3) d_Ls_weightsAs_35 ?_
      refine x_ldc2 C d_Ls_weightsAs_36 w1518 ?_
      refine x_lxor C d_Ls_weightsAs_39 ?_
      refine x_lload_n C d_Ls_weightsAs_40 1 rfl ?_
      refine x_land C d_Ls_weightsAs_41 ?_
      refine x_lconst (v := (0 : Int64)) C d_Ls_weightsAs_42 (by decide) ?_
      refine x_lcmp C d_Ls_weightsAs_43 ?_
      refine x_if_ne (tgt := 59) C d_Ls_weightsAs_44 (by decide) (fun _ => ?_) (fun _ => ?_)
      · refine x_iload C d_Ls_weightsAs_47 3 rfl ?_
        refine x_aload_n C d_Ls_weightsAs_49 0 rfl ?_
        refine x_gd (fun h4 => ?_)
        refine x_getR (k := 5) (kv := 101) C (okO_iff.mp h1) rfl j2_ok (by decide) rfl (okO_iff.mp h4) (by decide) w257 d_Ls_weightsAs_50 ?_
        refine x_iload C d_Ls_weightsAs_53 4 rfl ?_
        refine x_gd (fun h5 => ?_)
        refine x_aldI C (okO_iff.mp h4) (inB_iff.mp h5) d_Ls_weightsAs_55 ?_
        refine x_iadd C d_Ls_weightsAs_56 ?_
        refine x_letI (fun x6 _ => ?_)
        refine x_istore (lv' := [(5, .int x6), (0, .ref v0R), (1, .long v1J), (3, .long v3J), (6, .int v6I)]) C d_Ls_weightsAs_57 (by decide) rfl ?_
        refine x_lv [1, 2, 3, 0, 4] rfl ?_
        exact IH.2.2 v0R v1J v3J x6 v6I (σ)
      · exact IH.2.2 v0R v1J v3J v5I v6I (σ)
    · exact IH.2.2 v0R v1J v3J v5I v6I (σ)
  · refine x_iload C d_Ls_weightsAs_65 3 rfl ?_
    exact x_iret C d_Ls_weightsAs_67
set_option maxRecDepth 20000 in
theorem s_Ls_weightsAs_2 {G : GX} {p : Program} {l : Launch} {e : Env} {s : State} {m : MethodId} {args : Array Value} {below : List Frame} {meth : Method} {c : Code} {z0 u0 n : Nat} (C : Cx G p s m args meth c prog_6_method_12_code 7 "BellPlate$Lists" ((some FieldType.int))) (IH : I_Ls_weightsAs G p l e s m args below meth c z0 u0 n) (v0R : Nat) (v1J : Int64) (v3J : Int64) (v5I : Int32) (v6I : Int32) (σ : AM) : VX (QM eI G args s below z0 u0) G p l e s m args below meth c 0 z0 u0 7 (lpK (lpn F_Ls_weightsAs n) (T_Ls_weightsAs_2 v0R v1J v3J v5I v6I σ)) 59 [(0, .ref v0R), (1, .long v1J), (3, .long v3J), (5, .int v5I), (6, .int v6I)] [] σ := by
  unfold T_Ls_weightsAs_2
  refine x_iinc (v := v6I + (1 : Int32)) (lv' := [(6, .int (v6I + (1 : Int32))), (0, .ref v0R), (1, .long v1J), (3, .long v3J), (5, .int v5I)]) C d_Ls_weightsAs_59 4 rfl rfl (by decide) rfl ?_
  refine x_goto (tgt := 6) C d_Ls_weightsAs_62 (by decide) ?_
  refine x_lv [1, 2, 3, 4, 0] rfl ?_
  exact IH.2.1 v0R v1J v3J v5I (v6I + (1 : Int32)) (σ)
theorem i_Ls_weightsAs {G : GX} {p : Program} {l : Launch} {e : Env} {s : State} {m : MethodId} {args : Array Value} {below : List Frame} {meth : Method} {c : Code} {z0 u0 : Nat} (C : Cx G p s m args meth c prog_6_method_12_code 7 "BellPlate$Lists" ((some FieldType.int))) (n : Nat) : I_Ls_weightsAs G p l e s m args below meth c z0 u0 n := by
  induction n with
  | zero => exact ⟨fun _ _ _ _ => x_none, fun _ _ _ _ _ _ => x_none, fun _ _ _ _ _ _ => x_none⟩
  | succ n IH => exact ⟨fun v0R v1J v3J σ => s_Ls_weightsAs_0 C IH v0R v1J v3J σ, fun v0R v1J v3J v5I v6I σ => s_Ls_weightsAs_1 C IH v0R v1J v3J v5I v6I σ, fun v0R v1J v3J v5I v6I σ => s_Ls_weightsAs_2 C IH v0R v1J v3J v5I v6I σ⟩
theorem c_Ls_weightsAs (G : GX) (l : Launch) (v0R : Nat) (v1J : Int64) (v3J : Int64) (σ : AM) : CT eI G l 0 y_Ls_weightsAs prog_6_method_12_code 7 ((some FieldType.int)) [.ref v0R, .long v1J, .long v3J] σ (M_Ls_weightsAs v0R v1J v3J σ) := by
  refine ct_of (by decide +kernel) (Nat.le_of_ble_eq_true rfl) (fun p e s m args below meth c C hin => ?_)
  refine x_lve (lv' := [(0, .ref v0R), (1, .long v1J), (3, .long v3J)]) rfl ?_
  intro r σ' h
  obtain ⟨n, hn⟩ := (lp_iff _ _ _).mp h
  exact (i_Ls_weightsAs C n).1 v0R v1J v3J σ r σ' hn
/-! BellPlate$Lists.<init>(LBellPlate$Tower;)V -/
abbrev y_Ls_init : MethodName := ⟨"BellPlate$Lists", "<init>", "(LBellPlate$Tower;)V"⟩
theorem k_Ls_init : y_Ls_init.cls ≠ "java/lang/invoke/MethodHandle" ∧ y_Ls_init.cls ≠ "java/lang/invoke/VarHandle" ∧ (parseMethodDescriptor y_Ls_init.desc).map (fun d => d.parameters.length) = some 1 := by decide +kernel
theorem d_Ls_init_0 : decode prog_6_method_1_code 0 = .ok (.aload_n 0, 1) := by decide +kernel
theorem d_Ls_init_1 : decode prog_6_method_1_code 1 = .ok (.invokespecial 3, 3) := by decide +kernel
theorem d_Ls_init_4 : decode prog_6_method_1_code 4 = .ok (.aload_n 0, 1) := by decide +kernel
theorem d_Ls_init_5 : decode prog_6_method_1_code 5 = .ok (.aload_n 1, 1) := by decide +kernel
theorem d_Ls_init_6 : decode prog_6_method_1_code 6 = .ok (.putfield 9, 3) := by decide +kernel
theorem d_Ls_init_9 : decode prog_6_method_1_code 9 = .ok (.aload_n 0, 1) := by decide +kernel
theorem d_Ls_init_10 : decode prog_6_method_1_code 10 = .ok (.bipush 6, 2) := by decide +kernel
theorem d_Ls_init_12 : decode prog_6_method_1_code 12 = .ok (.newarray .int, 2) := by decide +kernel
theorem d_Ls_init_14 : decode prog_6_method_1_code 14 = .ok (.putfield 17, 3) := by decide +kernel
theorem d_Ls_init_17 : decode prog_6_method_1_code 17 = .ok (.aload_n 0, 1) := by decide +kernel
theorem d_Ls_init_18 : decode prog_6_method_1_code 18 = .ok (.bipush 64, 2) := by decide +kernel
theorem d_Ls_init_20 : decode prog_6_method_1_code 20 = .ok (.newarray .int, 2) := by decide +kernel
theorem d_Ls_init_22 : decode prog_6_method_1_code 22 = .ok (.putfield 23, 3) := by decide +kernel
theorem d_Ls_init_25 : decode prog_6_method_1_code 25 = .ok (.aload_n 0, 1) := by decide +kernel
theorem d_Ls_init_26 : decode prog_6_method_1_code 26 = .ok (.bipush 8, 2) := by decide +kernel
theorem d_Ls_init_28 : decode prog_6_method_1_code 28 = .ok (.newarray .int, 2) := by decide +kernel
theorem d_Ls_init_30 : decode prog_6_method_1_code 30 = .ok (.putfield 26, 3) := by decide +kernel
theorem d_Ls_init_33 : decode prog_6_method_1_code 33 = .ok (.aload_n 0, 1) := by decide +kernel
theorem d_Ls_init_34 : decode prog_6_method_1_code 34 = .ok (.iconst 1, 1) := by decide +kernel
theorem d_Ls_init_35 : decode prog_6_method_1_code 35 = .ok (.newarray .long, 2) := by decide +kernel
theorem d_Ls_init_37 : decode prog_6_method_1_code 37 = .ok (.putfield 29, 3) := by decide +kernel
theorem d_Ls_init_40 : decode prog_6_method_1_code 40 = .ok (.aload_n 0, 1) := by decide +kernel
theorem d_Ls_init_41 : decode prog_6_method_1_code 41 = .ok (.iconst 1, 1) := by decide +kernel
theorem d_Ls_init_42 : decode prog_6_method_1_code 42 = .ok (.newarray .int, 2) := by decide +kernel
theorem d_Ls_init_44 : decode prog_6_method_1_code 44 = .ok (.putfield 33, 3) := by decide +kernel
theorem d_Ls_init_47 : decode prog_6_method_1_code 47 = .ok (.aload_n 0, 1) := by decide +kernel
theorem d_Ls_init_48 : decode prog_6_method_1_code 48 = .ok (.iconst 1, 1) := by decide +kernel
theorem d_Ls_init_49 : decode prog_6_method_1_code 49 = .ok (.newarray .int, 2) := by decide +kernel
theorem d_Ls_init_51 : decode prog_6_method_1_code 51 = .ok (.putfield 36, 3) := by decide +kernel
theorem d_Ls_init_54 : decode prog_6_method_1_code 54 = .ok (.aload_n 0, 1) := by decide +kernel
theorem d_Ls_init_55 : decode prog_6_method_1_code 55 = .ok (.iconst 1, 1) := by decide +kernel
theorem d_Ls_init_56 : decode prog_6_method_1_code 56 = .ok (.newarray .int, 2) := by decide +kernel
theorem d_Ls_init_58 : decode prog_6_method_1_code 58 = .ok (.putfield 39, 3) := by decide +kernel
theorem d_Ls_init_61 : decode prog_6_method_1_code 61 = .ok (.aload_n 0, 1) := by decide +kernel
theorem d_Ls_init_62 : decode prog_6_method_1_code 62 = .ok (.iconst 2, 1) := by decide +kernel
theorem d_Ls_init_63 : decode prog_6_method_1_code 63 = .ok (.newarray .int, 2) := by decide +kernel
theorem d_Ls_init_65 : decode prog_6_method_1_code 65 = .ok (.putfield 42, 3) := by decide +kernel
theorem d_Ls_init_68 : decode prog_6_method_1_code 68 = .ok (.aload_n 0, 1) := by decide +kernel
theorem d_Ls_init_69 : decode prog_6_method_1_code 69 = .ok (.iconst 1, 1) := by decide +kernel
theorem d_Ls_init_70 : decode prog_6_method_1_code 70 = .ok (.newarray .int, 2) := by decide +kernel
theorem d_Ls_init_72 : decode prog_6_method_1_code 72 = .ok (.putfield 45, 3) := by decide +kernel
theorem d_Ls_init_75 : decode prog_6_method_1_code 75 = .ok (.return_, 1) := by decide +kernel
abbrev S_Ls_init : Type := Nat × Nat × Nat × AM
noncomputable def T_Ls_init_0 (v0R : Nat) (v1R : Nat) (σ : AM) : S_Ls_init ⊕ Option (Unit × AM) :=
  gdT (okO σ v0R 3) <| gdT (okO σ v1R 1) <| letT (sR σ v0R 0 v1R) fun σ3 => letT (nw σ3 101 (6 : Int32).toNatClampNeg) fun σ5 => gdT (okO σ5 v0R 3) <| letT (sR σ5 v0R 1 (aZ σ3)) fun σ8 => letT (nw σ8 101 (64 : Int32).toNatClampNeg) fun σ10 => gdT (okO σ10 v0R 3) <| letT (sR σ10 v0R 2 (aZ σ8)) fun σ13 => letT (nw σ13 101 (8 : Int32).toNatClampNeg) fun σ15 => gdT (okO σ15 v0R 3) <| letT (sR σ15 v0R 3 (aZ σ13)) fun σ18 => letT (nw σ18 102 (1 : Int32).toNatClampNeg) fun σ20 => gdT (okO σ20 v0R 3) <| letT (sR σ20 v0R 4 (aZ σ18)) fun σ23 => letT (nw σ23 101 (1 : Int32).toNatClampNeg) fun σ25 => gdT (okO σ25 v0R 3) <| letT (sR σ25 v0R 5 (aZ σ23)) fun σ28 => letT (nw σ28 101 (1 : Int32).toNatClampNeg) fun σ30 => gdT (okO σ30 v0R 3) <| letT (sR σ30 v0R 6 (aZ σ28)) fun σ33 => letT (nw σ33 101 (1 : Int32).toNatClampNeg) fun σ35 => gdT (okO σ35 v0R 3) <| letT (sR σ35 v0R 7 (aZ σ33)) fun σ38 => letT (nw σ38 101 (2 : Int32).toNatClampNeg) fun σ40 => gdT (okO σ40 v0R 3) <| letT (sR σ40 v0R 8 (aZ σ38)) fun σ43 => letT (nw σ43 101 (1 : Int32).toNatClampNeg) fun σ45 => gdT (okO σ45 v0R 3) <| letT (sR σ45 v0R 9 (aZ σ43)) fun σ48 => .inr (some ((), σ48))
noncomputable def F_Ls_init : S_Ls_init → S_Ls_init ⊕ Option (Unit × AM) := fun s => match s.1 with
  | _ => T_Ls_init_0 (s.2.1) (s.2.2.1) (s.2.2.2)
noncomputable def L_Ls_init_0 (v0R : Nat) (v1R : Nat) (σ : AM) : Option (Unit × AM) := lp F_Ls_init (0, v0R, v1R, σ)
set_option maxRecDepth 20000 in
theorem E_Ls_init_0 (v0R : Nat) (v1R : Nat) (σ : AM) : L_Ls_init_0 v0R v1R σ = (gd (okO σ v0R 3) <| gd (okO σ v1R 1) <| letT (sR σ v0R 0 v1R) fun σ3 => letT (nw σ3 101 (6 : Int32).toNatClampNeg) fun σ5 => gd (okO σ5 v0R 3) <| letT (sR σ5 v0R 1 (aZ σ3)) fun σ8 => letT (nw σ8 101 (64 : Int32).toNatClampNeg) fun σ10 => gd (okO σ10 v0R 3) <| letT (sR σ10 v0R 2 (aZ σ8)) fun σ13 => letT (nw σ13 101 (8 : Int32).toNatClampNeg) fun σ15 => gd (okO σ15 v0R 3) <| letT (sR σ15 v0R 3 (aZ σ13)) fun σ18 => letT (nw σ18 102 (1 : Int32).toNatClampNeg) fun σ20 => gd (okO σ20 v0R 3) <| letT (sR σ20 v0R 4 (aZ σ18)) fun σ23 => letT (nw σ23 101 (1 : Int32).toNatClampNeg) fun σ25 => gd (okO σ25 v0R 3) <| letT (sR σ25 v0R 5 (aZ σ23)) fun σ28 => letT (nw σ28 101 (1 : Int32).toNatClampNeg) fun σ30 => gd (okO σ30 v0R 3) <| letT (sR σ30 v0R 6 (aZ σ28)) fun σ33 => letT (nw σ33 101 (1 : Int32).toNatClampNeg) fun σ35 => gd (okO σ35 v0R 3) <| letT (sR σ35 v0R 7 (aZ σ33)) fun σ38 => letT (nw σ38 101 (2 : Int32).toNatClampNeg) fun σ40 => gd (okO σ40 v0R 3) <| letT (sR σ40 v0R 8 (aZ σ38)) fun σ43 => letT (nw σ43 101 (1 : Int32).toNatClampNeg) fun σ45 => gd (okO σ45 v0R 3) <| letT (sR σ45 v0R 9 (aZ σ43)) fun σ48 => (some ((), σ48))) := by
  unfold L_Ls_init_0
  rw [lp_eq]
  show lpK (lp F_Ls_init) (T_Ls_init_0 v0R v1R σ) = _
  unfold T_Ls_init_0
  simp only [lpK_ite, lq_inl, lq_inr, lpK_bnd, lpK_gd, lq_let]
  try rfl
noncomputable def M_Ls_init (v0R : Nat) (v1R : Nat) (σ : AM) : Option (Unit × AM) := mw σ (L_Ls_init_0 v0R v1R σ)
def I_Ls_init (G : GX) (p : Program) (l : Launch) (e : Env) (s : State) (m : MethodId) (args : Array Value) (below : List Frame) (meth : Method) (c : Code) (z0 u0 n : Nat) : Prop :=
  (∀ (v0R : Nat) (v1R : Nat) (σ : AM), VX (QM eV G args s below z0 u0) G p l e s m args below meth c 1 z0 u0 2 (lpn F_Ls_init n (0, v0R, v1R, σ)) 0 [(0, .ref v0R), (1, .ref v1R)] [] σ)
set_option maxRecDepth 20000 in
theorem s_Ls_init_0 {G : GX} {p : Program} {l : Launch} {e : Env} {s : State} {m : MethodId} {args : Array Value} {below : List Frame} {meth : Method} {c : Code} {z0 u0 n : Nat} (C : Cx G p s m args meth c prog_6_method_1_code 2 "BellPlate$Lists" ((none))) (hin : meth.name = "<init>") (IH : I_Ls_init G p l e s m args below meth c z0 u0 n) (v0R : Nat) (v1R : Nat) (σ : AM) : VX (QM eV G args s below z0 u0) G p l e s m args below meth c 1 z0 u0 2 (lpK (lpn F_Ls_init n) (T_Ls_init_0 v0R v1R σ)) 0 [(0, .ref v0R), (1, .ref v1R)] [] σ := by
  unfold T_Ls_init_0
  refine x_aload_n C d_Ls_init_0 0 rfl ?_
  refine x_gd (fun h1 => ?_)
  refine x_obj C (okO_iff.mp h1) w251 w153 w154 (by decide) (Nat.le_of_ble_eq_true rfl) d_Ls_init_1 ?_
  refine x_aload_n C d_Ls_init_4 0 rfl ?_
  refine x_aload_n C d_Ls_init_5 1 rfl ?_
  refine x_gd (fun h2 => ?_)
  refine x_putRF (k := 0) (kv := 1) C (okO_iff.mp h1) rfl j2_ok y2_ok n2_ok (by decide) rfl (okO_iff.mp h2) (by decide) rfl hin rfl rfl rfl w252 d_Ls_init_6 ?_
  refine x_letS (fun σ3 e4 => ?_)
  refine x_aload_n C d_Ls_init_9 0 rfl ?_
  refine x_bipush (v := (6 : Int32)) C d_Ls_init_10 (by decide) ?_
  refine x_newaI C w203 (by decide) (by decide) d_Ls_init_12 ?_
  refine x_letS (fun σ5 e6 => ?_)
  refine x_gd (fun h7 => ?_)
  refine x_putRF (k := 1) (kv := 101) C (okO_iff.mp h7) rfl j2_ok y2_ok n2_ok (by decide) rfl (fr_K e6) (by decide) rfl hin rfl rfl rfl w253 d_Ls_init_14 ?_
  refine x_letS (fun σ8 e9 => ?_)
  refine x_aload_n C d_Ls_init_17 0 rfl ?_
  refine x_bipush (v := (64 : Int32)) C d_Ls_init_18 (by decide) ?_
  refine x_newaI C w203 (by decide) (by decide) d_Ls_init_20 ?_
  refine x_letS (fun σ10 e11 => ?_)
  refine x_gd (fun h12 => ?_)
  refine x_putRF (k := 2) (kv := 101) C (okO_iff.mp h12) rfl j2_ok y2_ok n2_ok (by decide) rfl (fr_K e11) (by decide) rfl hin rfl rfl rfl w254 d_Ls_init_22 ?_
  refine x_letS (fun σ13 e14 => ?_)
  refine x_aload_n C d_Ls_init_25 0 rfl ?_
  refine x_bipush (v := (8 : Int32)) C d_Ls_init_26 (by decide) ?_
  refine x_newaI C w203 (by decide) (by decide) d_Ls_init_28 ?_
  refine x_letS (fun σ15 e16 => ?_)
  refine x_gd (fun h17 => ?_)
  refine x_putRF (k := 3) (kv := 101) C (okO_iff.mp h17) rfl j2_ok y2_ok n2_ok (by decide) rfl (fr_K e16) (by decide) rfl hin rfl rfl rfl w255 d_Ls_init_30 ?_
  refine x_letS (fun σ18 e19 => ?_)
  refine x_aload_n C d_Ls_init_33 0 rfl ?_
  refine x_iconst (v := (1 : Int32)) C d_Ls_init_34 (by decide) ?_
  refine x_newaJ C w202 (by decide) (by decide) d_Ls_init_35 ?_
  refine x_letS (fun σ20 e21 => ?_)
  refine x_gd (fun h22 => ?_)
  refine x_putR (k := 4) (kv := 102) C (okO_iff.mp h22) rfl j2_ok y2_ok n2_ok (by decide) rfl (fr_K e21) (by decide) rfl rfl rfl w256 d_Ls_init_37 ?_
  refine x_letS (fun σ23 e24 => ?_)
  refine x_aload_n C d_Ls_init_40 0 rfl ?_
  refine x_iconst (v := (1 : Int32)) C d_Ls_init_41 (by decide) ?_
  refine x_newaI C w203 (by decide) (by decide) d_Ls_init_42 ?_
  refine x_letS (fun σ25 e26 => ?_)
  refine x_gd (fun h27 => ?_)
  refine x_putR (k := 5) (kv := 101) C (okO_iff.mp h27) rfl j2_ok y2_ok n2_ok (by decide) rfl (fr_K e26) (by decide) rfl rfl rfl w257 d_Ls_init_44 ?_
  refine x_letS (fun σ28 e29 => ?_)
  refine x_aload_n C d_Ls_init_47 0 rfl ?_
  refine x_iconst (v := (1 : Int32)) C d_Ls_init_48 (by decide) ?_
  refine x_newaI C w203 (by decide) (by decide) d_Ls_init_49 ?_
  refine x_letS (fun σ30 e31 => ?_)
  refine x_gd (fun h32 => ?_)
  refine x_putR (k := 6) (kv := 101) C (okO_iff.mp h32) rfl j2_ok y2_ok n2_ok (by decide) rfl (fr_K e31) (by decide) rfl rfl rfl w258 d_Ls_init_51 ?_
  refine x_letS (fun σ33 e34 => ?_)
  refine x_aload_n C d_Ls_init_54 0 rfl ?_
  refine x_iconst (v := (1 : Int32)) C d_Ls_init_55 (by decide) ?_
  refine x_newaI C w203 (by decide) (by decide) d_Ls_init_56 ?_
  refine x_letS (fun σ35 e36 => ?_)
  refine x_gd (fun h37 => ?_)
  refine x_putR (k := 7) (kv := 101) C (okO_iff.mp h37) rfl j2_ok y2_ok n2_ok (by decide) rfl (fr_K e36) (by decide) rfl rfl rfl w259 d_Ls_init_58 ?_
  refine x_letS (fun σ38 e39 => ?_)
  refine x_aload_n C d_Ls_init_61 0 rfl ?_
  refine x_iconst (v := (2 : Int32)) C d_Ls_init_62 (by decide) ?_
  refine x_newaI C w203 (by decide) (by decide) d_Ls_init_63 ?_
  refine x_letS (fun σ40 e41 => ?_)
  refine x_gd (fun h42 => ?_)
  refine x_putR (k := 8) (kv := 101) C (okO_iff.mp h42) rfl j2_ok y2_ok n2_ok (by decide) rfl (fr_K e41) (by decide) rfl rfl rfl w260 d_Ls_init_65 ?_
  refine x_letS (fun σ43 e44 => ?_)
  refine x_aload_n C d_Ls_init_68 0 rfl ?_
  refine x_iconst (v := (1 : Int32)) C d_Ls_init_69 (by decide) ?_
  refine x_newaI C w203 (by decide) (by decide) d_Ls_init_70 ?_
  refine x_letS (fun σ45 e46 => ?_)
  refine x_gd (fun h47 => ?_)
  refine x_putR (k := 9) (kv := 101) C (okO_iff.mp h47) rfl j2_ok y2_ok n2_ok (by decide) rfl (fr_K e46) (by decide) rfl rfl rfl w261 d_Ls_init_72 ?_
  refine x_letS (fun σ48 e49 => ?_)
  exact x_vret C d_Ls_init_75
theorem i_Ls_init {G : GX} {p : Program} {l : Launch} {e : Env} {s : State} {m : MethodId} {args : Array Value} {below : List Frame} {meth : Method} {c : Code} {z0 u0 : Nat} (C : Cx G p s m args meth c prog_6_method_1_code 2 "BellPlate$Lists" ((none))) (hin : meth.name = "<init>") (n : Nat) : I_Ls_init G p l e s m args below meth c z0 u0 n := by
  induction n with
  | zero => exact fun _ _ _ => x_none
  | succ n IH => exact fun v0R v1R σ => s_Ls_init_0 C hin IH v0R v1R σ
theorem c_Ls_init (G : GX) (l : Launch) (v0R : Nat) (v1R : Nat) (σ : AM) : CT eV G l 1 y_Ls_init prog_6_method_1_code 2 (none) [.ref v0R, .ref v1R] σ (M_Ls_init v0R v1R σ) := by
  refine ct_of (by decide +kernel) (Nat.le_of_ble_eq_true rfl) (fun p e s m args below meth c C hin => ?_)
  refine x_lve (lv' := [(0, .ref v0R), (1, .ref v1R)]) rfl ?_
  intro r σ' h
  obtain ⟨n, hn⟩ := (lp_iff _ _ _).mp h
  exact (i_Ls_init C hin n) v0R v1R σ r σ' hn
/-! BellPlate$Lists.allowed()I -/
abbrev y_Ls_allowed : MethodName := ⟨"BellPlate$Lists", "allowed", "()I"⟩
theorem k_Ls_allowed : y_Ls_allowed.cls ≠ "java/lang/invoke/MethodHandle" ∧ y_Ls_allowed.cls ≠ "java/lang/invoke/VarHandle" ∧ (parseMethodDescriptor y_Ls_allowed.desc).map (fun d => d.parameters.length) = some 0 := by decide +kernel
theorem d_Ls_allowed_0 : decode prog_6_method_3_code 0 = .ok (.aload_n 0, 1) := by decide +kernel
theorem d_Ls_allowed_1 : decode prog_6_method_3_code 1 = .ok (.getfield 52, 3) := by decide +kernel
theorem d_Ls_allowed_4 : decode prog_6_method_3_code 4 = .ok (.ireturn, 1) := by decide +kernel
abbrev S_Ls_allowed : Type := Nat × Nat × AM
noncomputable def T_Ls_allowed_0 (v0R : Nat) (σ : AM) : S_Ls_allowed ⊕ Option (Int32 × AM) :=
  gdT (okO σ v0R 3) <| .inr (some ((aI σ v0R 12), σ))
noncomputable def F_Ls_allowed : S_Ls_allowed → S_Ls_allowed ⊕ Option (Int32 × AM) := fun s => match s.1 with
  | _ => T_Ls_allowed_0 (s.2.1) (s.2.2)
noncomputable def L_Ls_allowed_0 (v0R : Nat) (σ : AM) : Option (Int32 × AM) := lp F_Ls_allowed (0, v0R, σ)
set_option maxRecDepth 20000 in
theorem E_Ls_allowed_0 (v0R : Nat) (σ : AM) : L_Ls_allowed_0 v0R σ = (gd (okO σ v0R 3) <| (some ((aI σ v0R 12), σ))) := by
  unfold L_Ls_allowed_0
  rw [lp_eq]
  show lpK (lp F_Ls_allowed) (T_Ls_allowed_0 v0R σ) = _
  unfold T_Ls_allowed_0
  simp only [lpK_ite, lq_inl, lq_inr, lpK_bnd, lpK_gd, lq_let]
  try rfl
noncomputable def M_Ls_allowed (v0R : Nat) (σ : AM) : Option (Int32 × AM) := mw σ (L_Ls_allowed_0 v0R σ)
def I_Ls_allowed (G : GX) (p : Program) (l : Launch) (e : Env) (s : State) (m : MethodId) (args : Array Value) (below : List Frame) (meth : Method) (c : Code) (z0 u0 n : Nat) : Prop :=
  (∀ (v0R : Nat) (σ : AM), VX (QM eI G args s below z0 u0) G p l e s m args below meth c 0 z0 u0 1 (lpn F_Ls_allowed n (0, v0R, σ)) 0 [(0, .ref v0R)] [] σ)
set_option maxRecDepth 20000 in
theorem s_Ls_allowed_0 {G : GX} {p : Program} {l : Launch} {e : Env} {s : State} {m : MethodId} {args : Array Value} {below : List Frame} {meth : Method} {c : Code} {z0 u0 n : Nat} (C : Cx G p s m args meth c prog_6_method_3_code 1 "BellPlate$Lists" ((some FieldType.int))) (IH : I_Ls_allowed G p l e s m args below meth c z0 u0 n) (v0R : Nat) (σ : AM) : VX (QM eI G args s below z0 u0) G p l e s m args below meth c 0 z0 u0 1 (lpK (lpn F_Ls_allowed n) (T_Ls_allowed_0 v0R σ)) 0 [(0, .ref v0R)] [] σ := by
  unfold T_Ls_allowed_0
  refine x_aload_n C d_Ls_allowed_0 0 rfl ?_
  refine x_gd (fun h1 => ?_)
  refine x_getI (k := 12) C (okO_iff.mp h1) rfl j2_ok (by decide) rfl w264 d_Ls_allowed_1 ?_
  exact x_iret C d_Ls_allowed_4
theorem i_Ls_allowed {G : GX} {p : Program} {l : Launch} {e : Env} {s : State} {m : MethodId} {args : Array Value} {below : List Frame} {meth : Method} {c : Code} {z0 u0 : Nat} (C : Cx G p s m args meth c prog_6_method_3_code 1 "BellPlate$Lists" ((some FieldType.int))) (n : Nat) : I_Ls_allowed G p l e s m args below meth c z0 u0 n := by
  induction n with
  | zero => exact fun _ _ => x_none
  | succ n IH => exact fun v0R σ => s_Ls_allowed_0 C IH v0R σ
theorem c_Ls_allowed (G : GX) (l : Launch) (v0R : Nat) (σ : AM) : CT eI G l 0 y_Ls_allowed prog_6_method_3_code 1 ((some FieldType.int)) [.ref v0R] σ (M_Ls_allowed v0R σ) := by
  refine ct_of (by decide +kernel) (Nat.le_of_ble_eq_true rfl) (fun p e s m args below meth c C hin => ?_)
  refine x_lve (lv' := [(0, .ref v0R)]) rfl ?_
  intro r σ' h
  obtain ⟨n, hn⟩ := (lp_iff _ _ _).mp h
  exact (i_Ls_allowed C n) v0R σ r σ' hn
/-! BellPlate$Lists.room()I -/
abbrev y_Ls_room : MethodName := ⟨"BellPlate$Lists", "room", "()I"⟩
theorem k_Ls_room : y_Ls_room.cls ≠ "java/lang/invoke/MethodHandle" ∧ y_Ls_room.cls ≠ "java/lang/invoke/VarHandle" ∧ (parseMethodDescriptor y_Ls_room.desc).map (fun d => d.parameters.length) = some 0 := by decide +kernel
theorem d_Ls_room_0 : decode prog_6_method_4_code 0 = .ok (.aload_n 0, 1) := by decide +kernel
theorem d_Ls_room_1 : decode prog_6_method_4_code 1 = .ok (.getfield 29, 3) := by decide +kernel
theorem d_Ls_room_4 : decode prog_6_method_4_code 4 = .ok (.arraylength, 1) := by decide +kernel
theorem d_Ls_room_5 : decode prog_6_method_4_code 5 = .ok (.ireturn, 1) := by decide +kernel
abbrev S_Ls_room : Type := Nat × Nat × AM
noncomputable def T_Ls_room_0 (v0R : Nat) (σ : AM) : S_Ls_room ⊕ Option (Int32 × AM) :=
  gdT (okO σ v0R 3) <| gdT (okO σ (aR σ v0R 4) 102) <| .inr (some ((nI (aN σ (aR σ v0R 4))), σ))
noncomputable def F_Ls_room : S_Ls_room → S_Ls_room ⊕ Option (Int32 × AM) := fun s => match s.1 with
  | _ => T_Ls_room_0 (s.2.1) (s.2.2)
noncomputable def L_Ls_room_0 (v0R : Nat) (σ : AM) : Option (Int32 × AM) := lp F_Ls_room (0, v0R, σ)
set_option maxRecDepth 20000 in
theorem E_Ls_room_0 (v0R : Nat) (σ : AM) : L_Ls_room_0 v0R σ = (gd (okO σ v0R 3) <| gd (okO σ (aR σ v0R 4) 102) <| (some ((nI (aN σ (aR σ v0R 4))), σ))) := by
  unfold L_Ls_room_0
  rw [lp_eq]
  show lpK (lp F_Ls_room) (T_Ls_room_0 v0R σ) = _
  unfold T_Ls_room_0
  simp only [lpK_ite, lq_inl, lq_inr, lpK_bnd, lpK_gd, lq_let]
  try rfl
noncomputable def M_Ls_room (v0R : Nat) (σ : AM) : Option (Int32 × AM) := mw σ (L_Ls_room_0 v0R σ)
def I_Ls_room (G : GX) (p : Program) (l : Launch) (e : Env) (s : State) (m : MethodId) (args : Array Value) (below : List Frame) (meth : Method) (c : Code) (z0 u0 n : Nat) : Prop :=
  (∀ (v0R : Nat) (σ : AM), VX (QM eI G args s below z0 u0) G p l e s m args below meth c 0 z0 u0 1 (lpn F_Ls_room n (0, v0R, σ)) 0 [(0, .ref v0R)] [] σ)
set_option maxRecDepth 20000 in
theorem s_Ls_room_0 {G : GX} {p : Program} {l : Launch} {e : Env} {s : State} {m : MethodId} {args : Array Value} {below : List Frame} {meth : Method} {c : Code} {z0 u0 n : Nat} (C : Cx G p s m args meth c prog_6_method_4_code 1 "BellPlate$Lists" ((some FieldType.int))) (IH : I_Ls_room G p l e s m args below meth c z0 u0 n) (v0R : Nat) (σ : AM) : VX (QM eI G args s below z0 u0) G p l e s m args below meth c 0 z0 u0 1 (lpK (lpn F_Ls_room n) (T_Ls_room_0 v0R σ)) 0 [(0, .ref v0R)] [] σ := by
  unfold T_Ls_room_0
  refine x_aload_n C d_Ls_room_0 0 rfl ?_
  refine x_gd (fun h1 => ?_)
  refine x_gd (fun h2 => ?_)
  refine x_getR (k := 4) (kv := 102) C (okO_iff.mp h1) rfl j2_ok (by decide) rfl (okO_iff.mp h2) (by decide) w256 d_Ls_room_1 ?_
  refine x_alen (t := 1) C (okO_iff.mp h2) (by decide) d_Ls_room_4 ?_
  exact x_iret C d_Ls_room_5
theorem i_Ls_room {G : GX} {p : Program} {l : Launch} {e : Env} {s : State} {m : MethodId} {args : Array Value} {below : List Frame} {meth : Method} {c : Code} {z0 u0 : Nat} (C : Cx G p s m args meth c prog_6_method_4_code 1 "BellPlate$Lists" ((some FieldType.int))) (n : Nat) : I_Ls_room G p l e s m args below meth c z0 u0 n := by
  induction n with
  | zero => exact fun _ _ => x_none
  | succ n IH => exact fun v0R σ => s_Ls_room_0 C IH v0R σ
theorem c_Ls_room (G : GX) (l : Launch) (v0R : Nat) (σ : AM) : CT eI G l 0 y_Ls_room prog_6_method_4_code 1 ((some FieldType.int)) [.ref v0R] σ (M_Ls_room v0R σ) := by
  refine ct_of (by decide +kernel) (Nat.le_of_ble_eq_true rfl) (fun p e s m args below meth c C hin => ?_)
  refine x_lve (lv' := [(0, .ref v0R)]) rfl ?_
  intro r σ' h
  obtain ⟨n, hn⟩ := (lp_iff _ _ _).mp h
  exact (i_Ls_room C n) v0R σ r σ' hn
/-! BellPlate$Lists.weightOf(I)I -/
abbrev y_Ls_weightOf : MethodName := ⟨"BellPlate$Lists", "weightOf", "(I)I"⟩
theorem k_Ls_weightOf : y_Ls_weightOf.cls ≠ "java/lang/invoke/MethodHandle" ∧ y_Ls_weightOf.cls ≠ "java/lang/invoke/VarHandle" ∧ (parseMethodDescriptor y_Ls_weightOf.desc).map (fun d => d.parameters.length) = some 1 := by decide +kernel
theorem d_Ls_weightOf_0 : decode prog_6_method_11_code 0 = .ok (.iload_n 1, 1) := by decide +kernel
theorem d_Ls_weightOf_1 : decode prog_6_method_11_code 1 = .ok (.ifCond .lt 21, 3) := by decide +kernel
theorem d_Ls_weightOf_4 : decode prog_6_method_11_code 4 = .ok (.iload_n 1, 1) := by decide +kernel
theorem d_Ls_weightOf_5 : decode prog_6_method_11_code 5 = .ok (.aload_n 0, 1) := by decide +kernel
theorem d_Ls_weightOf_6 : decode prog_6_method_11_code 6 = .ok (.getfield 23, 3) := by decide +kernel
theorem d_Ls_weightOf_9 : decode prog_6_method_11_code 9 = .ok (.arraylength, 1) := by decide +kernel
theorem d_Ls_weightOf_10 : decode prog_6_method_11_code 10 = .ok (.if_icmp .ge 12, 3) := by decide +kernel
theorem d_Ls_weightOf_13 : decode prog_6_method_11_code 13 = .ok (.aload_n 0, 1) := by decide +kernel
theorem d_Ls_weightOf_14 : decode prog_6_method_11_code 14 = .ok (.getfield 23, 3) := by decide +kernel
theorem d_Ls_weightOf_17 : decode prog_6_method_11_code 17 = .ok (.iload_n 1, 1) := by decide +kernel
theorem d_Ls_weightOf_18 : decode prog_6_method_11_code 18 = .ok (.iaload, 1) := by decide +kernel
theorem d_Ls_weightOf_19 : decode prog_6_method_11_code 19 = .ok (.goto 4, 3) := by decide +kernel
theorem d_Ls_weightOf_22 : decode prog_6_method_11_code 22 = .ok (.iconst 0, 1) := by decide +kernel
theorem d_Ls_weightOf_23 : decode prog_6_method_11_code 23 = .ok (.ireturn, 1) := by decide +kernel
abbrev S_Ls_weightOf : Type := Nat × Nat × Int32 × Int32 × AM
noncomputable def T_Ls_weightOf_0 (v0R : Nat) (v1I : Int32) (σ : AM) : S_Ls_weightOf ⊕ Option (Int32 × AM) :=
  if v1I < 0 then (.inl (1, 0, 0, 0, σ)) else (gdT (okO σ v0R 3) <| gdT (okO σ (aR σ v0R 2) 101) <| if v1I < (nI (aN σ (aR σ v0R 2))) then (gdT (inB v1I (aN σ (aR σ v0R 2))) <| .inl (2, 0, 0, aI σ (aR σ v0R 2) v1I.toNatClampNeg, σ)) else (.inl (1, 0, 0, 0, σ)))
noncomputable def T_Ls_weightOf_1  (σ : AM) : S_Ls_weightOf ⊕ Option (Int32 × AM) :=
  .inl (2, 0, 0, (0 : Int32), σ)
noncomputable def T_Ls_weightOf_2 (s0I : Int32) (σ : AM) : S_Ls_weightOf ⊕ Option (Int32 × AM) :=
  .inr (some (s0I, σ))
noncomputable def F_Ls_weightOf : S_Ls_weightOf → S_Ls_weightOf ⊕ Option (Int32 × AM) := fun s => match s.1 with
  | 0 => T_Ls_weightOf_0 (s.2.1) (s.2.2.1) (s.2.2.2.2)
  | 1 => T_Ls_weightOf_1  (s.2.2.2.2)
  | _ => T_Ls_weightOf_2 (s.2.2.2.1) (s.2.2.2.2)
noncomputable def L_Ls_weightOf_0 (v0R : Nat) (v1I : Int32) (σ : AM) : Option (Int32 × AM) := lp F_Ls_weightOf (0, v0R, v1I, 0, σ)
noncomputable def L_Ls_weightOf_1  (σ : AM) : Option (Int32 × AM) := lp F_Ls_weightOf (1, 0, 0, 0, σ)
noncomputable def L_Ls_weightOf_2 (s0I : Int32) (σ : AM) : Option (Int32 × AM) := lp F_Ls_weightOf (2, 0, 0, s0I, σ)
set_option maxRecDepth 20000 in
theorem E_Ls_weightOf_0 (v0R : Nat) (v1I : Int32) (σ : AM) : L_Ls_weightOf_0 v0R v1I σ = (if v1I < 0 then (L_Ls_weightOf_1 σ) else (gd (okO σ v0R 3) <| gd (okO σ (aR σ v0R 2) 101) <| if v1I < (nI (aN σ (aR σ v0R 2))) then (gd (inB v1I (aN σ (aR σ v0R 2))) <| L_Ls_weightOf_2 (aI σ (aR σ v0R 2) v1I.toNatClampNeg) σ) else (L_Ls_weightOf_1 σ))) := by
  unfold L_Ls_weightOf_0
  rw [lp_eq]
  show lpK (lp F_Ls_weightOf) (T_Ls_weightOf_0 v0R v1I σ) = _
  unfold T_Ls_weightOf_0
  simp only [lpK_ite, lq_inl, lq_inr, lpK_bnd, lpK_gd, lq_let]
  try rfl
set_option maxRecDepth 20000 in
theorem E_Ls_weightOf_1  (σ : AM) : L_Ls_weightOf_1  σ = (L_Ls_weightOf_2 ((0 : Int32)) σ) := by
  unfold L_Ls_weightOf_1
  rw [lp_eq]
  show lpK (lp F_Ls_weightOf) (T_Ls_weightOf_1  σ) = _
  unfold T_Ls_weightOf_1
  simp only [lpK_ite, lq_inl, lq_inr, lpK_bnd, lpK_gd, lq_let]
  try rfl
set_option maxRecDepth 20000 in
theorem E_Ls_weightOf_2 (s0I : Int32) (σ : AM) : L_Ls_weightOf_2 s0I σ = ((some (s0I, σ))) := by
  unfold L_Ls_weightOf_2
  rw [lp_eq]
  show lpK (lp F_Ls_weightOf) (T_Ls_weightOf_2 s0I σ) = _
  unfold T_Ls_weightOf_2
  simp only [lpK_ite, lq_inl, lq_inr, lpK_bnd, lpK_gd, lq_let]
  try rfl
noncomputable def M_Ls_weightOf (v0R : Nat) (v1I : Int32) (σ : AM) : Option (Int32 × AM) := mw σ (L_Ls_weightOf_0 v0R v1I σ)
def I_Ls_weightOf (G : GX) (p : Program) (l : Launch) (e : Env) (s : State) (m : MethodId) (args : Array Value) (below : List Frame) (meth : Method) (c : Code) (z0 u0 n : Nat) : Prop :=
  (∀ (v0R : Nat) (v1I : Int32) (σ : AM), VX (QM eI G args s below z0 u0) G p l e s m args below meth c 0 z0 u0 2 (lpn F_Ls_weightOf n (0, v0R, v1I, 0, σ)) 0 [(0, .ref v0R), (1, .int v1I)] [] σ) ∧
  (∀ (σ : AM), VX (QM eI G args s below z0 u0) G p l e s m args below meth c 0 z0 u0 2 (lpn F_Ls_weightOf n (1, 0, 0, 0, σ)) 22 [] [] σ) ∧
  (∀ (s0I : Int32) (σ : AM), VX (QM eI G args s below z0 u0) G p l e s m args below meth c 0 z0 u0 2 (lpn F_Ls_weightOf n (2, 0, 0, s0I, σ)) 23 [] [.int s0I] σ)
set_option maxRecDepth 20000 in
theorem s_Ls_weightOf_0 {G : GX} {p : Program} {l : Launch} {e : Env} {s : State} {m : MethodId} {args : Array Value} {below : List Frame} {meth : Method} {c : Code} {z0 u0 n : Nat} (C : Cx G p s m args meth c prog_6_method_11_code 2 "BellPlate$Lists" ((some FieldType.int))) (IH : I_Ls_weightOf G p l e s m args below meth c z0 u0 n) (v0R : Nat) (v1I : Int32) (σ : AM) : VX (QM eI G args s below z0 u0) G p l e s m args below meth c 0 z0 u0 2 (lpK (lpn F_Ls_weightOf n) (T_Ls_weightOf_0 v0R v1I σ)) 0 [(0, .ref v0R), (1, .int v1I)] [] σ := by
  unfold T_Ls_weightOf_0
  refine x_iload_n C d_Ls_weightOf_0 1 rfl ?_
  refine x_if_lt (tgt := 22) C d_Ls_weightOf_1 (by decide) (fun _ => ?_) (fun _ => ?_)
  · refine x_lv [] rfl ?_
    exact IH.2.1  (σ)
  · refine x_iload_n C d_Ls_weightOf_4 1 rfl ?_
    refine x_aload_n C d_Ls_weightOf_5 0 rfl ?_
    refine x_gd (fun h1 => ?_)
    refine x_gd (fun h2 => ?_)
    refine x_getR (k := 2) (kv := 101) C (okO_iff.mp h1) rfl j2_ok (by decide) rfl (okO_iff.mp h2) (by decide) w254 d_Ls_weightOf_6 ?_
    refine x_alen (t := 0) C (okO_iff.mp h2) (by decide) d_Ls_weightOf_9 ?_
    refine x_icmp_ge (tgt := 22) C d_Ls_weightOf_10 (by decide) (fun _ => ?_) (fun _ => ?_)
    · refine x_aload_n C d_Ls_weightOf_13 0 rfl ?_
      refine x_getR (k := 2) (kv := 101) C (okO_iff.mp h1) rfl j2_ok (by decide) rfl (okO_iff.mp h2) (by decide) w254 d_Ls_weightOf_14 ?_
      refine x_iload_n C d_Ls_weightOf_17 1 rfl ?_
      refine x_gd (fun h3 => ?_)
      refine x_aldI C (okO_iff.mp h2) (inB_iff.mp h3) d_Ls_weightOf_18 ?_
      refine x_goto (tgt := 23) C d_Ls_weightOf_19 (by decide) ?_
      refine x_lv [] rfl ?_
      exact IH.2.2 (aI σ (aR σ v0R 2) v1I.toNatClampNeg) (σ)
    · refine x_lv [] rfl ?_
      exact IH.2.1  (σ)
set_option maxRecDepth 20000 in
theorem s_Ls_weightOf_1 {G : GX} {p : Program} {l : Launch} {e : Env} {s : State} {m : MethodId} {args : Array Value} {below : List Frame} {meth : Method} {c : Code} {z0 u0 n : Nat} (C : Cx G p s m args meth c prog_6_method_11_code 2 "BellPlate$Lists" ((some FieldType.int))) (IH : I_Ls_weightOf G p l e s m args below meth c z0 u0 n)  (σ : AM) : VX (QM eI G args s below z0 u0) G p l e s m args below meth c 0 z0 u0 2 (lpK (lpn F_Ls_weightOf n) (T_Ls_weightOf_1  σ)) 22 [] [] σ := by
  unfold T_Ls_weightOf_1
  refine x_iconst (v := (0 : Int32)) C d_Ls_weightOf_22 (by decide) ?_
  exact IH.2.2 ((0 : Int32)) (σ)
set_option maxRecDepth 20000 in
theorem s_Ls_weightOf_2 {G : GX} {p : Program} {l : Launch} {e : Env} {s : State} {m : MethodId} {args : Array Value} {below : List Frame} {meth : Method} {c : Code} {z0 u0 n : Nat} (C : Cx G p s m args meth c prog_6_method_11_code 2 "BellPlate$Lists" ((some FieldType.int))) (IH : I_Ls_weightOf G p l e s m args below meth c z0 u0 n) (s0I : Int32) (σ : AM) : VX (QM eI G args s below z0 u0) G p l e s m args below meth c 0 z0 u0 2 (lpK (lpn F_Ls_weightOf n) (T_Ls_weightOf_2 s0I σ)) 23 [] [.int s0I] σ := by
  unfold T_Ls_weightOf_2
  exact x_iret C d_Ls_weightOf_23
theorem i_Ls_weightOf {G : GX} {p : Program} {l : Launch} {e : Env} {s : State} {m : MethodId} {args : Array Value} {below : List Frame} {meth : Method} {c : Code} {z0 u0 : Nat} (C : Cx G p s m args meth c prog_6_method_11_code 2 "BellPlate$Lists" ((some FieldType.int))) (n : Nat) : I_Ls_weightOf G p l e s m args below meth c z0 u0 n := by
  induction n with
  | zero => exact ⟨fun _ _ _ => x_none, fun _ => x_none, fun _ _ => x_none⟩
  | succ n IH => exact ⟨fun v0R v1I σ => s_Ls_weightOf_0 C IH v0R v1I σ, fun σ => s_Ls_weightOf_1 C IH σ, fun s0I σ => s_Ls_weightOf_2 C IH s0I σ⟩
theorem c_Ls_weightOf (G : GX) (l : Launch) (v0R : Nat) (v1I : Int32) (σ : AM) : CT eI G l 0 y_Ls_weightOf prog_6_method_11_code 2 ((some FieldType.int)) [.ref v0R, .int v1I] σ (M_Ls_weightOf v0R v1I σ) := by
  refine ct_of (by decide +kernel) (Nat.le_of_ble_eq_true rfl) (fun p e s m args below meth c C hin => ?_)
  refine x_lve (lv' := [(0, .ref v0R), (1, .int v1I)]) rfl ?_
  intro r σ' h
  obtain ⟨n, hn⟩ := (lp_iff _ _ _).mp h
  exact (i_Ls_weightOf C n).1 v0R v1I σ r σ' hn
/-! BellPlate$Lists.makeRoom(I)V -/
abbrev y_Ls_makeRoom : MethodName := ⟨"BellPlate$Lists", "makeRoom", "(I)V"⟩
theorem k_Ls_makeRoom : y_Ls_makeRoom.cls ≠ "java/lang/invoke/MethodHandle" ∧ y_Ls_makeRoom.cls ≠ "java/lang/invoke/VarHandle" ∧ (parseMethodDescriptor y_Ls_makeRoom.desc).map (fun d => d.parameters.length) = some 1 := by decide +kernel
theorem d_Ls_makeRoom_0 : decode prog_6_method_14_code 0 = .ok (.iload_n 1, 1) := by decide +kernel
theorem d_Ls_makeRoom_1 : decode prog_6_method_14_code 1 = .ok (.aload_n 0, 1) := by decide +kernel
theorem d_Ls_makeRoom_2 : decode prog_6_method_14_code 2 = .ok (.getfield 29, 3) := by decide +kernel
theorem d_Ls_makeRoom_5 : decode prog_6_method_14_code 5 = .ok (.arraylength, 1) := by decide +kernel
theorem d_Ls_makeRoom_6 : decode prog_6_method_14_code 6 = .ok (.if_icmp .le 49, 3) := by decide +kernel
theorem d_Ls_makeRoom_9 : decode prog_6_method_14_code 9 = .ok (.iload_n 1, 1) := by decide +kernel
theorem d_Ls_makeRoom_10 : decode prog_6_method_14_code 10 = .ok (.iconst 2, 1) := by decide +kernel
theorem d_Ls_makeRoom_11 : decode prog_6_method_14_code 11 = .ok (.aload_n 0, 1) := by decide +kernel
theorem d_Ls_makeRoom_12 : decode prog_6_method_14_code 12 = .ok (.getfield 29, 3) := by decide +kernel
theorem d_Ls_makeRoom_15 : decode prog_6_method_14_code 15 = .ok (.arraylength, 1) := by decide +kernel
theorem d_Ls_makeRoom_16 : decode prog_6_method_14_code 16 = .ok (.imul, 1) := by decide +kernel
theorem d_Ls_makeRoom_17 : decode prog_6_method_14_code 17 = .ok (.invokestatic 117, 3) := by decide +kernel
theorem d_Ls_makeRoom_20 : decode prog_6_method_14_code 20 = .ok (.sipush 16384, 3) := by decide +kernel
theorem d_Ls_makeRoom_23 : decode prog_6_method_14_code 23 = .ok (.invokestatic 123, 3) := by decide +kernel
theorem d_Ls_makeRoom_26 : decode prog_6_method_14_code 26 = .ok (.istore_n 2, 1) := by decide +kernel
theorem d_Ls_makeRoom_27 : decode prog_6_method_14_code 27 = .ok (.aload_n 0, 1) := by decide +kernel
theorem d_Ls_makeRoom_28 : decode prog_6_method_14_code 28 = .ok (.iload_n 2, 1) := by decide +kernel
theorem d_Ls_makeRoom_29 : decode prog_6_method_14_code 29 = .ok (.newarray .long, 2) := by decide +kernel
theorem d_Ls_makeRoom_31 : decode prog_6_method_14_code 31 = .ok (.putfield 29, 3) := by decide +kernel
theorem d_Ls_makeRoom_34 : decode prog_6_method_14_code 34 = .ok (.aload_n 0, 1) := by decide +kernel
theorem d_Ls_makeRoom_35 : decode prog_6_method_14_code 35 = .ok (.iload_n 2, 1) := by decide +kernel
theorem d_Ls_makeRoom_36 : decode prog_6_method_14_code 36 = .ok (.newarray .int, 2) := by decide +kernel
theorem d_Ls_makeRoom_38 : decode prog_6_method_14_code 38 = .ok (.putfield 33, 3) := by decide +kernel
theorem d_Ls_makeRoom_41 : decode prog_6_method_14_code 41 = .ok (.aload_n 0, 1) := by decide +kernel
theorem d_Ls_makeRoom_42 : decode prog_6_method_14_code 42 = .ok (.iload_n 2, 1) := by decide +kernel
theorem d_Ls_makeRoom_43 : decode prog_6_method_14_code 43 = .ok (.newarray .int, 2) := by decide +kernel
theorem d_Ls_makeRoom_45 : decode prog_6_method_14_code 45 = .ok (.putfield 36, 3) := by decide +kernel
theorem d_Ls_makeRoom_48 : decode prog_6_method_14_code 48 = .ok (.aload_n 0, 1) := by decide +kernel
theorem d_Ls_makeRoom_49 : decode prog_6_method_14_code 49 = .ok (.iload_n 2, 1) := by decide +kernel
theorem d_Ls_makeRoom_50 : decode prog_6_method_14_code 50 = .ok (.newarray .int, 2) := by decide +kernel
theorem d_Ls_makeRoom_52 : decode prog_6_method_14_code 52 = .ok (.putfield 39, 3) := by decide +kernel
theorem d_Ls_makeRoom_55 : decode prog_6_method_14_code 55 = .ok (.aload_n 0, 1) := by decide +kernel
theorem d_Ls_makeRoom_56 : decode prog_6_method_14_code 56 = .ok (.iconst 2, 1) := by decide +kernel
theorem d_Ls_makeRoom_57 : decode prog_6_method_14_code 57 = .ok (.putfield 126, 3) := by decide +kernel
theorem d_Ls_makeRoom_60 : decode prog_6_method_14_code 60 = .ok (.iconst 0, 1) := by decide +kernel
theorem d_Ls_makeRoom_61 : decode prog_6_method_14_code 61 = .ok (.istore_n 2, 1) := by decide +kernel
theorem d_Ls_makeRoom_62 : decode prog_6_method_14_code 62 = .ok (.iload_n 2, 1) := by decide +kernel
theorem d_Ls_makeRoom_63 : decode prog_6_method_14_code 63 = .ok (.bipush 16, 2) := by decide +kernel
theorem d_Ls_makeRoom_65 : decode prog_6_method_14_code 65 = .ok (.if_icmp .ge 29, 3) := by decide +kernel
theorem d_Ls_makeRoom_68 : decode prog_6_method_14_code 68 = .ok (.aload_n 0, 1) := by decide +kernel
theorem d_Ls_makeRoom_69 : decode prog_6_method_14_code 69 = .ok (.getfield 126, 3) := by decide +kernel
theorem d_Ls_makeRoom_72 : decode prog_6_method_14_code 72 = .ok (.iconst 2, 1) := by decide +kernel
theorem d_Ls_makeRoom_73 : decode prog_6_method_14_code 73 = .ok (.iload_n 1, 1) := by decide +kernel
theorem d_Ls_makeRoom_74 : decode prog_6_method_14_code 74 = .ok (.imul, 1) := by decide +kernel
theorem d_Ls_makeRoom_75 : decode prog_6_method_14_code 75 = .ok (.if_icmp .ge 19, 3) := by decide +kernel
theorem d_Ls_makeRoom_78 : decode prog_6_method_14_code 78 = .ok (.aload_n 0, 1) := by decide +kernel
theorem d_Ls_makeRoom_79 : decode prog_6_method_14_code 79 = .ok (.dup, 1) := by decide +kernel
theorem d_Ls_makeRoom_80 : decode prog_6_method_14_code 80 = .ok (.getfield 126, 3) := by decide +kernel
theorem d_Ls_makeRoom_83 : decode prog_6_method_14_code 83 = .ok (.iconst 2, 1) := by decide +kernel
theorem d_Ls_makeRoom_84 : decode prog_6_method_14_code 84 = .ok (.imul, 1) := by decide +kernel
theorem d_Ls_makeRoom_85 : decode prog_6_method_14_code 85 = .ok (.putfield 126, 3) := by decide +kernel
theorem d_Ls_makeRoom_88 : decode prog_6_method_14_code 88 = .ok (.iinc 2 1, 3) := by decide +kernel
theorem d_Ls_makeRoom_91 : decode prog_6_method_14_code 91 = .ok (.goto (-29), 3) := by decide +kernel
theorem d_Ls_makeRoom_94 : decode prog_6_method_14_code 94 = .ok (.aload_n 0, 1) := by decide +kernel
theorem d_Ls_makeRoom_95 : decode prog_6_method_14_code 95 = .ok (.getfield 126, 3) := by decide +kernel
theorem d_Ls_makeRoom_98 : decode prog_6_method_14_code 98 = .ok (.aload_n 0, 1) := by decide +kernel
theorem d_Ls_makeRoom_99 : decode prog_6_method_14_code 99 = .ok (.getfield 42, 3) := by decide +kernel
theorem d_Ls_makeRoom_102 : decode prog_6_method_14_code 102 = .ok (.arraylength, 1) := by decide +kernel
theorem d_Ls_makeRoom_103 : decode prog_6_method_14_code 103 = .ok (.if_icmp .le 13, 3) := by decide +kernel
theorem d_Ls_makeRoom_106 : decode prog_6_method_14_code 106 = .ok (.aload_n 0, 1) := by decide +kernel
theorem d_Ls_makeRoom_107 : decode prog_6_method_14_code 107 = .ok (.aload_n 0, 1) := by decide +kernel
theorem d_Ls_makeRoom_108 : decode prog_6_method_14_code 108 = .ok (.getfield 126, 3) := by decide +kernel
theorem d_Ls_makeRoom_111 : decode prog_6_method_14_code 111 = .ok (.newarray .int, 2) := by decide +kernel
theorem d_Ls_makeRoom_113 : decode prog_6_method_14_code 113 = .ok (.putfield 42, 3) := by decide +kernel
theorem d_Ls_makeRoom_116 : decode prog_6_method_14_code 116 = .ok (.aload_n 0, 1) := by decide +kernel
theorem d_Ls_makeRoom_117 : decode prog_6_method_14_code 117 = .ok (.getfield 42, 3) := by decide +kernel
theorem d_Ls_makeRoom_120 : decode prog_6_method_14_code 120 = .ok (.iconst (-1), 1) := by decide +kernel
theorem d_Ls_makeRoom_121 : decode prog_6_method_14_code 121 = .ok (.invokestatic 92, 3) := by decide +kernel
theorem d_Ls_makeRoom_124 : decode prog_6_method_14_code 124 = .ok (.return_, 1) := by decide +kernel
abbrev S_Ls_makeRoom : Type := Nat × Nat × Int32 × Int32 × AM
noncomputable def T_Ls_makeRoom_0 (v0R : Nat) (v1I : Int32) (σ : AM) : S_Ls_makeRoom ⊕ Option (Unit × AM) :=
  gdT (okO σ v0R 3) <| gdT (okO σ (aR σ v0R 4) 102) <| if (nI (aN σ (aR σ v0R 4))) < v1I then (letT (mnI (mxI v1I ((2 : Int32) * (nI (aN σ (aR σ v0R 4))))) (16384 : Int32)) fun x3 => gdT (okN x3) <| letT (nw σ 102 x3.toNatClampNeg) fun σ4 => gdT (okO σ4 v0R 3) <| letT (sR σ4 v0R 4 (aZ σ)) fun σ8 => gdT (okN x3) <| letT (nw σ8 101 x3.toNatClampNeg) fun σ10 => gdT (okO σ10 v0R 3) <| letT (sR σ10 v0R 5 (aZ σ8)) fun σ14 => gdT (okN x3) <| letT (nw σ14 101 x3.toNatClampNeg) fun σ16 => gdT (okO σ16 v0R 3) <| letT (sR σ16 v0R 6 (aZ σ14)) fun σ20 => gdT (okN x3) <| letT (nw σ20 101 x3.toNatClampNeg) fun σ22 => gdT (okO σ22 v0R 3) <| letT (sR σ22 v0R 7 (aZ σ20)) fun σ26 => .inl (1, v0R, v1I, 0, σ26)) else (.inl (1, v0R, v1I, 0, σ))
noncomputable def T_Ls_makeRoom_1 (v0R : Nat) (v1I : Int32) (σ : AM) : S_Ls_makeRoom ⊕ Option (Unit × AM) :=
  gdT (okO σ v0R 3) <| letT (sI σ v0R 10 (2 : Int32)) fun σ2 => .inl (2, v0R, v1I, (0 : Int32), σ2)
noncomputable def T_Ls_makeRoom_2 (v0R : Nat) (v1I : Int32) (v2I : Int32) (σ : AM) : S_Ls_makeRoom ⊕ Option (Unit × AM) :=
  if v2I < (16 : Int32) then (gdT (okO σ v0R 3) <| if (aI σ v0R 10) < ((2 : Int32) * v1I) then (letT (sI σ v0R 10 ((aI σ v0R 10) * (2 : Int32))) fun σ2 => .inl (2, v0R, v1I, v2I + (1 : Int32), σ2)) else (.inl (3, v0R, 0, 0, σ))) else (.inl (3, v0R, 0, 0, σ))
noncomputable def T_Ls_makeRoom_3 (v0R : Nat) (σ : AM) : S_Ls_makeRoom ⊕ Option (Unit × AM) :=
  gdT (okO σ v0R 3) <| gdT (okO σ (aR σ v0R 8) 101) <| if (nI (aN σ (aR σ v0R 8))) < (aI σ v0R 10) then (gdT (okN (aI σ v0R 10)) <| letT (nw σ 101 (aI σ v0R 10).toNatClampNeg) fun σ3 => gdT (okO σ3 v0R 3) <| letT (sR σ3 v0R 8 (aZ σ)) fun σ7 => .inl (4, v0R, 0, 0, σ7)) else (.inl (4, v0R, 0, 0, σ))
noncomputable def T_Ls_makeRoom_4 (v0R : Nat) (σ : AM) : S_Ls_makeRoom ⊕ Option (Unit × AM) :=
  gdT (okO σ v0R 3) <| gdT (okO σ (aR σ v0R 8) 101) <| bndT (M_JArr_fill2 (aR σ v0R 8) ((-1) : Int32) σ) fun _ σ4 => .inr (some ((), σ4))
noncomputable def F_Ls_makeRoom : S_Ls_makeRoom → S_Ls_makeRoom ⊕ Option (Unit × AM) := fun s => match s.1 with
  | 0 => T_Ls_makeRoom_0 (s.2.1) (s.2.2.1) (s.2.2.2.2)
  | 1 => T_Ls_makeRoom_1 (s.2.1) (s.2.2.1) (s.2.2.2.2)
  | 2 => T_Ls_makeRoom_2 (s.2.1) (s.2.2.1) (s.2.2.2.1) (s.2.2.2.2)
  | 3 => T_Ls_makeRoom_3 (s.2.1) (s.2.2.2.2)
  | _ => T_Ls_makeRoom_4 (s.2.1) (s.2.2.2.2)
noncomputable def L_Ls_makeRoom_0 (v0R : Nat) (v1I : Int32) (σ : AM) : Option (Unit × AM) := lp F_Ls_makeRoom (0, v0R, v1I, 0, σ)
noncomputable def L_Ls_makeRoom_1 (v0R : Nat) (v1I : Int32) (σ : AM) : Option (Unit × AM) := lp F_Ls_makeRoom (1, v0R, v1I, 0, σ)
noncomputable def L_Ls_makeRoom_2 (v0R : Nat) (v1I : Int32) (v2I : Int32) (σ : AM) : Option (Unit × AM) := lp F_Ls_makeRoom (2, v0R, v1I, v2I, σ)
noncomputable def L_Ls_makeRoom_3 (v0R : Nat) (σ : AM) : Option (Unit × AM) := lp F_Ls_makeRoom (3, v0R, 0, 0, σ)
noncomputable def L_Ls_makeRoom_4 (v0R : Nat) (σ : AM) : Option (Unit × AM) := lp F_Ls_makeRoom (4, v0R, 0, 0, σ)
set_option maxRecDepth 20000 in
theorem E_Ls_makeRoom_0 (v0R : Nat) (v1I : Int32) (σ : AM) : L_Ls_makeRoom_0 v0R v1I σ = (gd (okO σ v0R 3) <| gd (okO σ (aR σ v0R 4) 102) <| if (nI (aN σ (aR σ v0R 4))) < v1I then (letT (mnI (mxI v1I ((2 : Int32) * (nI (aN σ (aR σ v0R 4))))) (16384 : Int32)) fun x3 => gd (okN x3) <| letT (nw σ 102 x3.toNatClampNeg) fun σ4 => gd (okO σ4 v0R 3) <| letT (sR σ4 v0R 4 (aZ σ)) fun σ8 => gd (okN x3) <| letT (nw σ8 101 x3.toNatClampNeg) fun σ10 => gd (okO σ10 v0R 3) <| letT (sR σ10 v0R 5 (aZ σ8)) fun σ14 => gd (okN x3) <| letT (nw σ14 101 x3.toNatClampNeg) fun σ16 => gd (okO σ16 v0R 3) <| letT (sR σ16 v0R 6 (aZ σ14)) fun σ20 => gd (okN x3) <| letT (nw σ20 101 x3.toNatClampNeg) fun σ22 => gd (okO σ22 v0R 3) <| letT (sR σ22 v0R 7 (aZ σ20)) fun σ26 => L_Ls_makeRoom_1 v0R v1I σ26) else (L_Ls_makeRoom_1 v0R v1I σ)) := by
  unfold L_Ls_makeRoom_0
  rw [lp_eq]
  show lpK (lp F_Ls_makeRoom) (T_Ls_makeRoom_0 v0R v1I σ) = _
  unfold T_Ls_makeRoom_0
  simp only [lpK_ite, lq_inl, lq_inr, lpK_bnd, lpK_gd, lq_let]
  try rfl
set_option maxRecDepth 20000 in
theorem E_Ls_makeRoom_1 (v0R : Nat) (v1I : Int32) (σ : AM) : L_Ls_makeRoom_1 v0R v1I σ = (gd (okO σ v0R 3) <| letT (sI σ v0R 10 (2 : Int32)) fun σ2 => L_Ls_makeRoom_2 v0R v1I ((0 : Int32)) σ2) := by
  unfold L_Ls_makeRoom_1
  rw [lp_eq]
  show lpK (lp F_Ls_makeRoom) (T_Ls_makeRoom_1 v0R v1I σ) = _
  unfold T_Ls_makeRoom_1
  simp only [lpK_ite, lq_inl, lq_inr, lpK_bnd, lpK_gd, lq_let]
  try rfl
set_option maxRecDepth 20000 in
theorem E_Ls_makeRoom_2 (v0R : Nat) (v1I : Int32) (v2I : Int32) (σ : AM) : L_Ls_makeRoom_2 v0R v1I v2I σ = (if v2I < (16 : Int32) then (gd (okO σ v0R 3) <| if (aI σ v0R 10) < ((2 : Int32) * v1I) then (letT (sI σ v0R 10 ((aI σ v0R 10) * (2 : Int32))) fun σ2 => L_Ls_makeRoom_2 v0R v1I (v2I + (1 : Int32)) σ2) else (L_Ls_makeRoom_3 v0R σ)) else (L_Ls_makeRoom_3 v0R σ)) := by
  unfold L_Ls_makeRoom_2
  rw [lp_eq]
  show lpK (lp F_Ls_makeRoom) (T_Ls_makeRoom_2 v0R v1I v2I σ) = _
  unfold T_Ls_makeRoom_2
  simp only [lpK_ite, lq_inl, lq_inr, lpK_bnd, lpK_gd, lq_let]
  try rfl
set_option maxRecDepth 20000 in
theorem E_Ls_makeRoom_3 (v0R : Nat) (σ : AM) : L_Ls_makeRoom_3 v0R σ = (gd (okO σ v0R 3) <| gd (okO σ (aR σ v0R 8) 101) <| if (nI (aN σ (aR σ v0R 8))) < (aI σ v0R 10) then (gd (okN (aI σ v0R 10)) <| letT (nw σ 101 (aI σ v0R 10).toNatClampNeg) fun σ3 => gd (okO σ3 v0R 3) <| letT (sR σ3 v0R 8 (aZ σ)) fun σ7 => L_Ls_makeRoom_4 v0R σ7) else (L_Ls_makeRoom_4 v0R σ)) := by
  unfold L_Ls_makeRoom_3
  rw [lp_eq]
  show lpK (lp F_Ls_makeRoom) (T_Ls_makeRoom_3 v0R σ) = _
  unfold T_Ls_makeRoom_3
  simp only [lpK_ite, lq_inl, lq_inr, lpK_bnd, lpK_gd, lq_let]
  try rfl
set_option maxRecDepth 20000 in
theorem E_Ls_makeRoom_4 (v0R : Nat) (σ : AM) : L_Ls_makeRoom_4 v0R σ = (gd (okO σ v0R 3) <| gd (okO σ (aR σ v0R 8) 101) <| bnd (M_JArr_fill2 (aR σ v0R 8) ((-1) : Int32) σ) fun _ σ4 => (some ((), σ4))) := by
  unfold L_Ls_makeRoom_4
  rw [lp_eq]
  show lpK (lp F_Ls_makeRoom) (T_Ls_makeRoom_4 v0R σ) = _
  unfold T_Ls_makeRoom_4
  simp only [lpK_ite, lq_inl, lq_inr, lpK_bnd, lpK_gd, lq_let]
  try rfl
noncomputable def M_Ls_makeRoom (v0R : Nat) (v1I : Int32) (σ : AM) : Option (Unit × AM) := mw σ (L_Ls_makeRoom_0 v0R v1I σ)
def I_Ls_makeRoom (G : GX) (p : Program) (l : Launch) (e : Env) (s : State) (m : MethodId) (args : Array Value) (below : List Frame) (meth : Method) (c : Code) (z0 u0 n : Nat) : Prop :=
  (∀ (v0R : Nat) (v1I : Int32) (σ : AM), VX (QM eV G args s below z0 u0) G p l e s m args below meth c 1 z0 u0 3 (lpn F_Ls_makeRoom n (0, v0R, v1I, 0, σ)) 0 [(0, .ref v0R), (1, .int v1I)] [] σ) ∧
  (∀ (v0R : Nat) (v1I : Int32) (σ : AM), VX (QM eV G args s below z0 u0) G p l e s m args below meth c 1 z0 u0 3 (lpn F_Ls_makeRoom n (1, v0R, v1I, 0, σ)) 55 [(0, .ref v0R), (1, .int v1I)] [] σ) ∧
  (∀ (v0R : Nat) (v1I : Int32) (v2I : Int32) (σ : AM), VX (QM eV G args s below z0 u0) G p l e s m args below meth c 1 z0 u0 3 (lpn F_Ls_makeRoom n (2, v0R, v1I, v2I, σ)) 62 [(0, .ref v0R), (1, .int v1I), (2, .int v2I)] [] σ) ∧
  (∀ (v0R : Nat) (σ : AM), VX (QM eV G args s below z0 u0) G p l e s m args below meth c 1 z0 u0 3 (lpn F_Ls_makeRoom n (3, v0R, 0, 0, σ)) 94 [(0, .ref v0R)] [] σ) ∧
  (∀ (v0R : Nat) (σ : AM), VX (QM eV G args s below z0 u0) G p l e s m args below meth c 1 z0 u0 3 (lpn F_Ls_makeRoom n (4, v0R, 0, 0, σ)) 116 [(0, .ref v0R)] [] σ)
set_option maxRecDepth 20000 in
theorem s_Ls_makeRoom_0 {G : GX} {p : Program} {l : Launch} {e : Env} {s : State} {m : MethodId} {args : Array Value} {below : List Frame} {meth : Method} {c : Code} {z0 u0 n : Nat} (C : Cx G p s m args meth c prog_6_method_14_code 3 "BellPlate$Lists" ((none))) (IH : I_Ls_makeRoom G p l e s m args below meth c z0 u0 n) (v0R : Nat) (v1I : Int32) (σ : AM) : VX (QM eV G args s below z0 u0) G p l e s m args below meth c 1 z0 u0 3 (lpK (lpn F_Ls_makeRoom n) (T_Ls_makeRoom_0 v0R v1I σ)) 0 [(0, .ref v0R), (1, .int v1I)] [] σ := by
  unfold T_Ls_makeRoom_0
  refine x_iload_n C d_Ls_makeRoom_0 1 rfl ?_
  refine x_aload_n C d_Ls_makeRoom_1 0 rfl ?_
  refine x_gd (fun h1 => ?_)
  refine x_gd (fun h2 => ?_)
  refine x_getR (k := 4) (kv := 102) C (okO_iff.mp h1) rfl j2_ok (by decide) rfl (okO_iff.mp h2) (by decide) w256 d_Ls_makeRoom_2 ?_
  refine x_alen (t := 1) C (okO_iff.mp h2) (by decide) d_Ls_makeRoom_5 ?_
  refine x_icmp_le (tgt := 55) C d_Ls_makeRoom_6 (by decide) (fun _ => ?_) (fun _ => ?_)
  · refine x_iload_n C d_Ls_makeRoom_9 1 rfl ?_
    refine x_iconst (v := (2 : Int32)) C d_Ls_makeRoom_10 (by decide) ?_
    refine x_aload_n C d_Ls_makeRoom_11 0 rfl ?_
    refine x_getR (k := 4) (kv := 102) C (okO_iff.mp h1) rfl j2_ok (by decide) rfl (okO_iff.mp h2) (by decide) w256 d_Ls_makeRoom_12 ?_
    refine x_alen (t := 1) C (okO_iff.mp h2) (by decide) d_Ls_makeRoom_15 ?_
    refine x_imul C d_Ls_makeRoom_16 ?_
    refine x_mmax C w637 (by decide) (Nat.le_of_ble_eq_true rfl) d_Ls_makeRoom_17 ?_
    refine x_sipush (v := (16384 : Int32)) C d_Ls_makeRoom_20 (by decide) ?_
    refine x_mmin C w638 (by decide) (Nat.le_of_ble_eq_true rfl) d_Ls_makeRoom_23 ?_
    refine x_letI (fun x3 _ => ?_)
    refine x_istore_n (lv' := [(2, .int x3), (0, .ref v0R), (1, .int v1I)]) C d_Ls_makeRoom_26 (by decide) rfl rfl ?_
    refine x_aload_n C d_Ls_makeRoom_27 1 rfl ?_
    refine x_iload_n C d_Ls_makeRoom_28 0 rfl ?_
    refine x_gd (fun h6 => ?_)
    refine x_newaJ C w202 (okN_iff.mp h6).1 (okN_iff.mp h6).2 d_Ls_makeRoom_29 ?_
    refine x_letS (fun σ4 e5 => ?_)
    refine x_gd (fun h7 => ?_)
    refine x_putR (k := 4) (kv := 102) C (okO_iff.mp h7) rfl j2_ok y2_ok n2_ok (by decide) rfl (fr_K e5) (by decide) rfl rfl rfl w256 d_Ls_makeRoom_31 ?_
    refine x_letS (fun σ8 e9 => ?_)
    refine x_aload_n C d_Ls_makeRoom_34 1 rfl ?_
    refine x_iload_n C d_Ls_makeRoom_35 0 rfl ?_
    refine x_gd (fun h12 => ?_)
    refine x_newaI C w203 (okN_iff.mp h12).1 (okN_iff.mp h12).2 d_Ls_makeRoom_36 ?_
    refine x_letS (fun σ10 e11 => ?_)
    refine x_gd (fun h13 => ?_)
    refine x_putR (k := 5) (kv := 101) C (okO_iff.mp h13) rfl j2_ok y2_ok n2_ok (by decide) rfl (fr_K e11) (by decide) rfl rfl rfl w257 d_Ls_makeRoom_38 ?_
    refine x_letS (fun σ14 e15 => ?_)
    refine x_aload_n C d_Ls_makeRoom_41 1 rfl ?_
    refine x_iload_n C d_Ls_makeRoom_42 0 rfl ?_
    refine x_gd (fun h18 => ?_)
    refine x_newaI C w203 (okN_iff.mp h18).1 (okN_iff.mp h18).2 d_Ls_makeRoom_43 ?_
    refine x_letS (fun σ16 e17 => ?_)
    refine x_gd (fun h19 => ?_)
    refine x_putR (k := 6) (kv := 101) C (okO_iff.mp h19) rfl j2_ok y2_ok n2_ok (by decide) rfl (fr_K e17) (by decide) rfl rfl rfl w258 d_Ls_makeRoom_45 ?_
    refine x_letS (fun σ20 e21 => ?_)
    refine x_aload_n C d_Ls_makeRoom_48 1 rfl ?_
    refine x_iload_n C d_Ls_makeRoom_49 0 rfl ?_
    refine x_gd (fun h24 => ?_)
    refine x_newaI C w203 (okN_iff.mp h24).1 (okN_iff.mp h24).2 d_Ls_makeRoom_50 ?_
    refine x_letS (fun σ22 e23 => ?_)
    refine x_gd (fun h25 => ?_)
    refine x_putR (k := 7) (kv := 101) C (okO_iff.mp h25) rfl j2_ok y2_ok n2_ok (by decide) rfl (fr_K e23) (by decide) rfl rfl rfl w259 d_Ls_makeRoom_52 ?_
    refine x_letS (fun σ26 e27 => ?_)
    refine x_lv [1, 2] rfl ?_
    exact IH.2.1 v0R v1I (σ26)
  · exact IH.2.1 v0R v1I (σ)
set_option maxRecDepth 20000 in
theorem s_Ls_makeRoom_1 {G : GX} {p : Program} {l : Launch} {e : Env} {s : State} {m : MethodId} {args : Array Value} {below : List Frame} {meth : Method} {c : Code} {z0 u0 n : Nat} (C : Cx G p s m args meth c prog_6_method_14_code 3 "BellPlate$Lists" ((none))) (IH : I_Ls_makeRoom G p l e s m args below meth c z0 u0 n) (v0R : Nat) (v1I : Int32) (σ : AM) : VX (QM eV G args s below z0 u0) G p l e s m args below meth c 1 z0 u0 3 (lpK (lpn F_Ls_makeRoom n) (T_Ls_makeRoom_1 v0R v1I σ)) 55 [(0, .ref v0R), (1, .int v1I)] [] σ := by
  unfold T_Ls_makeRoom_1
  refine x_aload_n C d_Ls_makeRoom_55 0 rfl ?_
  refine x_iconst (v := (2 : Int32)) C d_Ls_makeRoom_56 (by decide) ?_
  refine x_gd (fun h1 => ?_)
  refine x_putI (k := 10) C (okO_iff.mp h1) rfl j2_ok y2_ok n2_ok (by decide) rfl rfl rfl rfl w262 d_Ls_makeRoom_57 ?_
  refine x_letS (fun σ2 e3 => ?_)
  refine x_iconst (v := (0 : Int32)) C d_Ls_makeRoom_60 (by decide) ?_
  refine x_istore_n (lv' := [(2, .int (0 : Int32)), (0, .ref v0R), (1, .int v1I)]) C d_Ls_makeRoom_61 (by decide) rfl rfl ?_
  refine x_lv [1, 2, 0] rfl ?_
  exact IH.2.2.1 v0R v1I ((0 : Int32)) (σ2)
set_option maxRecDepth 20000 in
theorem s_Ls_makeRoom_2 {G : GX} {p : Program} {l : Launch} {e : Env} {s : State} {m : MethodId} {args : Array Value} {below : List Frame} {meth : Method} {c : Code} {z0 u0 n : Nat} (C : Cx G p s m args meth c prog_6_method_14_code 3 "BellPlate$Lists" ((none))) (IH : I_Ls_makeRoom G p l e s m args below meth c z0 u0 n) (v0R : Nat) (v1I : Int32) (v2I : Int32) (σ : AM) : VX (QM eV G args s below z0 u0) G p l e s m args below meth c 1 z0 u0 3 (lpK (lpn F_Ls_makeRoom n) (T_Ls_makeRoom_2 v0R v1I v2I σ)) 62 [(0, .ref v0R), (1, .int v1I), (2, .int v2I)] [] σ := by
  unfold T_Ls_makeRoom_2
  refine x_iload_n C d_Ls_makeRoom_62 2 rfl ?_
  refine x_bipush (v := (16 : Int32)) C d_Ls_makeRoom_63 (by decide) ?_
  refine x_icmp_ge (tgt := 94) C d_Ls_makeRoom_65 (by decide) (fun _ => ?_) (fun _ => ?_)
  · refine x_aload_n C d_Ls_makeRoom_68 0 rfl ?_
    refine x_gd (fun h1 => ?_)
    refine x_getI (k := 10) C (okO_iff.mp h1) rfl j2_ok (by decide) rfl w262 d_Ls_makeRoom_69 ?_
    refine x_iconst (v := (2 : Int32)) C d_Ls_makeRoom_72 (by decide) ?_
    refine x_iload_n C d_Ls_makeRoom_73 1 rfl ?_
    refine x_imul C d_Ls_makeRoom_74 ?_
    refine x_icmp_ge (tgt := 94) C d_Ls_makeRoom_75 (by decide) (fun _ => ?_) (fun _ => ?_)
    · refine x_aload_n C d_Ls_makeRoom_78 0 rfl ?_
      refine x_dup C d_Ls_makeRoom_79 rfl ?_
      refine x_getI (k := 10) C (okO_iff.mp h1) rfl j2_ok (by decide) rfl w262 d_Ls_makeRoom_80 ?_
      refine x_iconst (v := (2 : Int32)) C d_Ls_makeRoom_83 (by decide) ?_
      refine x_imul C d_Ls_makeRoom_84 ?_
      refine x_putI (k := 10) C (okO_iff.mp h1) rfl j2_ok y2_ok n2_ok (by decide) rfl rfl rfl rfl w262 d_Ls_makeRoom_85 ?_
      refine x_letS (fun σ2 e3 => ?_)
      refine x_iinc (v := v2I + (1 : Int32)) (lv' := [(2, .int (v2I + (1 : Int32))), (0, .ref v0R), (1, .int v1I)]) C d_Ls_makeRoom_88 2 rfl rfl (by decide) rfl ?_
      refine x_goto (tgt := 62) C d_Ls_makeRoom_91 (by decide) ?_
      refine x_lv [1, 2, 0] rfl ?_
      exact IH.2.2.1 v0R v1I (v2I + (1 : Int32)) (σ2)
    · refine x_lv [0] rfl ?_
      exact IH.2.2.2.1 v0R (σ)
  · refine x_lv [0] rfl ?_
    exact IH.2.2.2.1 v0R (σ)
set_option maxRecDepth 20000 in
theorem s_Ls_makeRoom_3 {G : GX} {p : Program} {l : Launch} {e : Env} {s : State} {m : MethodId} {args : Array Value} {below : List Frame} {meth : Method} {c : Code} {z0 u0 n : Nat} (C : Cx G p s m args meth c prog_6_method_14_code 3 "BellPlate$Lists" ((none))) (IH : I_Ls_makeRoom G p l e s m args below meth c z0 u0 n) (v0R : Nat) (σ : AM) : VX (QM eV G args s below z0 u0) G p l e s m args below meth c 1 z0 u0 3 (lpK (lpn F_Ls_makeRoom n) (T_Ls_makeRoom_3 v0R σ)) 94 [(0, .ref v0R)] [] σ := by
  unfold T_Ls_makeRoom_3
  refine x_aload_n C d_Ls_makeRoom_94 0 rfl ?_
  refine x_gd (fun h1 => ?_)
  refine x_getI (k := 10) C (okO_iff.mp h1) rfl j2_ok (by decide) rfl w262 d_Ls_makeRoom_95 ?_
  refine x_aload_n C d_Ls_makeRoom_98 0 rfl ?_
  refine x_gd (fun h2 => ?_)
  refine x_getR (k := 8) (kv := 101) C (okO_iff.mp h1) rfl j2_ok (by decide) rfl (okO_iff.mp h2) (by decide) w260 d_Ls_makeRoom_99 ?_
  refine x_alen (t := 0) C (okO_iff.mp h2) (by decide) d_Ls_makeRoom_102 ?_
  refine x_icmp_le (tgt := 116) C d_Ls_makeRoom_103 (by decide) (fun _ => ?_) (fun _ => ?_)
  · refine x_aload_n C d_Ls_makeRoom_106 0 rfl ?_
    refine x_aload_n C d_Ls_makeRoom_107 0 rfl ?_
    refine x_getI (k := 10) C (okO_iff.mp h1) rfl j2_ok (by decide) rfl w262 d_Ls_makeRoom_108 ?_
    refine x_gd (fun h5 => ?_)
    refine x_newaI C w203 (okN_iff.mp h5).1 (okN_iff.mp h5).2 d_Ls_makeRoom_111 ?_
    refine x_letS (fun σ3 e4 => ?_)
    refine x_gd (fun h6 => ?_)
    refine x_putR (k := 8) (kv := 101) C (okO_iff.mp h6) rfl j2_ok y2_ok n2_ok (by decide) rfl (fr_K e4) (by decide) rfl rfl rfl w260 d_Ls_makeRoom_113 ?_
    refine x_letS (fun σ7 e8 => ?_)
    exact IH.2.2.2.2 v0R (σ7)
  · exact IH.2.2.2.2 v0R (σ)
set_option maxRecDepth 20000 in
theorem s_Ls_makeRoom_4 {G : GX} {p : Program} {l : Launch} {e : Env} {s : State} {m : MethodId} {args : Array Value} {below : List Frame} {meth : Method} {c : Code} {z0 u0 n : Nat} (C : Cx G p s m args meth c prog_6_method_14_code 3 "BellPlate$Lists" ((none))) (IH : I_Ls_makeRoom G p l e s m args below meth c z0 u0 n) (v0R : Nat) (σ : AM) : VX (QM eV G args s below z0 u0) G p l e s m args below meth c 1 z0 u0 3 (lpK (lpn F_Ls_makeRoom n) (T_Ls_makeRoom_4 v0R σ)) 116 [(0, .ref v0R)] [] σ := by
  unfold T_Ls_makeRoom_4
  refine x_aload_n C d_Ls_makeRoom_116 0 rfl ?_
  refine x_gd (fun h1 => ?_)
  refine x_gd (fun h2 => ?_)
  refine x_getR (k := 8) (kv := 101) C (okO_iff.mp h1) rfl j2_ok (by decide) rfl (okO_iff.mp h2) (by decide) w260 d_Ls_makeRoom_117 ?_
  refine x_iconst (v := ((-1) : Int32)) C d_Ls_makeRoom_120 (by decide) ?_
  refine x_callSV (As := [.ref (aR σ v0R 8), .int ((-1) : Int32)]) C (c_JArr_fill2 G l (aR σ v0R 8) ((-1) : Int32) σ) w377 w641 w378 w127 k_JArr_fill2 rfl (by decide) (by decide) rfl (Nat.le_of_ble_eq_true rfl) d_Ls_makeRoom_121 (fun r3 σ4 => ?_)
  exact x_vret C d_Ls_makeRoom_124
theorem i_Ls_makeRoom {G : GX} {p : Program} {l : Launch} {e : Env} {s : State} {m : MethodId} {args : Array Value} {below : List Frame} {meth : Method} {c : Code} {z0 u0 : Nat} (C : Cx G p s m args meth c prog_6_method_14_code 3 "BellPlate$Lists" ((none))) (n : Nat) : I_Ls_makeRoom G p l e s m args below meth c z0 u0 n := by
  induction n with
  | zero => exact ⟨fun _ _ _ => x_none, fun _ _ _ => x_none, fun _ _ _ _ => x_none, fun _ _ => x_none, fun _ _ => x_none⟩
  | succ n IH => exact ⟨fun v0R v1I σ => s_Ls_makeRoom_0 C IH v0R v1I σ, fun v0R v1I σ => s_Ls_makeRoom_1 C IH v0R v1I σ, fun v0R v1I v2I σ => s_Ls_makeRoom_2 C IH v0R v1I v2I σ, fun v0R σ => s_Ls_makeRoom_3 C IH v0R σ, fun v0R σ => s_Ls_makeRoom_4 C IH v0R σ⟩
theorem c_Ls_makeRoom (G : GX) (l : Launch) (v0R : Nat) (v1I : Int32) (σ : AM) : CT eV G l 1 y_Ls_makeRoom prog_6_method_14_code 3 (none) [.ref v0R, .int v1I] σ (M_Ls_makeRoom v0R v1I σ) := by
  refine ct_of (by decide +kernel) (Nat.le_of_ble_eq_true rfl) (fun p e s m args below meth c C hin => ?_)
  refine x_lve (lv' := [(0, .ref v0R), (1, .int v1I)]) rfl ?_
  intro r σ' h
  obtain ⟨n, hn⟩ := (lp_iff _ _ _).mp h
  exact (i_Ls_makeRoom C n).1 v0R v1I σ r σ' hn
/-! BellPlate$Lists.makeLowBlocks(I)I -/
abbrev y_Ls_makeLowBlocks : MethodName := ⟨"BellPlate$Lists", "makeLowBlocks", "(I)I"⟩
theorem k_Ls_makeLowBlocks : y_Ls_makeLowBlocks.cls ≠ "java/lang/invoke/MethodHandle" ∧ y_Ls_makeLowBlocks.cls ≠ "java/lang/invoke/VarHandle" ∧ (parseMethodDescriptor y_Ls_makeLowBlocks.desc).map (fun d => d.parameters.length) = some 1 := by decide +kernel
theorem d_Ls_makeLowBlocks_0 : decode prog_6_method_15_code 0 = .ok (.iconst 1, 1) := by decide +kernel
theorem d_Ls_makeLowBlocks_1 : decode prog_6_method_15_code 1 = .ok (.istore_n 2, 1) := by decide +kernel
theorem d_Ls_makeLowBlocks_2 : decode prog_6_method_15_code 2 = .ok (.iconst 0, 1) := by decide +kernel
theorem d_Ls_makeLowBlocks_3 : decode prog_6_method_15_code 3 = .ok (.istore_n 3, 1) := by decide +kernel
theorem d_Ls_makeLowBlocks_4 : decode prog_6_method_15_code 4 = .ok (.iload_n 3, 1) := by decide +kernel
theorem d_Ls_makeLowBlocks_5 : decode prog_6_method_15_code 5 = .ok (.iload_n 1, 1) := by decide +kernel
theorem d_Ls_makeLowBlocks_6 : decode prog_6_method_15_code 6 = .ok (.if_icmp .ge 21, 3) := by decide +kernel
theorem d_Ls_makeLowBlocks_9 : decode prog_6_method_15_code 9 = .ok (.iload_n 2, 1) := by decide +kernel
theorem d_Ls_makeLowBlocks_10 : decode prog_6_method_15_code 10 = .ok (.aload_n 0, 1) := by decide +kernel
theorem d_Ls_makeLowBlocks_11 : decode prog_6_method_15_code 11 = .ok (.getfield 9, 3) := by decide +kernel
theorem d_Ls_makeLowBlocks_14 : decode prog_6_method_15_code 14 = .ok (.invokevirtual 129, 3) := by decide +kernel
theorem d_Ls_makeLowBlocks_17 : decode prog_6_method_15_code 17 = .ok (.iconst 1, 1) := by decide +kernel
theorem d_Ls_makeLowBlocks_18 : decode prog_6_method_15_code 18 = .ok (.iadd, 1) := by decide +kernel
theorem d_Ls_makeLowBlocks_19 : decode prog_6_method_15_code 19 = .ok (.imul, 1) := by decide +kernel
theorem d_Ls_makeLowBlocks_20 : decode prog_6_method_15_code 20 = .ok (.istore_n 2, 1) := by decide +kernel
theorem d_Ls_makeLowBlocks_21 : decode prog_6_method_15_code 21 = .ok (.iinc 3 1, 3) := by decide +kernel
theorem d_Ls_makeLowBlocks_24 : decode prog_6_method_15_code 24 = .ok (.goto (-20), 3) := by decide +kernel
theorem d_Ls_makeLowBlocks_27 : decode prog_6_method_15_code 27 = .ok (.aload_n 0, 1) := by decide +kernel
theorem d_Ls_makeLowBlocks_28 : decode prog_6_method_15_code 28 = .ok (.getfield 9, 3) := by decide +kernel
theorem d_Ls_makeLowBlocks_31 : decode prog_6_method_15_code 31 = .ok (.invokevirtual 71, 3) := by decide +kernel
theorem d_Ls_makeLowBlocks_34 : decode prog_6_method_15_code 34 = .ok (.iconst 1, 1) := by decide +kernel
theorem d_Ls_makeLowBlocks_35 : decode prog_6_method_15_code 35 = .ok (.iadd, 1) := by decide +kernel
theorem d_Ls_makeLowBlocks_36 : decode prog_6_method_15_code 36 = .ok (.istore_n 3, 1) := by decide +kernel
theorem d_Ls_makeLowBlocks_37 : decode prog_6_method_15_code 37 = .ok (.iload_n 2, 1) := by decide +kernel
theorem d_Ls_makeLowBlocks_38 : decode prog_6_method_15_code 38 = .ok (.iload_n 3, 1) := by decide +kernel
theorem d_Ls_makeLowBlocks_39 : decode prog_6_method_15_code 39 = .ok (.imul, 1) := by decide +kernel
theorem d_Ls_makeLowBlocks_40 : decode prog_6_method_15_code 40 = .ok (.aload_n 0, 1) := by decide +kernel
theorem d_Ls_makeLowBlocks_41 : decode prog_6_method_15_code 41 = .ok (.getfield 45, 3) := by decide +kernel
theorem d_Ls_makeLowBlocks_44 : decode prog_6_method_15_code 44 = .ok (.arraylength, 1) := by decide +kernel
theorem d_Ls_makeLowBlocks_45 : decode prog_6_method_15_code 45 = .ok (.if_icmp .le 22, 3) := by decide +kernel
theorem d_Ls_makeLowBlocks_48 : decode prog_6_method_15_code 48 = .ok (.aload_n 0, 1) := by decide +kernel
theorem d_Ls_makeLowBlocks_49 : decode prog_6_method_15_code 49 = .ok (.iload_n 2, 1) := by decide +kernel
theorem d_Ls_makeLowBlocks_50 : decode prog_6_method_15_code 50 = .ok (.iload_n 3, 1) := by decide +kernel
theorem d_Ls_makeLowBlocks_51 : decode prog_6_method_15_code 51 = .ok (.imul, 1) := by decide +kernel
theorem d_Ls_makeLowBlocks_52 : decode prog_6_method_15_code 52 = .ok (.iconst 2, 1) := by decide +kernel
theorem d_Ls_makeLowBlocks_53 : decode prog_6_method_15_code 53 = .ok (.aload_n 0, 1) := by decide +kernel
theorem d_Ls_makeLowBlocks_54 : decode prog_6_method_15_code 54 = .ok (.getfield 45, 3) := by decide +kernel
theorem d_Ls_makeLowBlocks_57 : decode prog_6_method_15_code 57 = .ok (.arraylength, 1) := by decide +kernel
theorem d_Ls_makeLowBlocks_58 : decode prog_6_method_15_code 58 = .ok (.imul, 1) := by decide +kernel
theorem d_Ls_makeLowBlocks_59 : decode prog_6_method_15_code 59 = .ok (.invokestatic 117, 3) := by decide +kernel
theorem d_Ls_makeLowBlocks_62 : decode prog_6_method_15_code 62 = .ok (.newarray .int, 2) := by decide +kernel
theorem d_Ls_makeLowBlocks_64 : decode prog_6_method_15_code 64 = .ok (.putfield 45, 3) := by decide +kernel
theorem d_Ls_makeLowBlocks_67 : decode prog_6_method_15_code 67 = .ok (.iconst 0, 1) := by decide +kernel
theorem d_Ls_makeLowBlocks_68 : decode prog_6_method_15_code 68 = .ok (.istore 4, 2) := by decide +kernel
theorem d_Ls_makeLowBlocks_70 : decode prog_6_method_15_code 70 = .ok (.iload 4, 2) := by decide +kernel
theorem d_Ls_makeLowBlocks_72 : decode prog_6_method_15_code 72 = .ok (.iload_n 2, 1) := by decide +kernel
theorem d_Ls_makeLowBlocks_73 : decode prog_6_method_15_code 73 = .ok (.if_icmp .ge 85, 3) := by decide +kernel
theorem d_Ls_makeLowBlocks_76 : decode prog_6_method_15_code 76 = .ok (.aload_n 0, 1) := by decide +kernel
theorem d_Ls_makeLowBlocks_77 : decode prog_6_method_15_code 77 = .ok (.iload 4, 2) := by decide +kernel
theorem d_Ls_makeLowBlocks_79 : decode prog_6_method_15_code 79 = .ok (.invokevirtual 63, 3) := by decide +kernel
theorem d_Ls_makeLowBlocks_82 : decode prog_6_method_15_code 82 = .ok (.iconst 0, 1) := by decide +kernel
theorem d_Ls_makeLowBlocks_83 : decode prog_6_method_15_code 83 = .ok (.istore 5, 2) := by decide +kernel
theorem d_Ls_makeLowBlocks_85 : decode prog_6_method_15_code 85 = .ok (.iload 5, 2) := by decide +kernel
theorem d_Ls_makeLowBlocks_87 : decode prog_6_method_15_code 87 = .ok (.iload_n 3, 1) := by decide +kernel
theorem d_Ls_makeLowBlocks_88 : decode prog_6_method_15_code 88 = .ok (.if_icmp .ge 64, 3) := by decide +kernel
theorem d_Ls_makeLowBlocks_91 : decode prog_6_method_15_code 91 = .ok (.iconst 0, 1) := by decide +kernel
theorem d_Ls_makeLowBlocks_92 : decode prog_6_method_15_code 92 = .ok (.istore 6, 2) := by decide +kernel
theorem d_Ls_makeLowBlocks_94 : decode prog_6_method_15_code 94 = .ok (.iconst 0, 1) := by decide +kernel
theorem d_Ls_makeLowBlocks_95 : decode prog_6_method_15_code 95 = .ok (.istore 7, 2) := by decide +kernel
theorem d_Ls_makeLowBlocks_97 : decode prog_6_method_15_code 97 = .ok (.iload 7, 2) := by decide +kernel
theorem d_Ls_makeLowBlocks_99 : decode prog_6_method_15_code 99 = .ok (.iconst 1, 1) := by decide +kernel
theorem d_Ls_makeLowBlocks_100 : decode prog_6_method_15_code 100 = .ok (.iload_n 1, 1) := by decide +kernel
theorem d_Ls_makeLowBlocks_101 : decode prog_6_method_15_code 101 = .ok (.ishl, 1) := by decide +kernel
theorem d_Ls_makeLowBlocks_102 : decode prog_6_method_15_code 102 = .ok (.if_icmp .ge 30, 3) := by decide +kernel
theorem d_Ls_makeLowBlocks_105 : decode prog_6_method_15_code 105 = .ok (.aload_n 0, 1) := by decide +kernel
theorem d_Ls_makeLowBlocks_106 : decode prog_6_method_15_code 106 = .ok (.getfield 23, 3) := by decide +kernel
theorem d_Ls_makeLowBlocks_109 : decode prog_6_method_15_code 109 = .ok (.iload 7, 2) := by decide +kernel
theorem d_Ls_makeLowBlocks_111 : decode prog_6_method_15_code 111 = .ok (.iaload, 1) := by decide +kernel
theorem d_Ls_makeLowBlocks_112 : decode prog_6_method_15_code 112 = .ok (.iload 5, 2) := by decide +kernel
theorem d_Ls_makeLowBlocks_114 : decode prog_6_method_15_code 114 = .ok (.if_icmp .lt 12, 3) := by decide +kernel
theorem d_Ls_makeLowBlocks_117 : decode prog_6_method_15_code 117 = .ok (.iload 6, 2) := by decide +kernel
theorem d_Ls_makeLowBlocks_119 : decode prog_6_method_15_code 119 = .ok (.iconst 1, 1) := by decide +kernel
theorem d_Ls_makeLowBlocks_120 : decode prog_6_method_15_code 120 = .ok (.iload 7, 2) := by decide +kernel
theorem d_Ls_makeLowBlocks_122 : decode prog_6_method_15_code 122 = .ok (.ishl, 1) := by decide +kernel
theorem d_Ls_makeLowBlocks_123 : decode prog_6_method_15_code 123 = .ok (.ior, 1) := by decide +kernel
theorem d_Ls_makeLowBlocks_124 : decode prog_6_method_15_code 124 = .ok (.istore 6, 2) := by decide +kernel
theorem d_Ls_makeLowBlocks_126 : decode prog_6_method_15_code 126 = .ok (.iinc 7 1, 3) := by decide +kernel
theorem d_Ls_makeLowBlocks_129 : decode prog_6_method_15_code 129 = .ok (.goto (-32), 3) := by decide +kernel
theorem d_Ls_makeLowBlocks_132 : decode prog_6_method_15_code 132 = .ok (.aload_n 0, 1) := by decide +kernel
theorem d_Ls_makeLowBlocks_133 : decode prog_6_method_15_code 133 = .ok (.getfield 45, 3) := by decide +kernel
theorem d_Ls_makeLowBlocks_136 : decode prog_6_method_15_code 136 = .ok (.iload 4, 2) := by decide +kernel
theorem d_Ls_makeLowBlocks_138 : decode prog_6_method_15_code 138 = .ok (.iload_n 3, 1) := by decide +kernel
theorem d_Ls_makeLowBlocks_139 : decode prog_6_method_15_code 139 = .ok (.imul, 1) := by decide +kernel
theorem d_Ls_makeLowBlocks_140 : decode prog_6_method_15_code 140 = .ok (.iload 5, 2) := by decide +kernel
theorem d_Ls_makeLowBlocks_142 : decode prog_6_method_15_code 142 = .ok (.iadd, 1) := by decide +kernel
theorem d_Ls_makeLowBlocks_143 : decode prog_6_method_15_code 143 = .ok (.iload 6, 2) := by decide +kernel
theorem d_Ls_makeLowBlocks_145 : decode prog_6_method_15_code 145 = .ok (.iastore, 1) := by decide +kernel
theorem d_Ls_makeLowBlocks_146 : decode prog_6_method_15_code 146 = .ok (.iinc 5 1, 3) := by decide +kernel
theorem d_Ls_makeLowBlocks_149 : decode prog_6_method_15_code 149 = .ok (.goto (-64), 3) := by decide +kernel
theorem d_Ls_makeLowBlocks_152 : decode prog_6_method_15_code 152 = .ok (.iinc 4 1, 3) := by decide +kernel
theorem d_Ls_makeLowBlocks_155 : decode prog_6_method_15_code 155 = .ok (.goto (-85), 3) := by decide +kernel
theorem d_Ls_makeLowBlocks_158 : decode prog_6_method_15_code 158 = .ok (.iload_n 2, 1) := by decide +kernel
theorem d_Ls_makeLowBlocks_159 : decode prog_6_method_15_code 159 = .ok (.ireturn, 1) := by decide +kernel
abbrev S_Ls_makeLowBlocks : Type := Nat × Nat × Int32 × Int32 × Int32 × Int32 × Int32 × Int32 × Int32 × AM
noncomputable def T_Ls_makeLowBlocks_0 (v0R : Nat) (v1I : Int32) (σ : AM) : S_Ls_makeLowBlocks ⊕ Option (Int32 × AM) :=
  .inl (1, v0R, v1I, (1 : Int32), (0 : Int32), 0, 0, 0, 0, σ)
noncomputable def T_Ls_makeLowBlocks_1 (v0R : Nat) (v1I : Int32) (v2I : Int32) (v3I : Int32) (σ : AM) : S_Ls_makeLowBlocks ⊕ Option (Int32 × AM) :=
  if v3I < v1I then (gdT (okO σ v0R 3) <| gdT (okO σ (aR σ v0R 0) 1) <| bndT (M_Tw_most (aR σ v0R 0) σ) fun r3 σ4 => letT (v2I * (r3 + (1 : Int32))) fun x5 => .inl (1, v0R, v1I, x5, v3I + (1 : Int32), 0, 0, 0, 0, σ4)) else (gdT (okO σ v0R 3) <| gdT (okO σ (aR σ v0R 0) 1) <| bndT (M_Tw_bar (aR σ v0R 0) σ) fun r8 σ9 => letT (r8 + (1 : Int32)) fun x10 => gdT (okO σ9 v0R 3) <| gdT (okO σ9 (aR σ9 v0R 9) 101) <| if (nI (aN σ9 (aR σ9 v0R 9))) < (v2I * x10) then (gdT (okN (mxI (v2I * x10) ((2 : Int32) * (nI (aN σ9 (aR σ9 v0R 9)))))) <| letT (nw σ9 101 (mxI (v2I * x10) ((2 : Int32) * (nI (aN σ9 (aR σ9 v0R 9))))).toNatClampNeg) fun σ13 => gdT (okO σ13 v0R 3) <| letT (sR σ13 v0R 9 (aZ σ9)) fun σ17 => .inl (2, v0R, v1I, v2I, x10, 0, 0, 0, 0, σ17)) else (.inl (2, v0R, v1I, v2I, x10, 0, 0, 0, 0, σ9)))
noncomputable def T_Ls_makeLowBlocks_2 (v0R : Nat) (v1I : Int32) (v2I : Int32) (v3I : Int32) (σ : AM) : S_Ls_makeLowBlocks ⊕ Option (Int32 × AM) :=
  .inl (3, v0R, v1I, v2I, v3I, (0 : Int32), 0, 0, 0, σ)
noncomputable def T_Ls_makeLowBlocks_3 (v0R : Nat) (v1I : Int32) (v2I : Int32) (v3I : Int32) (v4I : Int32) (σ : AM) : S_Ls_makeLowBlocks ⊕ Option (Int32 × AM) :=
  if v4I < v2I then (gdT (okO σ v0R 3) <| bndT (M_Ls_weigh v0R v4I σ) fun _ σ2 => .inl (4, v0R, v1I, v2I, v3I, v4I, (0 : Int32), 0, 0, σ2)) else (.inr (some (v2I, σ)))
noncomputable def T_Ls_makeLowBlocks_4 (v0R : Nat) (v1I : Int32) (v2I : Int32) (v3I : Int32) (v4I : Int32) (v5I : Int32) (σ : AM) : S_Ls_makeLowBlocks ⊕ Option (Int32 × AM) :=
  if v5I < v3I then (.inl (5, v0R, v1I, v2I, v3I, v4I, v5I, (0 : Int32), (0 : Int32), σ)) else (.inl (3, v0R, v1I, v2I, v3I, v4I + (1 : Int32), 0, 0, 0, σ))
noncomputable def T_Ls_makeLowBlocks_5 (v0R : Nat) (v1I : Int32) (v2I : Int32) (v3I : Int32) (v4I : Int32) (v5I : Int32) (v6I : Int32) (v7I : Int32) (σ : AM) : S_Ls_makeLowBlocks ⊕ Option (Int32 × AM) :=
  if v7I < ((1 : Int32) <<< (v1I &&& 31)) then (gdT (okO σ v0R 3) <| gdT (okO σ (aR σ v0R 2) 101) <| gdT (inB v7I (aN σ (aR σ v0R 2))) <| if (aI σ (aR σ v0R 2) v7I.toNatClampNeg) < v5I then (.inl (6, v0R, v1I, v2I, v3I, v4I, v5I, v6I, v7I, σ)) else (letT (v6I ||| ((1 : Int32) <<< (v7I &&& 31))) fun x4 => .inl (6, v0R, v1I, v2I, v3I, v4I, v5I, x4, v7I, σ))) else (gdT (okO σ v0R 3) <| gdT (okO σ (aR σ v0R 9) 101) <| gdT (inB ((v4I * v3I) + v5I) (aN σ (aR σ v0R 9))) <| letT (sI σ (aR σ v0R 9) ((v4I * v3I) + v5I).toNatClampNeg v6I) fun σ8 => .inl (4, v0R, v1I, v2I, v3I, v4I, v5I + (1 : Int32), 0, 0, σ8))
noncomputable def T_Ls_makeLowBlocks_6 (v0R : Nat) (v1I : Int32) (v2I : Int32) (v3I : Int32) (v4I : Int32) (v5I : Int32) (v6I : Int32) (v7I : Int32) (σ : AM) : S_Ls_makeLowBlocks ⊕ Option (Int32 × AM) :=
  .inl (5, v0R, v1I, v2I, v3I, v4I, v5I, v6I, v7I + (1 : Int32), σ)
noncomputable def F_Ls_makeLowBlocks : S_Ls_makeLowBlocks → S_Ls_makeLowBlocks ⊕ Option (Int32 × AM) := fun s => match s.1 with
  | 0 => T_Ls_makeLowBlocks_0 (s.2.1) (s.2.2.1) (s.2.2.2.2.2.2.2.2.2)
  | 1 => T_Ls_makeLowBlocks_1 (s.2.1) (s.2.2.1) (s.2.2.2.1) (s.2.2.2.2.1) (s.2.2.2.2.2.2.2.2.2)
  | 2 => T_Ls_makeLowBlocks_2 (s.2.1) (s.2.2.1) (s.2.2.2.1) (s.2.2.2.2.1) (s.2.2.2.2.2.2.2.2.2)
  | 3 => T_Ls_makeLowBlocks_3 (s.2.1) (s.2.2.1) (s.2.2.2.1) (s.2.2.2.2.1) (s.2.2.2.2.2.1) (s.2.2.2.2.2.2.2.2.2)
  | 4 => T_Ls_makeLowBlocks_4 (s.2.1) (s.2.2.1) (s.2.2.2.1) (s.2.2.2.2.1) (s.2.2.2.2.2.1) (s.2.2.2.2.2.2.1) (s.2.2.2.2.2.2.2.2.2)
  | 5 => T_Ls_makeLowBlocks_5 (s.2.1) (s.2.2.1) (s.2.2.2.1) (s.2.2.2.2.1) (s.2.2.2.2.2.1) (s.2.2.2.2.2.2.1) (s.2.2.2.2.2.2.2.1) (s.2.2.2.2.2.2.2.2.1) (s.2.2.2.2.2.2.2.2.2)
  | _ => T_Ls_makeLowBlocks_6 (s.2.1) (s.2.2.1) (s.2.2.2.1) (s.2.2.2.2.1) (s.2.2.2.2.2.1) (s.2.2.2.2.2.2.1) (s.2.2.2.2.2.2.2.1) (s.2.2.2.2.2.2.2.2.1) (s.2.2.2.2.2.2.2.2.2)
noncomputable def L_Ls_makeLowBlocks_0 (v0R : Nat) (v1I : Int32) (σ : AM) : Option (Int32 × AM) := lp F_Ls_makeLowBlocks (0, v0R, v1I, 0, 0, 0, 0, 0, 0, σ)
noncomputable def L_Ls_makeLowBlocks_1 (v0R : Nat) (v1I : Int32) (v2I : Int32) (v3I : Int32) (σ : AM) : Option (Int32 × AM) := lp F_Ls_makeLowBlocks (1, v0R, v1I, v2I, v3I, 0, 0, 0, 0, σ)
noncomputable def L_Ls_makeLowBlocks_2 (v0R : Nat) (v1I : Int32) (v2I : Int32) (v3I : Int32) (σ : AM) : Option (Int32 × AM) := lp F_Ls_makeLowBlocks (2, v0R, v1I, v2I, v3I, 0, 0, 0, 0, σ)
noncomputable def L_Ls_makeLowBlocks_3 (v0R : Nat) (v1I : Int32) (v2I : Int32) (v3I : Int32) (v4I : Int32) (σ : AM) : Option (Int32 × AM) := lp F_Ls_makeLowBlocks (3, v0R, v1I, v2I, v3I, v4I, 0, 0, 0, σ)
noncomputable def L_Ls_makeLowBlocks_4 (v0R : Nat) (v1I : Int32) (v2I : Int32) (v3I : Int32) (v4I : Int32) (v5I : Int32) (σ : AM) : Option (Int32 × AM) := lp F_Ls_makeLowBlocks (4, v0R, v1I, v2I, v3I, v4I, v5I, 0, 0, σ)
noncomputable def L_Ls_makeLowBlocks_5 (v0R : Nat) (v1I : Int32) (v2I : Int32) (v3I : Int32) (v4I : Int32) (v5I : Int32) (v6I : Int32) (v7I : Int32) (σ : AM) : Option (Int32 × AM) := lp F_Ls_makeLowBlocks (5, v0R, v1I, v2I, v3I, v4I, v5I, v6I, v7I, σ)
noncomputable def L_Ls_makeLowBlocks_6 (v0R : Nat) (v1I : Int32) (v2I : Int32) (v3I : Int32) (v4I : Int32) (v5I : Int32) (v6I : Int32) (v7I : Int32) (σ : AM) : Option (Int32 × AM) := lp F_Ls_makeLowBlocks (6, v0R, v1I, v2I, v3I, v4I, v5I, v6I, v7I, σ)
set_option maxRecDepth 20000 in
theorem E_Ls_makeLowBlocks_0 (v0R : Nat) (v1I : Int32) (σ : AM) : L_Ls_makeLowBlocks_0 v0R v1I σ = (L_Ls_makeLowBlocks_1 v0R v1I ((1 : Int32)) ((0 : Int32)) σ) := by
  unfold L_Ls_makeLowBlocks_0
  rw [lp_eq]
  show lpK (lp F_Ls_makeLowBlocks) (T_Ls_makeLowBlocks_0 v0R v1I σ) = _
  unfold T_Ls_makeLowBlocks_0
  simp only [lpK_ite, lq_inl, lq_inr, lpK_bnd, lpK_gd, lq_let]
  try rfl
set_option maxRecDepth 20000 in
theorem E_Ls_makeLowBlocks_1 (v0R : Nat) (v1I : Int32) (v2I : Int32) (v3I : Int32) (σ : AM) : L_Ls_makeLowBlocks_1 v0R v1I v2I v3I σ = (if v3I < v1I then (gd (okO σ v0R 3) <| gd (okO σ (aR σ v0R 0) 1) <| bnd (M_Tw_most (aR σ v0R 0) σ) fun r3 σ4 => letT (v2I * (r3 + (1 : Int32))) fun x5 => L_Ls_makeLowBlocks_1 v0R v1I x5 (v3I + (1 : Int32)) σ4) else (gd (okO σ v0R 3) <| gd (okO σ (aR σ v0R 0) 1) <| bnd (M_Tw_bar (aR σ v0R 0) σ) fun r8 σ9 => letT (r8 + (1 : Int32)) fun x10 => gd (okO σ9 v0R 3) <| gd (okO σ9 (aR σ9 v0R 9) 101) <| if (nI (aN σ9 (aR σ9 v0R 9))) < (v2I * x10) then (gd (okN (mxI (v2I * x10) ((2 : Int32) * (nI (aN σ9 (aR σ9 v0R 9)))))) <| letT (nw σ9 101 (mxI (v2I * x10) ((2 : Int32) * (nI (aN σ9 (aR σ9 v0R 9))))).toNatClampNeg) fun σ13 => gd (okO σ13 v0R 3) <| letT (sR σ13 v0R 9 (aZ σ9)) fun σ17 => L_Ls_makeLowBlocks_2 v0R v1I v2I x10 σ17) else (L_Ls_makeLowBlocks_2 v0R v1I v2I x10 σ9))) := by
  unfold L_Ls_makeLowBlocks_1
  rw [lp_eq]
  show lpK (lp F_Ls_makeLowBlocks) (T_Ls_makeLowBlocks_1 v0R v1I v2I v3I σ) = _
  unfold T_Ls_makeLowBlocks_1
  simp only [lpK_ite, lq_inl, lq_inr, lpK_bnd, lpK_gd, lq_let]
  try rfl
set_option maxRecDepth 20000 in
theorem E_Ls_makeLowBlocks_2 (v0R : Nat) (v1I : Int32) (v2I : Int32) (v3I : Int32) (σ : AM) : L_Ls_makeLowBlocks_2 v0R v1I v2I v3I σ = (L_Ls_makeLowBlocks_3 v0R v1I v2I v3I ((0 : Int32)) σ) := by
  unfold L_Ls_makeLowBlocks_2
  rw [lp_eq]
  show lpK (lp F_Ls_makeLowBlocks) (T_Ls_makeLowBlocks_2 v0R v1I v2I v3I σ) = _
  unfold T_Ls_makeLowBlocks_2
  simp only [lpK_ite, lq_inl, lq_inr, lpK_bnd, lpK_gd, lq_let]
  try rfl
set_option maxRecDepth 20000 in
theorem E_Ls_makeLowBlocks_3 (v0R : Nat) (v1I : Int32) (v2I : Int32) (v3I : Int32) (v4I : Int32) (σ : AM) : L_Ls_makeLowBlocks_3 v0R v1I v2I v3I v4I σ = (if v4I < v2I then (gd (okO σ v0R 3) <| bnd (M_Ls_weigh v0R v4I σ) fun _ σ2 => L_Ls_makeLowBlocks_4 v0R v1I v2I v3I v4I ((0 : Int32)) σ2) else ((some (v2I, σ)))) := by
  unfold L_Ls_makeLowBlocks_3
  rw [lp_eq]
  show lpK (lp F_Ls_makeLowBlocks) (T_Ls_makeLowBlocks_3 v0R v1I v2I v3I v4I σ) = _
  unfold T_Ls_makeLowBlocks_3
  simp only [lpK_ite, lq_inl, lq_inr, lpK_bnd, lpK_gd, lq_let]
  try rfl
set_option maxRecDepth 20000 in
theorem E_Ls_makeLowBlocks_4 (v0R : Nat) (v1I : Int32) (v2I : Int32) (v3I : Int32) (v4I : Int32) (v5I : Int32) (σ : AM) : L_Ls_makeLowBlocks_4 v0R v1I v2I v3I v4I v5I σ = (if v5I < v3I then (L_Ls_makeLowBlocks_5 v0R v1I v2I v3I v4I v5I ((0 : Int32)) ((0 : Int32)) σ) else (L_Ls_makeLowBlocks_3 v0R v1I v2I v3I (v4I + (1 : Int32)) σ)) := by
  unfold L_Ls_makeLowBlocks_4
  rw [lp_eq]
  show lpK (lp F_Ls_makeLowBlocks) (T_Ls_makeLowBlocks_4 v0R v1I v2I v3I v4I v5I σ) = _
  unfold T_Ls_makeLowBlocks_4
  simp only [lpK_ite, lq_inl, lq_inr, lpK_bnd, lpK_gd, lq_let]
  try rfl
set_option maxRecDepth 20000 in
theorem E_Ls_makeLowBlocks_5 (v0R : Nat) (v1I : Int32) (v2I : Int32) (v3I : Int32) (v4I : Int32) (v5I : Int32) (v6I : Int32) (v7I : Int32) (σ : AM) : L_Ls_makeLowBlocks_5 v0R v1I v2I v3I v4I v5I v6I v7I σ = (if v7I < ((1 : Int32) <<< (v1I &&& 31)) then (gd (okO σ v0R 3) <| gd (okO σ (aR σ v0R 2) 101) <| gd (inB v7I (aN σ (aR σ v0R 2))) <| if (aI σ (aR σ v0R 2) v7I.toNatClampNeg) < v5I then (L_Ls_makeLowBlocks_6 v0R v1I v2I v3I v4I v5I v6I v7I σ) else (letT (v6I ||| ((1 : Int32) <<< (v7I &&& 31))) fun x4 => L_Ls_makeLowBlocks_6 v0R v1I v2I v3I v4I v5I x4 v7I σ)) else (gd (okO σ v0R 3) <| gd (okO σ (aR σ v0R 9) 101) <| gd (inB ((v4I * v3I) + v5I) (aN σ (aR σ v0R 9))) <| letT (sI σ (aR σ v0R 9) ((v4I * v3I) + v5I).toNatClampNeg v6I) fun σ8 => L_Ls_makeLowBlocks_4 v0R v1I v2I v3I v4I (v5I + (1 : Int32)) σ8)) := by
  unfold L_Ls_makeLowBlocks_5
  rw [lp_eq]
  show lpK (lp F_Ls_makeLowBlocks) (T_Ls_makeLowBlocks_5 v0R v1I v2I v3I v4I v5I v6I v7I σ) = _
  unfold T_Ls_makeLowBlocks_5
  simp only [lpK_ite, lq_inl, lq_inr, lpK_bnd, lpK_gd, lq_let]
  try rfl
set_option maxRecDepth 20000 in
theorem E_Ls_makeLowBlocks_6 (v0R : Nat) (v1I : Int32) (v2I : Int32) (v3I : Int32) (v4I : Int32) (v5I : Int32) (v6I : Int32) (v7I : Int32) (σ : AM) : L_Ls_makeLowBlocks_6 v0R v1I v2I v3I v4I v5I v6I v7I σ = (L_Ls_makeLowBlocks_5 v0R v1I v2I v3I v4I v5I v6I (v7I + (1 : Int32)) σ) := by
  unfold L_Ls_makeLowBlocks_6
  rw [lp_eq]
  show lpK (lp F_Ls_makeLowBlocks) (T_Ls_makeLowBlocks_6 v0R v1I v2I v3I v4I v5I v6I v7I σ) = _
  unfold T_Ls_makeLowBlocks_6
  simp only [lpK_ite, lq_inl, lq_inr, lpK_bnd, lpK_gd, lq_let]
  try rfl
noncomputable def M_Ls_makeLowBlocks (v0R : Nat) (v1I : Int32) (σ : AM) : Option (Int32 × AM) := mw σ (L_Ls_makeLowBlocks_0 v0R v1I σ)
def I_Ls_makeLowBlocks (G : GX) (p : Program) (l : Launch) (e : Env) (s : State) (m : MethodId) (args : Array Value) (below : List Frame) (meth : Method) (c : Code) (z0 u0 n : Nat) : Prop :=
  (∀ (v0R : Nat) (v1I : Int32) (σ : AM), VX (QM eI G args s below z0 u0) G p l e s m args below meth c 3 z0 u0 8 (lpn F_Ls_makeLowBlocks n (0, v0R, v1I, 0, 0, 0, 0, 0, 0, σ)) 0 [(0, .ref v0R), (1, .int v1I)] [] σ) ∧
  (∀ (v0R : Nat) (v1I : Int32) (v2I : Int32) (v3I : Int32) (σ : AM), VX (QM eI G args s below z0 u0) G p l e s m args below meth c 3 z0 u0 8 (lpn F_Ls_makeLowBlocks n (1, v0R, v1I, v2I, v3I, 0, 0, 0, 0, σ)) 4 [(0, .ref v0R), (1, .int v1I), (2, .int v2I), (3, .int v3I)] [] σ) ∧
  (∀ (v0R : Nat) (v1I : Int32) (v2I : Int32) (v3I : Int32) (σ : AM), VX (QM eI G args s below z0 u0) G p l e s m args below meth c 3 z0 u0 8 (lpn F_Ls_makeLowBlocks n (2, v0R, v1I, v2I, v3I, 0, 0, 0, 0, σ)) 67 [(0, .ref v0R), (1, .int v1I), (2, .int v2I), (3, .int v3I)] [] σ) ∧
  (∀ (v0R : Nat) (v1I : Int32) (v2I : Int32) (v3I : Int32) (v4I : Int32) (σ : AM), VX (QM eI G args s below z0 u0) G p l e s m args below meth c 3 z0 u0 8 (lpn F_Ls_makeLowBlocks n (3, v0R, v1I, v2I, v3I, v4I, 0, 0, 0, σ)) 70 [(0, .ref v0R), (1, .int v1I), (2, .int v2I), (3, .int v3I), (4, .int v4I)] [] σ) ∧
  (∀ (v0R : Nat) (v1I : Int32) (v2I : Int32) (v3I : Int32) (v4I : Int32) (v5I : Int32) (σ : AM), VX (QM eI G args s below z0 u0) G p l e s m args below meth c 3 z0 u0 8 (lpn F_Ls_makeLowBlocks n (4, v0R, v1I, v2I, v3I, v4I, v5I, 0, 0, σ)) 85 [(0, .ref v0R), (1, .int v1I), (2, .int v2I), (3, .int v3I), (4, .int v4I), (5, .int v5I)] [] σ) ∧
  (∀ (v0R : Nat) (v1I : Int32) (v2I : Int32) (v3I : Int32) (v4I : Int32) (v5I : Int32) (v6I : Int32) (v7I : Int32) (σ : AM), VX (QM eI G args s below z0 u0) G p l e s m args below meth c 3 z0 u0 8 (lpn F_Ls_makeLowBlocks n (5, v0R, v1I, v2I, v3I, v4I, v5I, v6I, v7I, σ)) 97 [(0, .ref v0R), (1, .int v1I), (2, .int v2I), (3, .int v3I), (4, .int v4I), (5, .int v5I), (6, .int v6I), (7, .int v7I)] [] σ) ∧
  (∀ (v0R : Nat) (v1I : Int32) (v2I : Int32) (v3I : Int32) (v4I : Int32) (v5I : Int32) (v6I : Int32) (v7I : Int32) (σ : AM), VX (QM eI G args s below z0 u0) G p l e s m args below meth c 3 z0 u0 8 (lpn F_Ls_makeLowBlocks n (6, v0R, v1I, v2I, v3I, v4I, v5I, v6I, v7I, σ)) 126 [(0, .ref v0R), (1, .int v1I), (2, .int v2I), (3, .int v3I), (4, .int v4I), (5, .int v5I), (6, .int v6I), (7, .int v7I)] [] σ)
set_option maxRecDepth 20000 in
theorem s_Ls_makeLowBlocks_0 {G : GX} {p : Program} {l : Launch} {e : Env} {s : State} {m : MethodId} {args : Array Value} {below : List Frame} {meth : Method} {c : Code} {z0 u0 n : Nat} (C : Cx G p s m args meth c prog_6_method_15_code 8 "BellPlate$Lists" ((some FieldType.int))) (IH : I_Ls_makeLowBlocks G p l e s m args below meth c z0 u0 n) (v0R : Nat) (v1I : Int32) (σ : AM) : VX (QM eI G args s below z0 u0) G p l e s m args below meth c 3 z0 u0 8 (lpK (lpn F_Ls_makeLowBlocks n) (T_Ls_makeLowBlocks_0 v0R v1I σ)) 0 [(0, .ref v0R), (1, .int v1I)] [] σ := by
  unfold T_Ls_makeLowBlocks_0
  refine x_iconst (v := (1 : Int32)) C d_Ls_makeLowBlocks_0 (by decide) ?_
  refine x_istore_n (lv' := [(2, .int (1 : Int32)), (0, .ref v0R), (1, .int v1I)]) C d_Ls_makeLowBlocks_1 (by decide) rfl rfl ?_
  refine x_iconst (v := (0 : Int32)) C d_Ls_makeLowBlocks_2 (by decide) ?_
  refine x_istore_n (lv' := [(3, .int (0 : Int32)), (2, .int (1 : Int32)), (0, .ref v0R), (1, .int v1I)]) C d_Ls_makeLowBlocks_3 (by decide) rfl rfl ?_
  refine x_lv [2, 3, 1, 0] rfl ?_
  exact IH.2.1 v0R v1I ((1 : Int32)) ((0 : Int32)) (σ)
set_option maxRecDepth 20000 in
theorem s_Ls_makeLowBlocks_1 {G : GX} {p : Program} {l : Launch} {e : Env} {s : State} {m : MethodId} {args : Array Value} {below : List Frame} {meth : Method} {c : Code} {z0 u0 n : Nat} (C : Cx G p s m args meth c prog_6_method_15_code 8 "BellPlate$Lists" ((some FieldType.int))) (IH : I_Ls_makeLowBlocks G p l e s m args below meth c z0 u0 n) (v0R : Nat) (v1I : Int32) (v2I : Int32) (v3I : Int32) (σ : AM) : VX (QM eI G args s below z0 u0) G p l e s m args below meth c 3 z0 u0 8 (lpK (lpn F_Ls_makeLowBlocks n) (T_Ls_makeLowBlocks_1 v0R v1I v2I v3I σ)) 4 [(0, .ref v0R), (1, .int v1I), (2, .int v2I), (3, .int v3I)] [] σ := by
  unfold T_Ls_makeLowBlocks_1
  refine x_iload_n C d_Ls_makeLowBlocks_4 3 rfl ?_
  refine x_iload_n C d_Ls_makeLowBlocks_5 1 rfl ?_
  refine x_icmp_ge (tgt := 27) C d_Ls_makeLowBlocks_6 (by decide) (fun _ => ?_) (fun _ => ?_)
  · refine x_iload_n C d_Ls_makeLowBlocks_9 2 rfl ?_
    refine x_aload_n C d_Ls_makeLowBlocks_10 0 rfl ?_
    refine x_gd (fun h1 => ?_)
    refine x_gd (fun h2 => ?_)
    refine x_getR (k := 0) (kv := 1) C (okO_iff.mp h1) rfl j2_ok (by decide) rfl (okO_iff.mp h2) (by decide) w252 d_Ls_makeLowBlocks_11 ?_
    refine x_callVI (As := []) C (c_Tw_most G l (aR σ v0R 0)  σ) (okO_iff.mp h2) rfl w651 w652 w650 w653 w122 k_Tw_most rfl (by decide) (by decide) rfl (Nat.le_of_ble_eq_true rfl) d_Ls_makeLowBlocks_14 (fun r3 σ4 => ?_)
    refine x_iconst (v := (1 : Int32)) C d_Ls_makeLowBlocks_17 (by decide) ?_
    refine x_iadd C d_Ls_makeLowBlocks_18 ?_
    refine x_imul C d_Ls_makeLowBlocks_19 ?_
    refine x_letI (fun x5 _ => ?_)
    refine x_istore_n (lv' := [(2, .int x5), (0, .ref v0R), (1, .int v1I), (3, .int v3I)]) C d_Ls_makeLowBlocks_20 (by decide) rfl rfl ?_
    refine x_iinc (v := v3I + (1 : Int32)) (lv' := [(3, .int (v3I + (1 : Int32))), (2, .int x5), (0, .ref v0R), (1, .int v1I)]) C d_Ls_makeLowBlocks_21 3 rfl rfl (by decide) rfl ?_
    refine x_goto (tgt := 4) C d_Ls_makeLowBlocks_24 (by decide) ?_
    refine x_lv [2, 3, 1, 0] rfl ?_
    exact IH.2.1 v0R v1I x5 (v3I + (1 : Int32)) (σ4)
  · refine x_aload_n C d_Ls_makeLowBlocks_27 0 rfl ?_
    refine x_gd (fun h6 => ?_)
    refine x_gd (fun h7 => ?_)
    refine x_getR (k := 0) (kv := 1) C (okO_iff.mp h6) rfl j2_ok (by decide) rfl (okO_iff.mp h7) (by decide) w252 d_Ls_makeLowBlocks_28 ?_
    refine x_callVI (As := []) C (c_Tw_bar G l (aR σ v0R 0)  σ) (okO_iff.mp h7) rfl w655 w656 w654 w657 w122 k_Tw_bar rfl (by decide) (by decide) rfl (Nat.le_of_ble_eq_true rfl) d_Ls_makeLowBlocks_31 (fun r8 σ9 => ?_)
    refine x_iconst (v := (1 : Int32)) C d_Ls_makeLowBlocks_34 (by decide) ?_
    refine x_iadd C d_Ls_makeLowBlocks_35 ?_
    refine x_letI (fun x10 _ => ?_)
    refine x_istore_n (lv' := [(3, .int x10), (0, .ref v0R), (1, .int v1I), (2, .int v2I)]) C d_Ls_makeLowBlocks_36 (by decide) rfl rfl ?_
    refine x_iload_n C d_Ls_makeLowBlocks_37 3 rfl ?_
    refine x_iload_n C d_Ls_makeLowBlocks_38 0 rfl ?_
    refine x_imul C d_Ls_makeLowBlocks_39 ?_
    refine x_aload_n C d_Ls_makeLowBlocks_40 1 rfl ?_
    refine x_gd (fun h11 => ?_)
    refine x_gd (fun h12 => ?_)
    refine x_getR (k := 9) (kv := 101) C (okO_iff.mp h11) rfl j2_ok (by decide) rfl (okO_iff.mp h12) (by decide) w261 d_Ls_makeLowBlocks_41 ?_
    refine x_alen (t := 0) C (okO_iff.mp h12) (by decide) d_Ls_makeLowBlocks_44 ?_
    refine x_icmp_le (tgt := 67) C d_Ls_makeLowBlocks_45 (by decide) (fun _ => ?_) (fun _ => ?_)
    · refine x_aload_n C d_Ls_makeLowBlocks_48 1 rfl ?_
      refine x_iload_n C d_Ls_makeLowBlocks_49 3 rfl ?_
      refine x_iload_n C d_Ls_makeLowBlocks_50 0 rfl ?_
      refine x_imul C d_Ls_makeLowBlocks_51 ?_
      refine x_iconst (v := (2 : Int32)) C d_Ls_makeLowBlocks_52 (by decide) ?_
      refine x_aload_n C d_Ls_makeLowBlocks_53 1 rfl ?_
      refine x_getR (k := 9) (kv := 101) C (okO_iff.mp h11) rfl j2_ok (by decide) rfl (okO_iff.mp h12) (by decide) w261 d_Ls_makeLowBlocks_54 ?_
      refine x_alen (t := 0) C (okO_iff.mp h12) (by decide) d_Ls_makeLowBlocks_57 ?_
      refine x_imul C d_Ls_makeLowBlocks_58 ?_
      refine x_mmax C w637 (by decide) (Nat.le_of_ble_eq_true rfl) d_Ls_makeLowBlocks_59 ?_
      refine x_gd (fun h15 => ?_)
      refine x_newaI C w203 (okN_iff.mp h15).1 (okN_iff.mp h15).2 d_Ls_makeLowBlocks_62 ?_
      refine x_letS (fun σ13 e14 => ?_)
      refine x_gd (fun h16 => ?_)
      refine x_putR (k := 9) (kv := 101) C (okO_iff.mp h16) rfl j2_ok y2_ok n2_ok (by decide) rfl (fr_K e14) (by decide) rfl rfl rfl w261 d_Ls_makeLowBlocks_64 ?_
      refine x_letS (fun σ17 e18 => ?_)
      refine x_lv [1, 2, 3, 0] rfl ?_
      exact IH.2.2.1 v0R v1I v2I x10 (σ17)
    · refine x_lv [1, 2, 3, 0] rfl ?_
      exact IH.2.2.1 v0R v1I v2I x10 (σ9)
set_option maxRecDepth 20000 in
theorem s_Ls_makeLowBlocks_2 {G : GX} {p : Program} {l : Launch} {e : Env} {s : State} {m : MethodId} {args : Array Value} {below : List Frame} {meth : Method} {c : Code} {z0 u0 n : Nat} (C : Cx G p s m args meth c prog_6_method_15_code 8 "BellPlate$Lists" ((some FieldType.int))) (IH : I_Ls_makeLowBlocks G p l e s m args below meth c z0 u0 n) (v0R : Nat) (v1I : Int32) (v2I : Int32) (v3I : Int32) (σ : AM) : VX (QM eI G args s below z0 u0) G p l e s m args below meth c 3 z0 u0 8 (lpK (lpn F_Ls_makeLowBlocks n) (T_Ls_makeLowBlocks_2 v0R v1I v2I v3I σ)) 67 [(0, .ref v0R), (1, .int v1I), (2, .int v2I), (3, .int v3I)] [] σ := by
  unfold T_Ls_makeLowBlocks_2
  refine x_iconst (v := (0 : Int32)) C d_Ls_makeLowBlocks_67 (by decide) ?_
  refine x_istore (lv' := [(4, .int (0 : Int32)), (0, .ref v0R), (1, .int v1I), (2, .int v2I), (3, .int v3I)]) C d_Ls_makeLowBlocks_68 (by decide) rfl ?_
  refine x_lv [1, 2, 3, 4, 0] rfl ?_
  exact IH.2.2.2.1 v0R v1I v2I v3I ((0 : Int32)) (σ)
set_option maxRecDepth 20000 in
theorem s_Ls_makeLowBlocks_3 {G : GX} {p : Program} {l : Launch} {e : Env} {s : State} {m : MethodId} {args : Array Value} {below : List Frame} {meth : Method} {c : Code} {z0 u0 n : Nat} (C : Cx G p s m args meth c prog_6_method_15_code 8 "BellPlate$Lists" ((some FieldType.int))) (IH : I_Ls_makeLowBlocks G p l e s m args below meth c z0 u0 n) (v0R : Nat) (v1I : Int32) (v2I : Int32) (v3I : Int32) (v4I : Int32) (σ : AM) : VX (QM eI G args s below z0 u0) G p l e s m args below meth c 3 z0 u0 8 (lpK (lpn F_Ls_makeLowBlocks n) (T_Ls_makeLowBlocks_3 v0R v1I v2I v3I v4I σ)) 70 [(0, .ref v0R), (1, .int v1I), (2, .int v2I), (3, .int v3I), (4, .int v4I)] [] σ := by
  unfold T_Ls_makeLowBlocks_3
  refine x_iload C d_Ls_makeLowBlocks_70 4 rfl ?_
  refine x_iload_n C d_Ls_makeLowBlocks_72 2 rfl ?_
  refine x_icmp_ge (tgt := 158) C d_Ls_makeLowBlocks_73 (by decide) (fun _ => ?_) (fun _ => ?_)
  · refine x_aload_n C d_Ls_makeLowBlocks_76 0 rfl ?_
    refine x_iload C d_Ls_makeLowBlocks_77 4 rfl ?_
    refine x_gd (fun h3 => ?_)
    refine x_callVV (As := [.int v4I]) C (c_Ls_weigh G l v0R v4I σ) (okO_iff.mp h3) rfl w659 w660 w658 w661 w123 k_Ls_weigh rfl (by decide) (by decide) rfl (Nat.le_of_ble_eq_true rfl) d_Ls_makeLowBlocks_79 (fun r1 σ2 => ?_)
    refine x_iconst (v := (0 : Int32)) C d_Ls_makeLowBlocks_82 (by decide) ?_
    refine x_istore (lv' := [(5, .int (0 : Int32)), (0, .ref v0R), (1, .int v1I), (2, .int v2I), (3, .int v3I), (4, .int v4I)]) C d_Ls_makeLowBlocks_83 (by decide) rfl ?_
    refine x_lv [1, 2, 3, 4, 5, 0] rfl ?_
    exact IH.2.2.2.2.1 v0R v1I v2I v3I v4I ((0 : Int32)) (σ2)
  · refine x_iload_n C d_Ls_makeLowBlocks_158 2 rfl ?_
    exact x_iret C d_Ls_makeLowBlocks_159
set_option maxRecDepth 20000 in
theorem s_Ls_makeLowBlocks_4 {G : GX} {p : Program} {l : Launch} {e : Env} {s : State} {m : MethodId} {args : Array Value} {below : List Frame} {meth : Method} {c : Code} {z0 u0 n : Nat} (C : Cx G p s m args meth c prog_6_method_15_code 8 "BellPlate$Lists" ((some FieldType.int))) (IH : I_Ls_makeLowBlocks G p l e s m args below meth c z0 u0 n) (v0R : Nat) (v1I : Int32) (v2I : Int32) (v3I : Int32) (v4I : Int32) (v5I : Int32) (σ : AM) : VX (QM eI G args s below z0 u0) G p l e s m args below meth c 3 z0 u0 8 (lpK (lpn F_Ls_makeLowBlocks n) (T_Ls_makeLowBlocks_4 v0R v1I v2I v3I v4I v5I σ)) 85 [(0, .ref v0R), (1, .int v1I), (2, .int v2I), (3, .int v3I), (4, .int v4I), (5, .int v5I)] [] σ := by
  unfold T_Ls_makeLowBlocks_4
  refine x_iload C d_Ls_makeLowBlocks_85 5 rfl ?_
  refine x_iload_n C d_Ls_makeLowBlocks_87 3 rfl ?_
  refine x_icmp_ge (tgt := 152) C d_Ls_makeLowBlocks_88 (by decide) (fun _ => ?_) (fun _ => ?_)
  · refine x_iconst (v := (0 : Int32)) C d_Ls_makeLowBlocks_91 (by decide) ?_
    refine x_istore (lv' := [(6, .int (0 : Int32)), (0, .ref v0R), (1, .int v1I), (2, .int v2I), (3, .int v3I), (4, .int v4I), (5, .int v5I)]) C d_Ls_makeLowBlocks_92 (by decide) rfl ?_
    refine x_iconst (v := (0 : Int32)) C d_Ls_makeLowBlocks_94 (by decide) ?_
    refine x_istore (lv' := [(7, .int (0 : Int32)), (6, .int (0 : Int32)), (0, .ref v0R), (1, .int v1I), (2, .int v2I), (3, .int v3I), (4, .int v4I), (5, .int v5I)]) C d_Ls_makeLowBlocks_95 (by decide) rfl ?_
    refine x_lv [2, 3, 4, 5, 6, 7, 1, 0] rfl ?_
    exact IH.2.2.2.2.2.1 v0R v1I v2I v3I v4I v5I ((0 : Int32)) ((0 : Int32)) (σ)
  · refine x_iinc (v := v4I + (1 : Int32)) (lv' := [(4, .int (v4I + (1 : Int32))), (0, .ref v0R), (1, .int v1I), (2, .int v2I), (3, .int v3I), (5, .int v5I)]) C d_Ls_makeLowBlocks_152 4 rfl rfl (by decide) rfl ?_
    refine x_goto (tgt := 70) C d_Ls_makeLowBlocks_155 (by decide) ?_
    refine x_lv [1, 2, 3, 4, 0] rfl ?_
    exact IH.2.2.2.1 v0R v1I v2I v3I (v4I + (1 : Int32)) (σ)
set_option maxRecDepth 20000 in
theorem s_Ls_makeLowBlocks_5 {G : GX} {p : Program} {l : Launch} {e : Env} {s : State} {m : MethodId} {args : Array Value} {below : List Frame} {meth : Method} {c : Code} {z0 u0 n : Nat} (C : Cx G p s m args meth c prog_6_method_15_code 8 "BellPlate$Lists" ((some FieldType.int))) (IH : I_Ls_makeLowBlocks G p l e s m args below meth c z0 u0 n) (v0R : Nat) (v1I : Int32) (v2I : Int32) (v3I : Int32) (v4I : Int32) (v5I : Int32) (v6I : Int32) (v7I : Int32) (σ : AM) : VX (QM eI G args s below z0 u0) G p l e s m args below meth c 3 z0 u0 8 (lpK (lpn F_Ls_makeLowBlocks n) (T_Ls_makeLowBlocks_5 v0R v1I v2I v3I v4I v5I v6I v7I σ)) 97 [(0, .ref v0R), (1, .int v1I), (2, .int v2I), (3, .int v3I), (4, .int v4I), (5, .int v5I), (6, .int v6I), (7, .int v7I)] [] σ := by
  unfold T_Ls_makeLowBlocks_5
  refine x_iload C d_Ls_makeLowBlocks_97 7 rfl ?_
  refine x_iconst (v := (1 : Int32)) C d_Ls_makeLowBlocks_99 (by decide) ?_
  refine x_iload_n C d_Ls_makeLowBlocks_100 1 rfl ?_
  refine x_ishl C d_Ls_makeLowBlocks_101 ?_
  refine x_icmp_ge (tgt := 132) C d_Ls_makeLowBlocks_102 (by decide) (fun _ => ?_) (fun _ => ?_)
  · refine x_aload_n C d_Ls_makeLowBlocks_105 0 rfl ?_
    refine x_gd (fun h1 => ?_)
    refine x_gd (fun h2 => ?_)
    refine x_getR (k := 2) (kv := 101) C (okO_iff.mp h1) rfl j2_ok (by decide) rfl (okO_iff.mp h2) (by decide) w254 d_Ls_makeLowBlocks_106 ?_
    refine x_iload C d_Ls_makeLowBlocks_109 7 rfl ?_
    refine x_gd (fun h3 => ?_)
    refine x_aldI C (okO_iff.mp h2) (inB_iff.mp h3) d_Ls_makeLowBlocks_111 ?_
    refine x_iload C d_Ls_makeLowBlocks_112 5 rfl ?_
    refine x_icmp_lt (tgt := 126) C d_Ls_makeLowBlocks_114 (by decide) (fun _ => ?_) (fun _ => ?_)
    · exact IH.2.2.2.2.2.2 v0R v1I v2I v3I v4I v5I v6I v7I (σ)
    · refine x_iload C d_Ls_makeLowBlocks_117 6 rfl ?_
      refine x_iconst (v := (1 : Int32)) C d_Ls_makeLowBlocks_119 (by decide) ?_
      refine x_iload C d_Ls_makeLowBlocks_120 7 rfl ?_
      refine x_ishl C d_Ls_makeLowBlocks_122 ?_
      refine x_ior C d_Ls_makeLowBlocks_123 ?_
      refine x_letI (fun x4 _ => ?_)
      refine x_istore (lv' := [(6, .int x4), (0, .ref v0R), (1, .int v1I), (2, .int v2I), (3, .int v3I), (4, .int v4I), (5, .int v5I), (7, .int v7I)]) C d_Ls_makeLowBlocks_124 (by decide) rfl ?_
      refine x_lv [1, 2, 3, 4, 5, 6, 0, 7] rfl ?_
      exact IH.2.2.2.2.2.2 v0R v1I v2I v3I v4I v5I x4 v7I (σ)
  · refine x_aload_n C d_Ls_makeLowBlocks_132 0 rfl ?_
    refine x_gd (fun h5 => ?_)
    refine x_gd (fun h6 => ?_)
    refine x_getR (k := 9) (kv := 101) C (okO_iff.mp h5) rfl j2_ok (by decide) rfl (okO_iff.mp h6) (by decide) w261 d_Ls_makeLowBlocks_133 ?_
    refine x_iload C d_Ls_makeLowBlocks_136 4 rfl ?_
    refine x_iload_n C d_Ls_makeLowBlocks_138 3 rfl ?_
    refine x_imul C d_Ls_makeLowBlocks_139 ?_
    refine x_iload C d_Ls_makeLowBlocks_140 5 rfl ?_
    refine x_iadd C d_Ls_makeLowBlocks_142 ?_
    refine x_iload C d_Ls_makeLowBlocks_143 6 rfl ?_
    refine x_gd (fun h7 => ?_)
    refine x_astI C (okO_iff.mp h6) (inB_iff.mp h7) d_Ls_makeLowBlocks_145 ?_
    refine x_letS (fun σ8 e9 => ?_)
    refine x_iinc (v := v5I + (1 : Int32)) (lv' := [(5, .int (v5I + (1 : Int32))), (0, .ref v0R), (1, .int v1I), (2, .int v2I), (3, .int v3I), (4, .int v4I), (6, .int v6I), (7, .int v7I)]) C d_Ls_makeLowBlocks_146 5 rfl rfl (by decide) rfl ?_
    refine x_goto (tgt := 85) C d_Ls_makeLowBlocks_149 (by decide) ?_
    refine x_lv [1, 2, 3, 4, 5, 0] rfl ?_
    exact IH.2.2.2.2.1 v0R v1I v2I v3I v4I (v5I + (1 : Int32)) (σ8)
set_option maxRecDepth 20000 in
theorem s_Ls_makeLowBlocks_6 {G : GX} {p : Program} {l : Launch} {e : Env} {s : State} {m : MethodId} {args : Array Value} {below : List Frame} {meth : Method} {c : Code} {z0 u0 n : Nat} (C : Cx G p s m args meth c prog_6_method_15_code 8 "BellPlate$Lists" ((some FieldType.int))) (IH : I_Ls_makeLowBlocks G p l e s m args below meth c z0 u0 n) (v0R : Nat) (v1I : Int32) (v2I : Int32) (v3I : Int32) (v4I : Int32) (v5I : Int32) (v6I : Int32) (v7I : Int32) (σ : AM) : VX (QM eI G args s below z0 u0) G p l e s m args below meth c 3 z0 u0 8 (lpK (lpn F_Ls_makeLowBlocks n) (T_Ls_makeLowBlocks_6 v0R v1I v2I v3I v4I v5I v6I v7I σ)) 126 [(0, .ref v0R), (1, .int v1I), (2, .int v2I), (3, .int v3I), (4, .int v4I), (5, .int v5I), (6, .int v6I), (7, .int v7I)] [] σ := by
  unfold T_Ls_makeLowBlocks_6
  refine x_iinc (v := v7I + (1 : Int32)) (lv' := [(7, .int (v7I + (1 : Int32))), (0, .ref v0R), (1, .int v1I), (2, .int v2I), (3, .int v3I), (4, .int v4I), (5, .int v5I), (6, .int v6I)]) C d_Ls_makeLowBlocks_126 7 rfl rfl (by decide) rfl ?_
  refine x_goto (tgt := 97) C d_Ls_makeLowBlocks_129 (by decide) ?_
  refine x_lv [1, 2, 3, 4, 5, 6, 7, 0] rfl ?_
  exact IH.2.2.2.2.2.1 v0R v1I v2I v3I v4I v5I v6I (v7I + (1 : Int32)) (σ)
theorem i_Ls_makeLowBlocks {G : GX} {p : Program} {l : Launch} {e : Env} {s : State} {m : MethodId} {args : Array Value} {below : List Frame} {meth : Method} {c : Code} {z0 u0 : Nat} (C : Cx G p s m args meth c prog_6_method_15_code 8 "BellPlate$Lists" ((some FieldType.int))) (n : Nat) : I_Ls_makeLowBlocks G p l e s m args below meth c z0 u0 n := by
  induction n with
  | zero => exact ⟨fun _ _ _ => x_none, fun _ _ _ _ _ => x_none, fun _ _ _ _ _ => x_none, fun _ _ _ _ _ _ => x_none, fun _ _ _ _ _ _ _ => x_none, fun _ _ _ _ _ _ _ _ _ => x_none, fun _ _ _ _ _ _ _ _ _ => x_none⟩
  | succ n IH => exact ⟨fun v0R v1I σ => s_Ls_makeLowBlocks_0 C IH v0R v1I σ, fun v0R v1I v2I v3I σ => s_Ls_makeLowBlocks_1 C IH v0R v1I v2I v3I σ, fun v0R v1I v2I v3I σ => s_Ls_makeLowBlocks_2 C IH v0R v1I v2I v3I σ, fun v0R v1I v2I v3I v4I σ => s_Ls_makeLowBlocks_3 C IH v0R v1I v2I v3I v4I σ, fun v0R v1I v2I v3I v4I v5I σ => s_Ls_makeLowBlocks_4 C IH v0R v1I v2I v3I v4I v5I σ, fun v0R v1I v2I v3I v4I v5I v6I v7I σ => s_Ls_makeLowBlocks_5 C IH v0R v1I v2I v3I v4I v5I v6I v7I σ, fun v0R v1I v2I v3I v4I v5I v6I v7I σ => s_Ls_makeLowBlocks_6 C IH v0R v1I v2I v3I v4I v5I v6I v7I σ⟩
theorem c_Ls_makeLowBlocks (G : GX) (l : Launch) (v0R : Nat) (v1I : Int32) (σ : AM) : CT eI G l 3 y_Ls_makeLowBlocks prog_6_method_15_code 8 ((some FieldType.int)) [.ref v0R, .int v1I] σ (M_Ls_makeLowBlocks v0R v1I σ) := by
  refine ct_of (by decide +kernel) (Nat.le_of_ble_eq_true rfl) (fun p e s m args below meth c C hin => ?_)
  refine x_lve (lv' := [(0, .ref v0R), (1, .int v1I)]) rfl ?_
  intro r σ' h
  obtain ⟨n, hn⟩ := (lp_iff _ _ _).mp h
  exact (i_Ls_makeLowBlocks C n).1 v0R v1I σ r σ' hn
/-! BellPlate$Lists.weighHigh(I)V -/
abbrev y_Ls_weighHigh : MethodName := ⟨"BellPlate$Lists", "weighHigh", "(I)V"⟩
theorem k_Ls_weighHigh : y_Ls_weighHigh.cls ≠ "java/lang/invoke/MethodHandle" ∧ y_Ls_weighHigh.cls ≠ "java/lang/invoke/VarHandle" ∧ (parseMethodDescriptor y_Ls_weighHigh.desc).map (fun d => d.parameters.length) = some 1 := by decide +kernel
theorem d_Ls_weighHigh_0 : decode prog_6_method_16_code 0 = .ok (.iconst 0, 1) := by decide +kernel
theorem d_Ls_weighHigh_1 : decode prog_6_method_16_code 1 = .ok (.istore_n 2, 1) := by decide +kernel
theorem d_Ls_weighHigh_2 : decode prog_6_method_16_code 2 = .ok (.iload_n 2, 1) := by decide +kernel
theorem d_Ls_weighHigh_3 : decode prog_6_method_16_code 3 = .ok (.iconst 1, 1) := by decide +kernel
theorem d_Ls_weighHigh_4 : decode prog_6_method_16_code 4 = .ok (.aload_n 0, 1) := by decide +kernel
theorem d_Ls_weighHigh_5 : decode prog_6_method_16_code 5 = .ok (.getfield 9, 3) := by decide +kernel
theorem d_Ls_weighHigh_8 : decode prog_6_method_16_code 8 = .ok (.invokevirtual 78, 3) := by decide +kernel
theorem d_Ls_weighHigh_11 : decode prog_6_method_16_code 11 = .ok (.iload_n 1, 1) := by decide +kernel
theorem d_Ls_weighHigh_12 : decode prog_6_method_16_code 12 = .ok (.isub, 1) := by decide +kernel
theorem d_Ls_weighHigh_13 : decode prog_6_method_16_code 13 = .ok (.ishl, 1) := by decide +kernel
theorem d_Ls_weighHigh_14 : decode prog_6_method_16_code 14 = .ok (.if_icmp .ge 25, 3) := by decide +kernel
theorem d_Ls_weighHigh_17 : decode prog_6_method_16_code 17 = .ok (.aload_n 0, 1) := by decide +kernel
theorem d_Ls_weighHigh_18 : decode prog_6_method_16_code 18 = .ok (.getfield 26, 3) := by decide +kernel
theorem d_Ls_weighHigh_21 : decode prog_6_method_16_code 21 = .ok (.iload_n 2, 1) := by decide +kernel
theorem d_Ls_weighHigh_22 : decode prog_6_method_16_code 22 = .ok (.iload_n 2, 1) := by decide +kernel
theorem d_Ls_weighHigh_23 : decode prog_6_method_16_code 23 = .ok (.iload_n 1, 1) := by decide +kernel
theorem d_Ls_weighHigh_24 : decode prog_6_method_16_code 24 = .ok (.ishl, 1) := by decide +kernel
theorem d_Ls_weighHigh_25 : decode prog_6_method_16_code 25 = .ok (.aload_n 0, 1) := by decide +kernel
theorem d_Ls_weighHigh_26 : decode prog_6_method_16_code 26 = .ok (.getfield 17, 3) := by decide +kernel
theorem d_Ls_weighHigh_29 : decode prog_6_method_16_code 29 = .ok (.invokestatic 132, 3) := by decide +kernel
theorem d_Ls_weighHigh_32 : decode prog_6_method_16_code 32 = .ok (.iastore, 1) := by decide +kernel
theorem d_Ls_weighHigh_33 : decode prog_6_method_16_code 33 = .ok (.iinc 2 1, 3) := by decide +kernel
theorem d_Ls_weighHigh_36 : decode prog_6_method_16_code 36 = .ok (.goto (-34), 3) := by decide +kernel
theorem d_Ls_weighHigh_39 : decode prog_6_method_16_code 39 = .ok (.return_, 1) := by decide +kernel
abbrev S_Ls_weighHigh : Type := Nat × Nat × Int32 × Int32 × AM
noncomputable def T_Ls_weighHigh_0 (v0R : Nat) (v1I : Int32) (σ : AM) : S_Ls_weighHigh ⊕ Option (Unit × AM) :=
  .inl (1, v0R, v1I, (0 : Int32), σ)
noncomputable def T_Ls_weighHigh_1 (v0R : Nat) (v1I : Int32) (v2I : Int32) (σ : AM) : S_Ls_weighHigh ⊕ Option (Unit × AM) :=
  gdT (okO σ v0R 3) <| gdT (okO σ (aR σ v0R 0) 1) <| bndT (M_Tw_things (aR σ v0R 0) σ) fun r3 σ4 => if v2I < ((1 : Int32) <<< ((r3 - v1I) &&& 31)) then (gdT (okO σ4 v0R 3) <| gdT (okO σ4 (aR σ4 v0R 3) 101) <| gdT (okO σ4 (aR σ4 v0R 1) 101) <| bndT (M_Tw_sumOf (v2I <<< (v1I &&& 31)) (aR σ4 v0R 1) σ4) fun r8 σ9 => gdT (okO σ9 (aR σ4 v0R 3) 101) <| gdT (inB v2I (aN σ9 (aR σ4 v0R 3))) <| letT (sI σ9 (aR σ4 v0R 3) v2I.toNatClampNeg r8) fun σ12 => .inl (1, v0R, v1I, v2I + (1 : Int32), σ12)) else (.inr (some ((), σ4)))
noncomputable def F_Ls_weighHigh : S_Ls_weighHigh → S_Ls_weighHigh ⊕ Option (Unit × AM) := fun s => match s.1 with
  | 0 => T_Ls_weighHigh_0 (s.2.1) (s.2.2.1) (s.2.2.2.2)
  | _ => T_Ls_weighHigh_1 (s.2.1) (s.2.2.1) (s.2.2.2.1) (s.2.2.2.2)
noncomputable def L_Ls_weighHigh_0 (v0R : Nat) (v1I : Int32) (σ : AM) : Option (Unit × AM) := lp F_Ls_weighHigh (0, v0R, v1I, 0, σ)
noncomputable def L_Ls_weighHigh_1 (v0R : Nat) (v1I : Int32) (v2I : Int32) (σ : AM) : Option (Unit × AM) := lp F_Ls_weighHigh (1, v0R, v1I, v2I, σ)
set_option maxRecDepth 20000 in
theorem E_Ls_weighHigh_0 (v0R : Nat) (v1I : Int32) (σ : AM) : L_Ls_weighHigh_0 v0R v1I σ = (L_Ls_weighHigh_1 v0R v1I ((0 : Int32)) σ) := by
  unfold L_Ls_weighHigh_0
  rw [lp_eq]
  show lpK (lp F_Ls_weighHigh) (T_Ls_weighHigh_0 v0R v1I σ) = _
  unfold T_Ls_weighHigh_0
  simp only [lpK_ite, lq_inl, lq_inr, lpK_bnd, lpK_gd, lq_let]
  try rfl
set_option maxRecDepth 20000 in
theorem E_Ls_weighHigh_1 (v0R : Nat) (v1I : Int32) (v2I : Int32) (σ : AM) : L_Ls_weighHigh_1 v0R v1I v2I σ = (gd (okO σ v0R 3) <| gd (okO σ (aR σ v0R 0) 1) <| bnd (M_Tw_things (aR σ v0R 0) σ) fun r3 σ4 => if v2I < ((1 : Int32) <<< ((r3 - v1I) &&& 31)) then (gd (okO σ4 v0R 3) <| gd (okO σ4 (aR σ4 v0R 3) 101) <| gd (okO σ4 (aR σ4 v0R 1) 101) <| bnd (M_Tw_sumOf (v2I <<< (v1I &&& 31)) (aR σ4 v0R 1) σ4) fun r8 σ9 => gd (okO σ9 (aR σ4 v0R 3) 101) <| gd (inB v2I (aN σ9 (aR σ4 v0R 3))) <| letT (sI σ9 (aR σ4 v0R 3) v2I.toNatClampNeg r8) fun σ12 => L_Ls_weighHigh_1 v0R v1I (v2I + (1 : Int32)) σ12) else ((some ((), σ4)))) := by
  unfold L_Ls_weighHigh_1
  rw [lp_eq]
  show lpK (lp F_Ls_weighHigh) (T_Ls_weighHigh_1 v0R v1I v2I σ) = _
  unfold T_Ls_weighHigh_1
  simp only [lpK_ite, lq_inl, lq_inr, lpK_bnd, lpK_gd, lq_let]
  try rfl
noncomputable def M_Ls_weighHigh (v0R : Nat) (v1I : Int32) (σ : AM) : Option (Unit × AM) := mw σ (L_Ls_weighHigh_0 v0R v1I σ)
def I_Ls_weighHigh (G : GX) (p : Program) (l : Launch) (e : Env) (s : State) (m : MethodId) (args : Array Value) (below : List Frame) (meth : Method) (c : Code) (z0 u0 n : Nat) : Prop :=
  (∀ (v0R : Nat) (v1I : Int32) (σ : AM), VX (QM eV G args s below z0 u0) G p l e s m args below meth c 1 z0 u0 3 (lpn F_Ls_weighHigh n (0, v0R, v1I, 0, σ)) 0 [(0, .ref v0R), (1, .int v1I)] [] σ) ∧
  (∀ (v0R : Nat) (v1I : Int32) (v2I : Int32) (σ : AM), VX (QM eV G args s below z0 u0) G p l e s m args below meth c 1 z0 u0 3 (lpn F_Ls_weighHigh n (1, v0R, v1I, v2I, σ)) 2 [(0, .ref v0R), (1, .int v1I), (2, .int v2I)] [] σ)
set_option maxRecDepth 20000 in
theorem s_Ls_weighHigh_0 {G : GX} {p : Program} {l : Launch} {e : Env} {s : State} {m : MethodId} {args : Array Value} {below : List Frame} {meth : Method} {c : Code} {z0 u0 n : Nat} (C : Cx G p s m args meth c prog_6_method_16_code 3 "BellPlate$Lists" ((none))) (IH : I_Ls_weighHigh G p l e s m args below meth c z0 u0 n) (v0R : Nat) (v1I : Int32) (σ : AM) : VX (QM eV G args s below z0 u0) G p l e s m args below meth c 1 z0 u0 3 (lpK (lpn F_Ls_weighHigh n) (T_Ls_weighHigh_0 v0R v1I σ)) 0 [(0, .ref v0R), (1, .int v1I)] [] σ := by
  unfold T_Ls_weighHigh_0
  refine x_iconst (v := (0 : Int32)) C d_Ls_weighHigh_0 (by decide) ?_
  refine x_istore_n (lv' := [(2, .int (0 : Int32)), (0, .ref v0R), (1, .int v1I)]) C d_Ls_weighHigh_1 (by decide) rfl rfl ?_
  refine x_lv [1, 2, 0] rfl ?_
  exact IH.2 v0R v1I ((0 : Int32)) (σ)
set_option maxRecDepth 20000 in
theorem s_Ls_weighHigh_1 {G : GX} {p : Program} {l : Launch} {e : Env} {s : State} {m : MethodId} {args : Array Value} {below : List Frame} {meth : Method} {c : Code} {z0 u0 n : Nat} (C : Cx G p s m args meth c prog_6_method_16_code 3 "BellPlate$Lists" ((none))) (IH : I_Ls_weighHigh G p l e s m args below meth c z0 u0 n) (v0R : Nat) (v1I : Int32) (v2I : Int32) (σ : AM) : VX (QM eV G args s below z0 u0) G p l e s m args below meth c 1 z0 u0 3 (lpK (lpn F_Ls_weighHigh n) (T_Ls_weighHigh_1 v0R v1I v2I σ)) 2 [(0, .ref v0R), (1, .int v1I), (2, .int v2I)] [] σ := by
  unfold T_Ls_weighHigh_1
  refine x_iload_n C d_Ls_weighHigh_2 2 rfl ?_
  refine x_iconst (v := (1 : Int32)) C d_Ls_weighHigh_3 (by decide) ?_
  refine x_aload_n C d_Ls_weighHigh_4 0 rfl ?_
  refine x_gd (fun h1 => ?_)
  refine x_gd (fun h2 => ?_)
  refine x_getR (k := 0) (kv := 1) C (okO_iff.mp h1) rfl j2_ok (by decide) rfl (okO_iff.mp h2) (by decide) w252 d_Ls_weighHigh_5 ?_
  refine x_callVI (As := []) C (c_Tw_things G l (aR σ v0R 0)  σ) (okO_iff.mp h2) rfl w643 w644 w642 w645 w122 k_Tw_things rfl (by decide) (by decide) rfl (Nat.le_of_ble_eq_true rfl) d_Ls_weighHigh_8 (fun r3 σ4 => ?_)
  refine x_iload_n C d_Ls_weighHigh_11 1 rfl ?_
  refine x_isub C d_Ls_weighHigh_12 ?_
  refine x_ishl C d_Ls_weighHigh_13 ?_
  refine x_icmp_ge (tgt := 39) C d_Ls_weighHigh_14 (by decide) (fun _ => ?_) (fun _ => ?_)
  · refine x_aload_n C d_Ls_weighHigh_17 0 rfl ?_
    refine x_gd (fun h5 => ?_)
    refine x_gd (fun h6 => ?_)
    refine x_getR (k := 3) (kv := 101) C (okO_iff.mp h5) rfl j2_ok (by decide) rfl (okO_iff.mp h6) (by decide) w255 d_Ls_weighHigh_18 ?_
    refine x_iload_n C d_Ls_weighHigh_21 2 rfl ?_
    refine x_iload_n C d_Ls_weighHigh_22 2 rfl ?_
    refine x_iload_n C d_Ls_weighHigh_23 1 rfl ?_
    refine x_ishl C d_Ls_weighHigh_24 ?_
    refine x_aload_n C d_Ls_weighHigh_25 0 rfl ?_
    refine x_gd (fun h7 => ?_)
    refine x_getR (k := 1) (kv := 101) C (okO_iff.mp h5) rfl j2_ok (by decide) rfl (okO_iff.mp h7) (by decide) w253 d_Ls_weighHigh_26 ?_
    refine x_callSI (As := [.int (v2I <<< (v1I &&& 31)), .ref (aR σ4 v0R 1)]) C (c_Tw_sumOf G l (v2I <<< (v1I &&& 31)) (aR σ4 v0R 1) σ4) w671 w670 w672 w122 k_Tw_sumOf rfl (by decide) (by decide) rfl (Nat.le_of_ble_eq_true rfl) d_Ls_weighHigh_29 (fun r8 σ9 => ?_)
    refine x_gd (fun h10 => ?_)
    refine x_gd (fun h11 => ?_)
    refine x_astI C (okO_iff.mp h10) (inB_iff.mp h11) d_Ls_weighHigh_32 ?_
    refine x_letS (fun σ12 e13 => ?_)
    refine x_iinc (v := v2I + (1 : Int32)) (lv' := [(2, .int (v2I + (1 : Int32))), (0, .ref v0R), (1, .int v1I)]) C d_Ls_weighHigh_33 2 rfl rfl (by decide) rfl ?_
    refine x_goto (tgt := 2) C d_Ls_weighHigh_36 (by decide) ?_
    refine x_lv [1, 2, 0] rfl ?_
    exact IH.2 v0R v1I (v2I + (1 : Int32)) (σ12)
  · exact x_vret C d_Ls_weighHigh_39
theorem i_Ls_weighHigh {G : GX} {p : Program} {l : Launch} {e : Env} {s : State} {m : MethodId} {args : Array Value} {below : List Frame} {meth : Method} {c : Code} {z0 u0 : Nat} (C : Cx G p s m args meth c prog_6_method_16_code 3 "BellPlate$Lists" ((none))) (n : Nat) : I_Ls_weighHigh G p l e s m args below meth c z0 u0 n := by
  induction n with
  | zero => exact ⟨fun _ _ _ => x_none, fun _ _ _ _ => x_none⟩
  | succ n IH => exact ⟨fun v0R v1I σ => s_Ls_weighHigh_0 C IH v0R v1I σ, fun v0R v1I v2I σ => s_Ls_weighHigh_1 C IH v0R v1I v2I σ⟩
theorem c_Ls_weighHigh (G : GX) (l : Launch) (v0R : Nat) (v1I : Int32) (σ : AM) : CT eV G l 1 y_Ls_weighHigh prog_6_method_16_code 3 (none) [.ref v0R, .int v1I] σ (M_Ls_weighHigh v0R v1I σ) := by
  refine ct_of (by decide +kernel) (Nat.le_of_ble_eq_true rfl) (fun p e s m args below meth c C hin => ?_)
  refine x_lve (lv' := [(0, .ref v0R), (1, .int v1I)]) rfl ?_
  intro r σ' h
  obtain ⟨n, hn⟩ := (lp_iff _ _ _).mp h
  exact (i_Ls_weighHigh C n).1 v0R v1I σ r σ' hn
/-! BellPlate$Lists.joinBlocks(II)J -/
abbrev y_Ls_joinBlocks : MethodName := ⟨"BellPlate$Lists", "joinBlocks", "(II)J"⟩
theorem k_Ls_joinBlocks : y_Ls_joinBlocks.cls ≠ "java/lang/invoke/MethodHandle" ∧ y_Ls_joinBlocks.cls ≠ "java/lang/invoke/VarHandle" ∧ (parseMethodDescriptor y_Ls_joinBlocks.desc).map (fun d => d.parameters.length) = some 2 := by decide +kernel
theorem d_Ls_joinBlocks_0 : decode prog_6_method_17_code 0 = .ok (.iload_n 1, 1) := by decide +kernel
theorem d_Ls_joinBlocks_1 : decode prog_6_method_17_code 1 = .ok (.aload_n 0, 1) := by decide +kernel
theorem d_Ls_joinBlocks_2 : decode prog_6_method_17_code 2 = .ok (.getfield 9, 3) := by decide +kernel
theorem d_Ls_joinBlocks_5 : decode prog_6_method_17_code 5 = .ok (.invokevirtual 71, 3) := by decide +kernel
theorem d_Ls_joinBlocks_8 : decode prog_6_method_17_code 8 = .ok (.iconst 1, 1) := by decide +kernel
theorem d_Ls_joinBlocks_9 : decode prog_6_method_17_code 9 = .ok (.iadd, 1) := by decide +kernel
theorem d_Ls_joinBlocks_10 : decode prog_6_method_17_code 10 = .ok (.imul, 1) := by decide +kernel
theorem d_Ls_joinBlocks_11 : decode prog_6_method_17_code 11 = .ok (.istore_n 3, 1) := by decide +kernel
theorem d_Ls_joinBlocks_12 : decode prog_6_method_17_code 12 = .ok (.iconst 1, 1) := by decide +kernel
theorem d_Ls_joinBlocks_13 : decode prog_6_method_17_code 13 = .ok (.iload_n 2, 1) := by decide +kernel
theorem d_Ls_joinBlocks_14 : decode prog_6_method_17_code 14 = .ok (.ishl, 1) := by decide +kernel
theorem d_Ls_joinBlocks_15 : decode prog_6_method_17_code 15 = .ok (.istore 4, 2) := by decide +kernel
theorem d_Ls_joinBlocks_17 : decode prog_6_method_17_code 17 = .ok (.lconst 0, 1) := by decide +kernel
theorem d_Ls_joinBlocks_18 : decode prog_6_method_17_code 18 = .ok (.lstore 5, 2) := by decide +kernel
theorem d_Ls_joinBlocks_20 : decode prog_6_method_17_code 20 = .ok (.iconst 0, 1) := by decide +kernel
theorem d_Ls_joinBlocks_21 : decode prog_6_method_17_code 21 = .ok (.istore 7, 2) := by decide +kernel
theorem d_Ls_joinBlocks_23 : decode prog_6_method_17_code 23 = .ok (.iload 7, 2) := by decide +kernel
theorem d_Ls_joinBlocks_25 : decode prog_6_method_17_code 25 = .ok (.iconst 1, 1) := by decide +kernel
theorem d_Ls_joinBlocks_26 : decode prog_6_method_17_code 26 = .ok (.aload_n 0, 1) := by decide +kernel
theorem d_Ls_joinBlocks_27 : decode prog_6_method_17_code 27 = .ok (.getfield 9, 3) := by decide +kernel
theorem d_Ls_joinBlocks_30 : decode prog_6_method_17_code 30 = .ok (.invokevirtual 78, 3) := by decide +kernel
theorem d_Ls_joinBlocks_33 : decode prog_6_method_17_code 33 = .ok (.iload_n 2, 1) := by decide +kernel
theorem d_Ls_joinBlocks_34 : decode prog_6_method_17_code 34 = .ok (.isub, 1) := by decide +kernel
theorem d_Ls_joinBlocks_35 : decode prog_6_method_17_code 35 = .ok (.ishl, 1) := by decide +kernel
theorem d_Ls_joinBlocks_36 : decode prog_6_method_17_code 36 = .ok (.if_icmp .ge 51, 3) := by decide +kernel
theorem d_Ls_joinBlocks_39 : decode prog_6_method_17_code 39 = .ok (.iconst 0, 1) := by decide +kernel
theorem d_Ls_joinBlocks_40 : decode prog_6_method_17_code 40 = .ok (.aload_n 0, 1) := by decide +kernel
theorem d_Ls_joinBlocks_41 : decode prog_6_method_17_code 41 = .ok (.getfield 9, 3) := by decide +kernel
theorem d_Ls_joinBlocks_44 : decode prog_6_method_17_code 44 = .ok (.invokevirtual 71, 3) := by decide +kernel
theorem d_Ls_joinBlocks_47 : decode prog_6_method_17_code 47 = .ok (.aload_n 0, 1) := by decide +kernel
theorem d_Ls_joinBlocks_48 : decode prog_6_method_17_code 48 = .ok (.getfield 26, 3) := by decide +kernel
theorem d_Ls_joinBlocks_51 : decode prog_6_method_17_code 51 = .ok (.iload 7, 2) := by decide +kernel
theorem d_Ls_joinBlocks_53 : decode prog_6_method_17_code 53 = .ok (.iaload, 1) := by decide +kernel
theorem d_Ls_joinBlocks_54 : decode prog_6_method_17_code 54 = .ok (.isub, 1) := by decide +kernel
theorem d_Ls_joinBlocks_55 : decode prog_6_method_17_code 55 = .ok (.invokestatic 117, 3) := by decide +kernel
theorem d_Ls_joinBlocks_58 : decode prog_6_method_17_code 58 = .ok (.istore 8, 2) := by decide +kernel
theorem d_Ls_joinBlocks_60 : decode prog_6_method_17_code 60 = .ok (.lload 5, 2) := by decide +kernel
theorem d_Ls_joinBlocks_62 : decode prog_6_method_17_code 62 = .ok (.aload_n 0, 1) := by decide +kernel
theorem d_Ls_joinBlocks_63 : decode prog_6_method_17_code 63 = .ok (.getfield 45, 3) := by decide +kernel
theorem d_Ls_joinBlocks_66 : decode prog_6_method_17_code 66 = .ok (.iload_n 3, 1) := by decide +kernel
theorem d_Ls_joinBlocks_67 : decode prog_6_method_17_code 67 = .ok (.iload 8, 2) := by decide +kernel
theorem d_Ls_joinBlocks_69 : decode prog_6_method_17_code 69 = .ok (.iadd, 1) := by decide +kernel
theorem d_Ls_joinBlocks_70 : decode prog_6_method_17_code 70 = .ok (.iaload, 1) := by decide +kernel
theorem d_Ls_joinBlocks_71 : decode prog_6_method_17_code 71 = .ok (.i2l, 1) := by decide +kernel
theorem d_Ls_joinBlocks_72 : decode prog_6_method_17_code 72 = .ok (.iload 7, 2) := by decide +kernel
theorem d_Ls_joinBlocks_74 : decode prog_6_method_17_code 74 = .ok (.iload 4, 2) := by decide +kernel
theorem d_Ls_joinBlocks_76 : decode prog_6_method_17_code 76 = .ok (.imul, 1) := by decide +kernel
theorem d_Ls_joinBlocks_77 : decode prog_6_method_17_code 77 = .ok (.lshl, 1) := by decide +kernel
theorem d_Ls_joinBlocks_78 : decode prog_6_method_17_code 78 = .ok (.lor, 1) := by decide +kernel
theorem d_Ls_joinBlocks_79 : decode prog_6_method_17_code 79 = .ok (.lstore 5, 2) := by decide +kernel
theorem d_Ls_joinBlocks_81 : decode prog_6_method_17_code 81 = .ok (.iinc 7 1, 3) := by decide +kernel
theorem d_Ls_joinBlocks_84 : decode prog_6_method_17_code 84 = .ok (.goto (-61), 3) := by decide +kernel
theorem d_Ls_joinBlocks_87 : decode prog_6_method_17_code 87 = .ok (.lload 5, 2) := by decide +kernel
theorem d_Ls_joinBlocks_89 : decode prog_6_method_17_code 89 = .ok (.lreturn, 1) := by decide +kernel
abbrev S_Ls_joinBlocks : Type := Nat × Nat × Int32 × Int32 × Int32 × Int32 × Int64 × Int32 × AM
noncomputable def T_Ls_joinBlocks_0 (v0R : Nat) (v1I : Int32) (v2I : Int32) (σ : AM) : S_Ls_joinBlocks ⊕ Option (Int64 × AM) :=
  gdT (okO σ v0R 3) <| gdT (okO σ (aR σ v0R 0) 1) <| bndT (M_Tw_bar (aR σ v0R 0) σ) fun r3 σ4 => letT (v1I * (r3 + (1 : Int32))) fun x5 => letT ((1 : Int32) <<< (v2I &&& 31)) fun x6 => .inl (1, v0R, 0, v2I, x5, x6, (0 : Int64), (0 : Int32), σ4)
noncomputable def T_Ls_joinBlocks_1 (v0R : Nat) (v2I : Int32) (v3I : Int32) (v4I : Int32) (v5J : Int64) (v7I : Int32) (σ : AM) : S_Ls_joinBlocks ⊕ Option (Int64 × AM) :=
  gdT (okO σ v0R 3) <| gdT (okO σ (aR σ v0R 0) 1) <| bndT (M_Tw_things (aR σ v0R 0) σ) fun r3 σ4 => if v7I < ((1 : Int32) <<< ((r3 - v2I) &&& 31)) then (gdT (okO σ4 v0R 3) <| gdT (okO σ4 (aR σ4 v0R 0) 1) <| bndT (M_Tw_bar (aR σ4 v0R 0) σ4) fun r7 σ8 => gdT (okO σ8 v0R 3) <| gdT (okO σ8 (aR σ8 v0R 3) 101) <| gdT (inB v7I (aN σ8 (aR σ8 v0R 3))) <| letT (mxI (0 : Int32) (r7 - (aI σ8 (aR σ8 v0R 3) v7I.toNatClampNeg))) fun x12 => gdT (okO σ8 (aR σ8 v0R 9) 101) <| gdT (inB (v3I + x12) (aN σ8 (aR σ8 v0R 9))) <| letT (v5J ||| (((aI σ8 (aR σ8 v0R 9) (v3I + x12).toNatClampNeg).toInt64) <<< ((v7I * v4I).toInt64 &&& 63))) fun x15 => .inl (1, v0R, 0, v2I, v3I, v4I, x15, v7I + (1 : Int32), σ8)) else (.inr (some (v5J, σ4)))
noncomputable def F_Ls_joinBlocks : S_Ls_joinBlocks → S_Ls_joinBlocks ⊕ Option (Int64 × AM) := fun s => match s.1 with
  | 0 => T_Ls_joinBlocks_0 (s.2.1) (s.2.2.1) (s.2.2.2.1) (s.2.2.2.2.2.2.2.2)
  | _ => T_Ls_joinBlocks_1 (s.2.1) (s.2.2.2.1) (s.2.2.2.2.1) (s.2.2.2.2.2.1) (s.2.2.2.2.2.2.1) (s.2.2.2.2.2.2.2.1) (s.2.2.2.2.2.2.2.2)
noncomputable def L_Ls_joinBlocks_0 (v0R : Nat) (v1I : Int32) (v2I : Int32) (σ : AM) : Option (Int64 × AM) := lp F_Ls_joinBlocks (0, v0R, v1I, v2I, 0, 0, 0, 0, σ)
noncomputable def L_Ls_joinBlocks_1 (v0R : Nat) (v2I : Int32) (v3I : Int32) (v4I : Int32) (v5J : Int64) (v7I : Int32) (σ : AM) : Option (Int64 × AM) := lp F_Ls_joinBlocks (1, v0R, 0, v2I, v3I, v4I, v5J, v7I, σ)
set_option maxRecDepth 20000 in
theorem E_Ls_joinBlocks_0 (v0R : Nat) (v1I : Int32) (v2I : Int32) (σ : AM) : L_Ls_joinBlocks_0 v0R v1I v2I σ = (gd (okO σ v0R 3) <| gd (okO σ (aR σ v0R 0) 1) <| bnd (M_Tw_bar (aR σ v0R 0) σ) fun r3 σ4 => letT (v1I * (r3 + (1 : Int32))) fun x5 => letT ((1 : Int32) <<< (v2I &&& 31)) fun x6 => L_Ls_joinBlocks_1 v0R v2I x5 x6 ((0 : Int64)) ((0 : Int32)) σ4) := by
  unfold L_Ls_joinBlocks_0
  rw [lp_eq]
  show lpK (lp F_Ls_joinBlocks) (T_Ls_joinBlocks_0 v0R v1I v2I σ) = _
  unfold T_Ls_joinBlocks_0
  simp only [lpK_ite, lq_inl, lq_inr, lpK_bnd, lpK_gd, lq_let]
  try rfl
set_option maxRecDepth 20000 in
theorem E_Ls_joinBlocks_1 (v0R : Nat) (v2I : Int32) (v3I : Int32) (v4I : Int32) (v5J : Int64) (v7I : Int32) (σ : AM) : L_Ls_joinBlocks_1 v0R v2I v3I v4I v5J v7I σ = (gd (okO σ v0R 3) <| gd (okO σ (aR σ v0R 0) 1) <| bnd (M_Tw_things (aR σ v0R 0) σ) fun r3 σ4 => if v7I < ((1 : Int32) <<< ((r3 - v2I) &&& 31)) then (gd (okO σ4 v0R 3) <| gd (okO σ4 (aR σ4 v0R 0) 1) <| bnd (M_Tw_bar (aR σ4 v0R 0) σ4) fun r7 σ8 => gd (okO σ8 v0R 3) <| gd (okO σ8 (aR σ8 v0R 3) 101) <| gd (inB v7I (aN σ8 (aR σ8 v0R 3))) <| letT (mxI (0 : Int32) (r7 - (aI σ8 (aR σ8 v0R 3) v7I.toNatClampNeg))) fun x12 => gd (okO σ8 (aR σ8 v0R 9) 101) <| gd (inB (v3I + x12) (aN σ8 (aR σ8 v0R 9))) <| letT (v5J ||| (((aI σ8 (aR σ8 v0R 9) (v3I + x12).toNatClampNeg).toInt64) <<< ((v7I * v4I).toInt64 &&& 63))) fun x15 => L_Ls_joinBlocks_1 v0R v2I v3I v4I x15 (v7I + (1 : Int32)) σ8) else ((some (v5J, σ4)))) := by
  unfold L_Ls_joinBlocks_1
  rw [lp_eq]
  show lpK (lp F_Ls_joinBlocks) (T_Ls_joinBlocks_1 v0R v2I v3I v4I v5J v7I σ) = _
  unfold T_Ls_joinBlocks_1
  simp only [lpK_ite, lq_inl, lq_inr, lpK_bnd, lpK_gd, lq_let]
  try rfl
noncomputable def M_Ls_joinBlocks (v0R : Nat) (v1I : Int32) (v2I : Int32) (σ : AM) : Option (Int64 × AM) := mw σ (L_Ls_joinBlocks_0 v0R v1I v2I σ)
def I_Ls_joinBlocks (G : GX) (p : Program) (l : Launch) (e : Env) (s : State) (m : MethodId) (args : Array Value) (below : List Frame) (meth : Method) (c : Code) (z0 u0 n : Nat) : Prop :=
  (∀ (v0R : Nat) (v1I : Int32) (v2I : Int32) (σ : AM), VX (QM eJ G args s below z0 u0) G p l e s m args below meth c 1 z0 u0 9 (lpn F_Ls_joinBlocks n (0, v0R, v1I, v2I, 0, 0, 0, 0, σ)) 0 [(0, .ref v0R), (1, .int v1I), (2, .int v2I)] [] σ) ∧
  (∀ (v0R : Nat) (v2I : Int32) (v3I : Int32) (v4I : Int32) (v5J : Int64) (v7I : Int32) (σ : AM), VX (QM eJ G args s below z0 u0) G p l e s m args below meth c 1 z0 u0 9 (lpn F_Ls_joinBlocks n (1, v0R, 0, v2I, v3I, v4I, v5J, v7I, σ)) 23 [(0, .ref v0R), (2, .int v2I), (3, .int v3I), (4, .int v4I), (5, .long v5J), (7, .int v7I)] [] σ)
set_option maxRecDepth 20000 in
theorem s_Ls_joinBlocks_0 {G : GX} {p : Program} {l : Launch} {e : Env} {s : State} {m : MethodId} {args : Array Value} {below : List Frame} {meth : Method} {c : Code} {z0 u0 n : Nat} (C : Cx G p s m args meth c prog_6_method_17_code 9 "BellPlate$Lists" ((some FieldType.long))) (IH : I_Ls_joinBlocks G p l e s m args below meth c z0 u0 n) (v0R : Nat) (v1I : Int32) (v2I : Int32) (σ : AM) : VX (QM eJ G args s below z0 u0) G p l e s m args below meth c 1 z0 u0 9 (lpK (lpn F_Ls_joinBlocks n) (T_Ls_joinBlocks_0 v0R v1I v2I σ)) 0 [(0, .ref v0R), (1, .int v1I), (2, .int v2I)] [] σ := by
  unfold T_Ls_joinBlocks_0
  refine x_iload_n C d_Ls_joinBlocks_0 1 rfl ?_
  refine x_aload_n C d_Ls_joinBlocks_1 0 rfl ?_
  refine x_gd (fun h1 => ?_)
  refine x_gd (fun h2 => ?_)
  refine x_getR (k := 0) (kv := 1) C (okO_iff.mp h1) rfl j2_ok (by decide) rfl (okO_iff.mp h2) (by decide) w252 d_Ls_joinBlocks_2 ?_
  refine x_callVI (As := []) C (c_Tw_bar G l (aR σ v0R 0)  σ) (okO_iff.mp h2) rfl w655 w656 w654 w657 w122 k_Tw_bar rfl (by decide) (by decide) rfl (Nat.le_of_ble_eq_true rfl) d_Ls_joinBlocks_5 (fun r3 σ4 => ?_)
  refine x_iconst (v := (1 : Int32)) C d_Ls_joinBlocks_8 (by decide) ?_
  refine x_iadd C d_Ls_joinBlocks_9 ?_
  refine x_imul C d_Ls_joinBlocks_10 ?_
  refine x_letI (fun x5 _ => ?_)
  refine x_istore_n (lv' := [(3, .int x5), (0, .ref v0R), (1, .int v1I), (2, .int v2I)]) C d_Ls_joinBlocks_11 (by decide) rfl rfl ?_
  refine x_iconst (v := (1 : Int32)) C d_Ls_joinBlocks_12 (by decide) ?_
  refine x_iload_n C d_Ls_joinBlocks_13 3 rfl ?_
  refine x_ishl C d_Ls_joinBlocks_14 ?_
  refine x_letI (fun x6 _ => ?_)
  refine x_istore (lv' := [(4, .int x6), (3, .int x5), (0, .ref v0R), (1, .int v1I), (2, .int v2I)]) C d_Ls_joinBlocks_15 (by decide) rfl ?_
  refine x_lconst (v := (0 : Int64)) C d_Ls_joinBlocks_17 (by decide) ?_
  refine x_lstore (lv' := [(5, .long (0 : Int64)), (4, .int x6), (3, .int x5), (0, .ref v0R), (1, .int v1I), (2, .int v2I)]) C d_Ls_joinBlocks_18 (by decide) rfl ?_
  refine x_iconst (v := (0 : Int32)) C d_Ls_joinBlocks_20 (by decide) ?_
  refine x_istore (lv' := [(7, .int (0 : Int32)), (5, .long (0 : Int64)), (4, .int x6), (3, .int x5), (0, .ref v0R), (1, .int v1I), (2, .int v2I)]) C d_Ls_joinBlocks_21 (by decide) rfl ?_
  refine x_lv [4, 6, 3, 2, 1, 0] rfl ?_
  exact IH.2 v0R v2I x5 x6 ((0 : Int64)) ((0 : Int32)) (σ4)
set_option maxRecDepth 20000 in
theorem s_Ls_joinBlocks_1 {G : GX} {p : Program} {l : Launch} {e : Env} {s : State} {m : MethodId} {args : Array Value} {below : List Frame} {meth : Method} {c : Code} {z0 u0 n : Nat} (C : Cx G p s m args meth c prog_6_method_17_code 9 "BellPlate$Lists" ((some FieldType.long))) (IH : I_Ls_joinBlocks G p l e s m args below meth c z0 u0 n) (v0R : Nat) (v2I : Int32) (v3I : Int32) (v4I : Int32) (v5J : Int64) (v7I : Int32) (σ : AM) : VX (QM eJ G args s below z0 u0) G p l e s m args below meth c 1 z0 u0 9 (lpK (lpn F_Ls_joinBlocks n) (T_Ls_joinBlocks_1 v0R v2I v3I v4I v5J v7I σ)) 23 [(0, .ref v0R), (2, .int v2I), (3, .int v3I), (4, .int v4I), (5, .long v5J), (7, .int v7I)] [] σ := by
  unfold T_Ls_joinBlocks_1
  refine x_iload C d_Ls_joinBlocks_23 5 rfl ?_
  refine x_iconst (v := (1 : Int32)) C d_Ls_joinBlocks_25 (by decide) ?_
  refine x_aload_n C d_Ls_joinBlocks_26 0 rfl ?_
  refine x_gd (fun h1 => ?_)
  refine x_gd (fun h2 => ?_)
  refine x_getR (k := 0) (kv := 1) C (okO_iff.mp h1) rfl j2_ok (by decide) rfl (okO_iff.mp h2) (by decide) w252 d_Ls_joinBlocks_27 ?_
  refine x_callVI (As := []) C (c_Tw_things G l (aR σ v0R 0)  σ) (okO_iff.mp h2) rfl w643 w644 w642 w645 w122 k_Tw_things rfl (by decide) (by decide) rfl (Nat.le_of_ble_eq_true rfl) d_Ls_joinBlocks_30 (fun r3 σ4 => ?_)
  refine x_iload_n C d_Ls_joinBlocks_33 1 rfl ?_
  refine x_isub C d_Ls_joinBlocks_34 ?_
  refine x_ishl C d_Ls_joinBlocks_35 ?_
  refine x_icmp_ge (tgt := 87) C d_Ls_joinBlocks_36 (by decide) (fun _ => ?_) (fun _ => ?_)
  · refine x_iconst (v := (0 : Int32)) C d_Ls_joinBlocks_39 (by decide) ?_
    refine x_aload_n C d_Ls_joinBlocks_40 0 rfl ?_
    refine x_gd (fun h5 => ?_)
    refine x_gd (fun h6 => ?_)
    refine x_getR (k := 0) (kv := 1) C (okO_iff.mp h5) rfl j2_ok (by decide) rfl (okO_iff.mp h6) (by decide) w252 d_Ls_joinBlocks_41 ?_
    refine x_callVI (As := []) C (c_Tw_bar G l (aR σ4 v0R 0)  σ4) (okO_iff.mp h6) rfl w655 w656 w654 w657 w122 k_Tw_bar rfl (by decide) (by decide) rfl (Nat.le_of_ble_eq_true rfl) d_Ls_joinBlocks_44 (fun r7 σ8 => ?_)
    refine x_aload_n C d_Ls_joinBlocks_47 0 rfl ?_
    refine x_gd (fun h9 => ?_)
    refine x_gd (fun h10 => ?_)
    refine x_getR (k := 3) (kv := 101) C (okO_iff.mp h9) rfl j2_ok (by decide) rfl (okO_iff.mp h10) (by decide) w255 d_Ls_joinBlocks_48 ?_
    refine x_iload C d_Ls_joinBlocks_51 5 rfl ?_
    refine x_gd (fun h11 => ?_)
    refine x_aldI C (okO_iff.mp h10) (inB_iff.mp h11) d_Ls_joinBlocks_53 ?_
    refine x_isub C d_Ls_joinBlocks_54 ?_
    refine x_mmax C w637 (by decide) (Nat.le_of_ble_eq_true rfl) d_Ls_joinBlocks_55 ?_
    refine x_letI (fun x12 _ => ?_)
    refine x_istore (lv' := [(8, .int x12), (0, .ref v0R), (2, .int v2I), (3, .int v3I), (4, .int v4I), (5, .long v5J), (7, .int v7I)]) C d_Ls_joinBlocks_58 (by decide) rfl ?_
    refine x_lload C d_Ls_joinBlocks_60 5 rfl ?_
    refine x_aload_n C d_Ls_joinBlocks_62 1 rfl ?_
    refine x_gd (fun h13 => ?_)
    refine x_getR (k := 9) (kv := 101) C (okO_iff.mp h9) rfl j2_ok (by decide) rfl (okO_iff.mp h13) (by decide) w261 d_Ls_joinBlocks_63 ?_
    refine x_iload_n C d_Ls_joinBlocks_66 3 rfl ?_
    refine x_iload C d_Ls_joinBlocks_67 0 rfl ?_
    refine x_iadd C d_Ls_joinBlocks_69 ?_
    refine x_gd (fun h14 => ?_)
    refine x_aldI C (okO_iff.mp h13) (inB_iff.mp h14) d_Ls_joinBlocks_70 ?_
    refine x_i2l C d_Ls_joinBlocks_71 ?_
    refine x_iload C d_Ls_joinBlocks_72 6 rfl ?_
    refine x_iload C d_Ls_joinBlocks_74 4 rfl ?_
    refine x_imul C d_Ls_joinBlocks_76 ?_
    refine x_lshl C d_Ls_joinBlocks_77 ?_
    refine x_lor C d_Ls_joinBlocks_78 ?_
    refine x_letJ (fun x15 _ => ?_)
    refine x_lstore (lv' := [(5, .long x15), (8, .int x12), (0, .ref v0R), (2, .int v2I), (3, .int v3I), (4, .int v4I), (7, .int v7I)]) C d_Ls_joinBlocks_79 (by decide) rfl ?_
    refine x_iinc (v := v7I + (1 : Int32)) (lv' := [(7, .int (v7I + (1 : Int32))), (5, .long x15), (8, .int x12), (0, .ref v0R), (2, .int v2I), (3, .int v3I), (4, .int v4I)]) C d_Ls_joinBlocks_81 6 rfl rfl (by decide) rfl ?_
    refine x_goto (tgt := 23) C d_Ls_joinBlocks_84 (by decide) ?_
    refine x_lv [3, 4, 5, 6, 1, 0] rfl ?_
    exact IH.2 v0R v2I v3I v4I x15 (v7I + (1 : Int32)) (σ8)
  · refine x_lload C d_Ls_joinBlocks_87 4 rfl ?_
    exact x_lret C d_Ls_joinBlocks_89
theorem i_Ls_joinBlocks {G : GX} {p : Program} {l : Launch} {e : Env} {s : State} {m : MethodId} {args : Array Value} {below : List Frame} {meth : Method} {c : Code} {z0 u0 : Nat} (C : Cx G p s m args meth c prog_6_method_17_code 9 "BellPlate$Lists" ((some FieldType.long))) (n : Nat) : I_Ls_joinBlocks G p l e s m args below meth c z0 u0 n := by
  induction n with
  | zero => exact ⟨fun _ _ _ _ => x_none, fun _ _ _ _ _ _ _ => x_none⟩
  | succ n IH => exact ⟨fun v0R v1I v2I σ => s_Ls_joinBlocks_0 C IH v0R v1I v2I σ, fun v0R v2I v3I v4I v5J v7I σ => s_Ls_joinBlocks_1 C IH v0R v2I v3I v4I v5J v7I σ⟩
theorem c_Ls_joinBlocks (G : GX) (l : Launch) (v0R : Nat) (v1I : Int32) (v2I : Int32) (σ : AM) : CT eJ G l 1 y_Ls_joinBlocks prog_6_method_17_code 9 ((some FieldType.long)) [.ref v0R, .int v1I, .int v2I] σ (M_Ls_joinBlocks v0R v1I v2I σ) := by
  refine ct_of (by decide +kernel) (Nat.le_of_ble_eq_true rfl) (fun p e s m args below meth c C hin => ?_)
  refine x_lve (lv' := [(0, .ref v0R), (1, .int v1I), (2, .int v2I)]) rfl ?_
  intro r σ' h
  obtain ⟨n, hn⟩ := (lp_iff _ _ _).mp h
  exact (i_Ls_joinBlocks C n).1 v0R v1I v2I σ r σ' hn
/-! BellPlate$Lists.enter(J)I -/
abbrev y_Ls_enter : MethodName := ⟨"BellPlate$Lists", "enter", "(J)I"⟩
theorem k_Ls_enter : y_Ls_enter.cls ≠ "java/lang/invoke/MethodHandle" ∧ y_Ls_enter.cls ≠ "java/lang/invoke/VarHandle" ∧ (parseMethodDescriptor y_Ls_enter.desc).map (fun d => d.parameters.length) = some 1 := by decide +kernel
theorem d_Ls_enter_0 : decode prog_6_method_18_code 0 = .ok (.lload_n 1, 1) := by decide +kernel
theorem d_Ls_enter_1 : decode prog_6_method_18_code 1 = .ok (.ldc2_w 136, 3) := by decide +kernel
theorem d_Ls_enter_4 : decode prog_6_method_18_code 4 = .ok (.lmul, 1) := by decide +kernel
theorem d_Ls_enter_5 : decode prog_6_method_18_code 5 = .ok (.bipush 40, 2) := by decide +kernel
theorem d_Ls_enter_7 : decode prog_6_method_18_code 7 = .ok (.lushr, 1) := by decide +kernel
theorem d_Ls_enter_8 : decode prog_6_method_18_code 8 = .ok (.l2i, 1) := by decide +kernel
theorem d_Ls_enter_9 : decode prog_6_method_18_code 9 = .ok (.aload_n 0, 1) := by decide +kernel
theorem d_Ls_enter_10 : decode prog_6_method_18_code 10 = .ok (.getfield 126, 3) := by decide +kernel
theorem d_Ls_enter_13 : decode prog_6_method_18_code 13 = .ok (.iconst 1, 1) := by decide +kernel
theorem d_Ls_enter_14 : decode prog_6_method_18_code 14 = .ok (.isub, 1) := by decide +kernel
theorem d_Ls_enter_15 : decode prog_6_method_18_code 15 = .ok (.iand, 1) := by decide +kernel
theorem d_Ls_enter_16 : decode prog_6_method_18_code 16 = .ok (.istore_n 3, 1) := by decide +kernel
theorem d_Ls_enter_17 : decode prog_6_method_18_code 17 = .ok (.iconst 0, 1) := by decide +kernel
theorem d_Ls_enter_18 : decode prog_6_method_18_code 18 = .ok (.istore 4, 2) := by decide +kernel
theorem d_Ls_enter_20 : decode prog_6_method_18_code 20 = .ok (.iload 4, 2) := by decide +kernel
theorem d_Ls_enter_22 : decode prog_6_method_18_code 22 = .ok (.aload_n 0, 1) := by decide +kernel
theorem d_Ls_enter_23 : decode prog_6_method_18_code 23 = .ok (.getfield 126, 3) := by decide +kernel
theorem d_Ls_enter_26 : decode prog_6_method_18_code 26 = .ok (.if_icmp .ge 106, 3) := by decide +kernel
theorem d_Ls_enter_29 : decode prog_6_method_18_code 29 = .ok (.aload_n 0, 1) := by decide +kernel
theorem d_Ls_enter_30 : decode prog_6_method_18_code 30 = .ok (.getfield 42, 3) := by decide +kernel
theorem d_Ls_enter_33 : decode prog_6_method_18_code 33 = .ok (.iload_n 3, 1) := by decide +kernel
theorem d_Ls_enter_34 : decode prog_6_method_18_code 34 = .ok (.iaload, 1) := by decide +kernel
theorem d_Ls_enter_35 : decode prog_6_method_18_code 35 = .ok (.istore 5, 2) := by decide +kernel
theorem d_Ls_enter_37 : decode prog_6_method_18_code 37 = .ok (.iload 5, 2) := by decide +kernel
theorem d_Ls_enter_39 : decode prog_6_method_18_code 39 = .ok (.ifCond .ge 50, 3) := by decide +kernel
theorem d_Ls_enter_42 : decode prog_6_method_18_code 42 = .ok (.aload_n 0, 1) := by decide +kernel
theorem d_Ls_enter_43 : decode prog_6_method_18_code 43 = .ok (.getfield 42, 3) := by decide +kernel
theorem d_Ls_enter_46 : decode prog_6_method_18_code 46 = .ok (.iload_n 3, 1) := by decide +kernel
theorem d_Ls_enter_47 : decode prog_6_method_18_code 47 = .ok (.aload_n 0, 1) := by decide +kernel
theorem d_Ls_enter_48 : decode prog_6_method_18_code 48 = .ok (.getfield 48, 3) := by decide +kernel
theorem d_Ls_enter_51 : decode prog_6_method_18_code 51 = .ok (.iastore, 1) := by decide +kernel
theorem d_Ls_enter_52 : decode prog_6_method_18_code 52 = .ok (.aload_n 0, 1) := by decide +kernel
theorem d_Ls_enter_53 : decode prog_6_method_18_code 53 = .ok (.getfield 29, 3) := by decide +kernel
theorem d_Ls_enter_56 : decode prog_6_method_18_code 56 = .ok (.aload_n 0, 1) := by decide +kernel
theorem d_Ls_enter_57 : decode prog_6_method_18_code 57 = .ok (.getfield 48, 3) := by decide +kernel
theorem d_Ls_enter_60 : decode prog_6_method_18_code 60 = .ok (.lload_n 1, 1) := by decide +kernel
theorem d_Ls_enter_61 : decode prog_6_method_18_code 61 = .ok (.lastore, 1) := by decide +kernel
theorem d_Ls_enter_62 : decode prog_6_method_18_code 62 = .ok (.aload_n 0, 1) := by decide +kernel
theorem d_Ls_enter_63 : decode prog_6_method_18_code 63 = .ok (.getfield 33, 3) := by decide +kernel
theorem d_Ls_enter_66 : decode prog_6_method_18_code 66 = .ok (.aload_n 0, 1) := by decide +kernel
theorem d_Ls_enter_67 : decode prog_6_method_18_code 67 = .ok (.getfield 48, 3) := by decide +kernel
theorem d_Ls_enter_70 : decode prog_6_method_18_code 70 = .ok (.iconst 1, 1) := by decide +kernel
theorem d_Ls_enter_71 : decode prog_6_method_18_code 71 = .ok (.iastore, 1) := by decide +kernel
theorem d_Ls_enter_72 : decode prog_6_method_18_code 72 = .ok (.aload_n 0, 1) := by decide +kernel
theorem d_Ls_enter_73 : decode prog_6_method_18_code 73 = .ok (.dup, 1) := by decide +kernel
theorem d_Ls_enter_74 : decode prog_6_method_18_code 74 = .ok (.getfield 48, 3) := by decide +kernel
theorem d_Ls_enter_77 : decode prog_6_method_18_code 77 = .ok (.iconst 1, 1) := by decide +kernel
theorem d_Ls_enter_78 : decode prog_6_method_18_code 78 = .ok (.iadd, 1) := by decide +kernel
theorem d_Ls_enter_79 : decode prog_6_method_18_code 79 = .ok (.putfield 48, 3) := by decide +kernel
theorem d_Ls_enter_82 : decode prog_6_method_18_code 82 = .ok (.aload_n 0, 1) := by decide +kernel
theorem d_Ls_enter_83 : decode prog_6_method_18_code 83 = .ok (.getfield 48, 3) := by decide +kernel
theorem d_Ls_enter_86 : decode prog_6_method_18_code 86 = .ok (.iconst 1, 1) := by decide +kernel
theorem d_Ls_enter_87 : decode prog_6_method_18_code 87 = .ok (.isub, 1) := by decide +kernel
theorem d_Ls_enter_88 : decode prog_6_method_18_code 88 = .ok (.ireturn, 1) := by decide +kernel
theorem d_Ls_enter_89 : decode prog_6_method_18_code 89 = .ok (.aload_n 0, 1) := by decide +kernel
theorem d_Ls_enter_90 : decode prog_6_method_18_code 90 = .ok (.getfield 29, 3) := by decide +kernel
theorem d_Ls_enter_93 : decode prog_6_method_18_code 93 = .ok (.iload 5, 2) := by decide +kernel
theorem d_Ls_enter_95 : decode prog_6_method_18_code 95 = .ok (.laload, 1) := by decide +kernel
theorem d_Ls_enter_96 : decode prog_6_method_18_code 96 = .ok (.lload_n 1, 1) := by decide +kernel
theorem d_Ls_enter_97 : decode prog_6_method_18_code 97 = .ok (.lcmp, 1) := by decide +kernel
theorem d_Ls_enter_98 : decode prog_6_method_18_code 98 = .ok (.ifCond .ne 17, 3) := by decide +kernel
theorem d_Ls_enter_101 : decode prog_6_method_18_code 101 = .ok (.aload_n 0, 1) := by decide +kernel
theorem d_Ls_enter_102 : decode prog_6_method_18_code 102 = .ok (.getfield 33, 3) := by decide +kernel
theorem d_Ls_enter_105 : decode prog_6_method_18_code 105 = .ok (.iload 5, 2) := by decide +kernel
theorem d_Ls_enter_107 : decode prog_6_method_18_code 107 = .ok (.dup2, 1) := by decide +kernel
theorem d_Ls_enter_108 : decode prog_6_method_18_code 108 = .ok (.iaload, 1) := by decide +kernel
theorem d_Ls_enter_109 : decode prog_6_method_18_code 109 = .ok (.iconst 1, 1) := by decide +kernel
theorem d_Ls_enter_110 : decode prog_6_method_18_code 110 = .ok (.iadd, 1) := by decide +kernel
theorem d_Ls_enter_111 : decode prog_6_method_18_code 111 = .ok (.iastore, 1) := by decide +kernel
theorem d_Ls_enter_112 : decode prog_6_method_18_code 112 = .ok (.iload 5, 2) := by decide +kernel
theorem d_Ls_enter_114 : decode prog_6_method_18_code 114 = .ok (.ireturn, 1) := by decide +kernel
theorem d_Ls_enter_115 : decode prog_6_method_18_code 115 = .ok (.iload_n 3, 1) := by decide +kernel
theorem d_Ls_enter_116 : decode prog_6_method_18_code 116 = .ok (.iconst 1, 1) := by decide +kernel
theorem d_Ls_enter_117 : decode prog_6_method_18_code 117 = .ok (.iadd, 1) := by decide +kernel
theorem d_Ls_enter_118 : decode prog_6_method_18_code 118 = .ok (.aload_n 0, 1) := by decide +kernel
theorem d_Ls_enter_119 : decode prog_6_method_18_code 119 = .ok (.getfield 126, 3) := by decide +kernel
theorem d_Ls_enter_122 : decode prog_6_method_18_code 122 = .ok (.iconst 1, 1) := by decide +kernel
theorem d_Ls_enter_123 : decode prog_6_method_18_code 123 = .ok (.isub, 1) := by decide +kernel
theorem d_Ls_enter_124 : decode prog_6_method_18_code 124 = .ok (.iand, 1) := by decide +kernel
theorem d_Ls_enter_125 : decode prog_6_method_18_code 125 = .ok (.istore_n 3, 1) := by decide +kernel
theorem d_Ls_enter_126 : decode prog_6_method_18_code 126 = .ok (.iinc 4 1, 3) := by decide +kernel
theorem d_Ls_enter_129 : decode prog_6_method_18_code 129 = .ok (.goto (-109), 3) := by decide +kernel
theorem d_Ls_enter_132 : decode prog_6_method_18_code 132 = .ok (.iconst (-1), 1) := by decide +kernel
theorem d_Ls_enter_133 : decode prog_6_method_18_code 133 = .ok (.ireturn, 1) := by decide +kernel
abbrev S_Ls_enter : Type := Nat × Nat × Int64 × Int32 × Int32 × AM
noncomputable def T_Ls_enter_0 (v0R : Nat) (v1J : Int64) (σ : AM) : S_Ls_enter ⊕ Option (Int32 × AM) :=
  gdT (okO σ v0R 3) <| letT (((((v1J * ((-7046029254386353131) : Int64)).toUInt64 >>> ((40 : Int32).toInt64.toUInt64 &&& Int64.toUInt64 63)).toInt64).toInt32) &&& ((aI σ v0R 10) - (1 : Int32))) fun x2 => .inl (1, v0R, v1J, x2, (0 : Int32), σ)
noncomputable def T_Ls_enter_1 (v0R : Nat) (v1J : Int64) (v3I : Int32) (v4I : Int32) (σ : AM) : S_Ls_enter ⊕ Option (Int32 × AM) :=
  gdT (okO σ v0R 3) <| if v4I < (aI σ v0R 10) then (gdT (okO σ (aR σ v0R 8) 101) <| gdT (inB v3I (aN σ (aR σ v0R 8))) <| letT (aI σ (aR σ v0R 8) v3I.toNatClampNeg) fun x4 => if x4 < 0 then (letT (sI σ (aR σ v0R 8) v3I.toNatClampNeg (aI σ v0R 11)) fun σ5 => gdT (okO σ5 (aR σ5 v0R 4) 102) <| gdT (inB (aI σ5 v0R 11) (aN σ5 (aR σ5 v0R 4))) <| letT (sL σ5 (aR σ5 v0R 4) (aI σ5 v0R 11).toNatClampNeg v1J) fun σ9 => gdT (okO σ9 (aR σ9 v0R 5) 101) <| gdT (inB (aI σ9 v0R 11) (aN σ9 (aR σ9 v0R 5))) <| letT (sI σ9 (aR σ9 v0R 5) (aI σ9 v0R 11).toNatClampNeg (1 : Int32)) fun σ13 => letT (sI σ13 v0R 11 ((aI σ13 v0R 11) + (1 : Int32))) fun σ15 => .inr (some (((aI σ15 v0R 11) - (1 : Int32)), σ15))) else (gdT (okO σ (aR σ v0R 4) 102) <| gdT (inB x4 (aN σ (aR σ v0R 4))) <| if (lg_cmp (aL σ (aR σ v0R 4) x4.toNatClampNeg) v1J) = 0 then (gdT (okO σ (aR σ v0R 5) 101) <| gdT (inB x4 (aN σ (aR σ v0R 5))) <| letT (sI σ (aR σ v0R 5) x4.toNatClampNeg ((aI σ (aR σ v0R 5) x4.toNatClampNeg) + (1 : Int32))) fun σ21 => .inr (some (x4, σ21))) else (letT ((v3I + (1 : Int32)) &&& ((aI σ v0R 10) - (1 : Int32))) fun x23 => .inl (1, v0R, v1J, x23, v4I + (1 : Int32), σ)))) else (.inr (some (((-1) : Int32), σ)))
noncomputable def F_Ls_enter : S_Ls_enter → S_Ls_enter ⊕ Option (Int32 × AM) := fun s => match s.1 with
  | 0 => T_Ls_enter_0 (s.2.1) (s.2.2.1) (s.2.2.2.2.2)
  | _ => T_Ls_enter_1 (s.2.1) (s.2.2.1) (s.2.2.2.1) (s.2.2.2.2.1) (s.2.2.2.2.2)
noncomputable def L_Ls_enter_0 (v0R : Nat) (v1J : Int64) (σ : AM) : Option (Int32 × AM) := lp F_Ls_enter (0, v0R, v1J, 0, 0, σ)
noncomputable def L_Ls_enter_1 (v0R : Nat) (v1J : Int64) (v3I : Int32) (v4I : Int32) (σ : AM) : Option (Int32 × AM) := lp F_Ls_enter (1, v0R, v1J, v3I, v4I, σ)
set_option maxRecDepth 20000 in
theorem E_Ls_enter_0 (v0R : Nat) (v1J : Int64) (σ : AM) : L_Ls_enter_0 v0R v1J σ = (gd (okO σ v0R 3) <| letT (((((v1J * ((-7046029254386353131) : Int64)).toUInt64 >>> ((40 : Int32).toInt64.toUInt64 &&& Int64.toUInt64 63)).toInt64).toInt32) &&& ((aI σ v0R 10) - (1 : Int32))) fun x2 => L_Ls_enter_1 v0R v1J x2 ((0 : Int32)) σ) := by
  unfold L_Ls_enter_0
  rw [lp_eq]
  show lpK (lp F_Ls_enter) (T_Ls_enter_0 v0R v1J σ) = _
  unfold T_Ls_enter_0
  simp only [lpK_ite, lq_inl, lq_inr, lpK_bnd, lpK_gd, lq_let]
  try rfl
set_option maxRecDepth 20000 in
theorem E_Ls_enter_1 (v0R : Nat) (v1J : Int64) (v3I : Int32) (v4I : Int32) (σ : AM) : L_Ls_enter_1 v0R v1J v3I v4I σ = (gd (okO σ v0R 3) <| if v4I < (aI σ v0R 10) then (gd (okO σ (aR σ v0R 8) 101) <| gd (inB v3I (aN σ (aR σ v0R 8))) <| letT (aI σ (aR σ v0R 8) v3I.toNatClampNeg) fun x4 => if x4 < 0 then (letT (sI σ (aR σ v0R 8) v3I.toNatClampNeg (aI σ v0R 11)) fun σ5 => gd (okO σ5 (aR σ5 v0R 4) 102) <| gd (inB (aI σ5 v0R 11) (aN σ5 (aR σ5 v0R 4))) <| letT (sL σ5 (aR σ5 v0R 4) (aI σ5 v0R 11).toNatClampNeg v1J) fun σ9 => gd (okO σ9 (aR σ9 v0R 5) 101) <| gd (inB (aI σ9 v0R 11) (aN σ9 (aR σ9 v0R 5))) <| letT (sI σ9 (aR σ9 v0R 5) (aI σ9 v0R 11).toNatClampNeg (1 : Int32)) fun σ13 => letT (sI σ13 v0R 11 ((aI σ13 v0R 11) + (1 : Int32))) fun σ15 => (some (((aI σ15 v0R 11) - (1 : Int32)), σ15))) else (gd (okO σ (aR σ v0R 4) 102) <| gd (inB x4 (aN σ (aR σ v0R 4))) <| if (lg_cmp (aL σ (aR σ v0R 4) x4.toNatClampNeg) v1J) = 0 then (gd (okO σ (aR σ v0R 5) 101) <| gd (inB x4 (aN σ (aR σ v0R 5))) <| letT (sI σ (aR σ v0R 5) x4.toNatClampNeg ((aI σ (aR σ v0R 5) x4.toNatClampNeg) + (1 : Int32))) fun σ21 => (some (x4, σ21))) else (letT ((v3I + (1 : Int32)) &&& ((aI σ v0R 10) - (1 : Int32))) fun x23 => L_Ls_enter_1 v0R v1J x23 (v4I + (1 : Int32)) σ))) else ((some (((-1) : Int32), σ)))) := by
  unfold L_Ls_enter_1
  rw [lp_eq]
  show lpK (lp F_Ls_enter) (T_Ls_enter_1 v0R v1J v3I v4I σ) = _
  unfold T_Ls_enter_1
  simp only [lpK_ite, lq_inl, lq_inr, lpK_bnd, lpK_gd, lq_let]
  try rfl
noncomputable def M_Ls_enter (v0R : Nat) (v1J : Int64) (σ : AM) : Option (Int32 × AM) := mw σ (L_Ls_enter_0 v0R v1J σ)
def I_Ls_enter (G : GX) (p : Program) (l : Launch) (e : Env) (s : State) (m : MethodId) (args : Array Value) (below : List Frame) (meth : Method) (c : Code) (z0 u0 n : Nat) : Prop :=
  (∀ (v0R : Nat) (v1J : Int64) (σ : AM), VX (QM eI G args s below z0 u0) G p l e s m args below meth c 0 z0 u0 6 (lpn F_Ls_enter n (0, v0R, v1J, 0, 0, σ)) 0 [(0, .ref v0R), (1, .long v1J)] [] σ) ∧
  (∀ (v0R : Nat) (v1J : Int64) (v3I : Int32) (v4I : Int32) (σ : AM), VX (QM eI G args s below z0 u0) G p l e s m args below meth c 0 z0 u0 6 (lpn F_Ls_enter n (1, v0R, v1J, v3I, v4I, σ)) 20 [(0, .ref v0R), (1, .long v1J), (3, .int v3I), (4, .int v4I)] [] σ)
set_option maxRecDepth 20000 in
theorem s_Ls_enter_0 {G : GX} {p : Program} {l : Launch} {e : Env} {s : State} {m : MethodId} {args : Array Value} {below : List Frame} {meth : Method} {c : Code} {z0 u0 n : Nat} (C : Cx G p s m args meth c prog_6_method_18_code 6 "BellPlate$Lists" ((some FieldType.int))) (IH : I_Ls_enter G p l e s m args below meth c z0 u0 n) (v0R : Nat) (v1J : Int64) (σ : AM) : VX (QM eI G args s below z0 u0) G p l e s m args below meth c 0 z0 u0 6 (lpK (lpn F_Ls_enter n) (T_Ls_enter_0 v0R v1J σ)) 0 [(0, .ref v0R), (1, .long v1J)] [] σ := by
  unfold T_Ls_enter_0
  refine x_lload_n C d_Ls_enter_0 1 rfl ?_
  refine x_ldc2 C d_Ls_enter_1 w685 ?_
  refine x_lmul C d_Ls_enter_4 ?_
  refine x_bipush (v := (40 : Int32)) C d_Ls_enter_5 (by decide) ?_
  refine x_lushr C d_Ls_enter_7 ?_
  refine x_l2i C d_Ls_enter_8 ?_
  refine x_aload_n C d_Ls_enter_9 0 rfl ?_
  refine x_gd (fun h1 => ?_)
  refine x_getI (k := 10) C (okO_iff.mp h1) rfl j2_ok (by decide) rfl w262 d_Ls_enter_10 ?_
  refine x_iconst (v := (1 : Int32)) C d_Ls_enter_13 (by decide) ?_
  refine x_isub C d_Ls_enter_14 ?_
  refine x_iand C d_Ls_enter_15 ?_
  refine x_letI (fun x2 _ => ?_)
  refine x_istore_n (lv' := [(3, .int x2), (0, .ref v0R), (1, .long v1J)]) C d_Ls_enter_16 (by decide) rfl rfl ?_
  refine x_iconst (v := (0 : Int32)) C d_Ls_enter_17 (by decide) ?_
  refine x_istore (lv' := [(4, .int (0 : Int32)), (3, .int x2), (0, .ref v0R), (1, .long v1J)]) C d_Ls_enter_18 (by decide) rfl ?_
  refine x_lv [2, 3, 1, 0] rfl ?_
  exact IH.2 v0R v1J x2 ((0 : Int32)) (σ)
set_option maxRecDepth 20000 in
theorem s_Ls_enter_1 {G : GX} {p : Program} {l : Launch} {e : Env} {s : State} {m : MethodId} {args : Array Value} {below : List Frame} {meth : Method} {c : Code} {z0 u0 n : Nat} (C : Cx G p s m args meth c prog_6_method_18_code 6 "BellPlate$Lists" ((some FieldType.int))) (IH : I_Ls_enter G p l e s m args below meth c z0 u0 n) (v0R : Nat) (v1J : Int64) (v3I : Int32) (v4I : Int32) (σ : AM) : VX (QM eI G args s below z0 u0) G p l e s m args below meth c 0 z0 u0 6 (lpK (lpn F_Ls_enter n) (T_Ls_enter_1 v0R v1J v3I v4I σ)) 20 [(0, .ref v0R), (1, .long v1J), (3, .int v3I), (4, .int v4I)] [] σ := by
  unfold T_Ls_enter_1
  refine x_iload C d_Ls_enter_20 3 rfl ?_
  refine x_aload_n C d_Ls_enter_22 0 rfl ?_
  refine x_gd (fun h1 => ?_)
  refine x_getI (k := 10) C (okO_iff.mp h1) rfl j2_ok (by decide) rfl w262 d_Ls_enter_23 ?_
  refine x_icmp_ge (tgt := 132) C d_Ls_enter_26 (by decide) (fun _ => ?_) (fun _ => ?_)
  · refine x_aload_n C d_Ls_enter_29 0 rfl ?_
    refine x_gd (fun h2 => ?_)
    refine x_getR (k := 8) (kv := 101) C (okO_iff.mp h1) rfl j2_ok (by decide) rfl (okO_iff.mp h2) (by decide) w260 d_Ls_enter_30 ?_
    refine x_iload_n C d_Ls_enter_33 2 rfl ?_
    refine x_gd (fun h3 => ?_)
    refine x_aldI C (okO_iff.mp h2) (inB_iff.mp h3) d_Ls_enter_34 ?_
    refine x_letI (fun x4 _ => ?_)
    refine x_istore (lv' := [(5, .int x4), (0, .ref v0R), (1, .long v1J), (3, .int v3I), (4, .int v4I)]) C d_Ls_enter_35 (by decide) rfl ?_
    refine x_iload C d_Ls_enter_37 0 rfl ?_
    refine x_if_ge (tgt := 89) C d_Ls_enter_39 (by decide) (fun _ => ?_) (fun _ => ?_)
    · refine x_aload_n C d_Ls_enter_42 1 rfl ?_
      refine x_getR (k := 8) (kv := 101) C (okO_iff.mp h1) rfl j2_ok (by decide) rfl (okO_iff.mp h2) (by decide) w260 d_Ls_enter_43 ?_
      refine x_iload_n C d_Ls_enter_46 3 rfl ?_
      refine x_aload_n C d_Ls_enter_47 1 rfl ?_
      refine x_getI (k := 11) C (okO_iff.mp h1) rfl j2_ok (by decide) rfl w263 d_Ls_enter_48 ?_
      refine x_astI C (okO_iff.mp h2) (inB_iff.mp h3) d_Ls_enter_51 ?_
      refine x_letS (fun σ5 e6 => ?_)
      refine x_aload_n C d_Ls_enter_52 1 rfl ?_
      refine x_gd (fun h7 => ?_)
      refine x_getR (k := 4) (kv := 102) C (by first | exact (okO_iff.mp h1) | (rw [e6]; exact (okO_iff.mp h1))) rfl j2_ok (by decide) rfl (okO_iff.mp h7) (by decide) w256 d_Ls_enter_53 ?_
      refine x_aload_n C d_Ls_enter_56 1 rfl ?_
      refine x_getI (k := 11) C (by first | exact (okO_iff.mp h1) | (rw [e6]; exact (okO_iff.mp h1))) rfl j2_ok (by decide) rfl w263 d_Ls_enter_57 ?_
      refine x_lload_n C d_Ls_enter_60 2 rfl ?_
      refine x_gd (fun h8 => ?_)
      refine x_astJ C (okO_iff.mp h7) (inB_iff.mp h8) d_Ls_enter_61 ?_
      refine x_letS (fun σ9 e10 => ?_)
      refine x_aload_n C d_Ls_enter_62 1 rfl ?_
      refine x_gd (fun h11 => ?_)
      refine x_getR (k := 5) (kv := 101) C (by first | exact (okO_iff.mp h1) | (rw [e10, e6]; exact (okO_iff.mp h1))) rfl j2_ok (by decide) rfl (okO_iff.mp h11) (by decide) w257 d_Ls_enter_63 ?_
      refine x_aload_n C d_Ls_enter_66 1 rfl ?_
      refine x_getI (k := 11) C (by first | exact (okO_iff.mp h1) | (rw [e10, e6]; exact (okO_iff.mp h1))) rfl j2_ok (by decide) rfl w263 d_Ls_enter_67 ?_
      refine x_iconst (v := (1 : Int32)) C d_Ls_enter_70 (by decide) ?_
      refine x_gd (fun h12 => ?_)
      refine x_astI C (okO_iff.mp h11) (inB_iff.mp h12) d_Ls_enter_71 ?_
      refine x_letS (fun σ13 e14 => ?_)
      refine x_aload_n C d_Ls_enter_72 1 rfl ?_
      refine x_dup C d_Ls_enter_73 rfl ?_
      refine x_getI (k := 11) C (by first | exact (okO_iff.mp h1) | (rw [e14, e10, e6]; exact (okO_iff.mp h1))) rfl j2_ok (by decide) rfl w263 d_Ls_enter_74 ?_
      refine x_iconst (v := (1 : Int32)) C d_Ls_enter_77 (by decide) ?_
      refine x_iadd C d_Ls_enter_78 ?_
      refine x_putI (k := 11) C (by first | exact (okO_iff.mp h1) | (rw [e14, e10, e6]; exact (okO_iff.mp h1))) rfl j2_ok y2_ok n2_ok (by decide) rfl rfl rfl rfl w263 d_Ls_enter_79 ?_
      refine x_letS (fun σ15 e16 => ?_)
      refine x_aload_n C d_Ls_enter_82 1 rfl ?_
      refine x_getI (k := 11) C (by first | exact (okO_iff.mp h1) | (rw [e16, e14, e10, e6]; exact (okO_iff.mp h1))) rfl j2_ok (by decide) rfl w263 d_Ls_enter_83 ?_
      refine x_iconst (v := (1 : Int32)) C d_Ls_enter_86 (by decide) ?_
      refine x_isub C d_Ls_enter_87 ?_
      exact x_iret C d_Ls_enter_88
    · refine x_aload_n C d_Ls_enter_89 1 rfl ?_
      refine x_gd (fun h17 => ?_)
      refine x_getR (k := 4) (kv := 102) C (okO_iff.mp h1) rfl j2_ok (by decide) rfl (okO_iff.mp h17) (by decide) w256 d_Ls_enter_90 ?_
      refine x_iload C d_Ls_enter_93 0 rfl ?_
      refine x_gd (fun h18 => ?_)
      refine x_aldJ C (okO_iff.mp h17) (inB_iff.mp h18) d_Ls_enter_95 ?_
      refine x_lload_n C d_Ls_enter_96 2 rfl ?_
      refine x_lcmp C d_Ls_enter_97 ?_
      refine x_if_ne (tgt := 115) C d_Ls_enter_98 (by decide) (fun _ => ?_) (fun _ => ?_)
      · refine x_aload_n C d_Ls_enter_101 1 rfl ?_
        refine x_gd (fun h19 => ?_)
        refine x_getR (k := 5) (kv := 101) C (okO_iff.mp h1) rfl j2_ok (by decide) rfl (okO_iff.mp h19) (by decide) w257 d_Ls_enter_102 ?_
        refine x_iload C d_Ls_enter_105 0 rfl ?_
        refine x_dup2 C d_Ls_enter_107 rfl rfl ?_
        refine x_gd (fun h20 => ?_)
        refine x_aldI C (okO_iff.mp h19) (inB_iff.mp h20) d_Ls_enter_108 ?_
        refine x_iconst (v := (1 : Int32)) C d_Ls_enter_109 (by decide) ?_
        refine x_iadd C d_Ls_enter_110 ?_
        refine x_astI C (okO_iff.mp h19) (inB_iff.mp h20) d_Ls_enter_111 ?_
        refine x_letS (fun σ21 e22 => ?_)
        refine x_iload C d_Ls_enter_112 0 rfl ?_
        exact x_iret C d_Ls_enter_114
      · refine x_iload_n C d_Ls_enter_115 3 rfl ?_
        refine x_iconst (v := (1 : Int32)) C d_Ls_enter_116 (by decide) ?_
        refine x_iadd C d_Ls_enter_117 ?_
        refine x_aload_n C d_Ls_enter_118 1 rfl ?_
        refine x_getI (k := 10) C (okO_iff.mp h1) rfl j2_ok (by decide) rfl w262 d_Ls_enter_119 ?_
        refine x_iconst (v := (1 : Int32)) C d_Ls_enter_122 (by decide) ?_
        refine x_isub C d_Ls_enter_123 ?_
        refine x_iand C d_Ls_enter_124 ?_
        refine x_letI (fun x23 _ => ?_)
        refine x_istore_n (lv' := [(3, .int x23), (5, .int x4), (0, .ref v0R), (1, .long v1J), (4, .int v4I)]) C d_Ls_enter_125 (by decide) rfl rfl ?_
        refine x_iinc (v := v4I + (1 : Int32)) (lv' := [(4, .int (v4I + (1 : Int32))), (3, .int x23), (5, .int x4), (0, .ref v0R), (1, .long v1J)]) C d_Ls_enter_126 4 rfl rfl (by decide) rfl ?_
        refine x_goto (tgt := 20) C d_Ls_enter_129 (by decide) ?_
        refine x_lv [3, 4, 1, 0] rfl ?_
        exact IH.2 v0R v1J x23 (v4I + (1 : Int32)) (σ)
  · refine x_iconst (v := ((-1) : Int32)) C d_Ls_enter_132 (by decide) ?_
    exact x_iret C d_Ls_enter_133
theorem i_Ls_enter {G : GX} {p : Program} {l : Launch} {e : Env} {s : State} {m : MethodId} {args : Array Value} {below : List Frame} {meth : Method} {c : Code} {z0 u0 : Nat} (C : Cx G p s m args meth c prog_6_method_18_code 6 "BellPlate$Lists" ((some FieldType.int))) (n : Nat) : I_Ls_enter G p l e s m args below meth c z0 u0 n := by
  induction n with
  | zero => exact ⟨fun _ _ _ => x_none, fun _ _ _ _ _ => x_none⟩
  | succ n IH => exact ⟨fun v0R v1J σ => s_Ls_enter_0 C IH v0R v1J σ, fun v0R v1J v3I v4I σ => s_Ls_enter_1 C IH v0R v1J v3I v4I σ⟩
theorem c_Ls_enter (G : GX) (l : Launch) (v0R : Nat) (v1J : Int64) (σ : AM) : CT eI G l 0 y_Ls_enter prog_6_method_18_code 6 ((some FieldType.int)) [.ref v0R, .long v1J] σ (M_Ls_enter v0R v1J σ) := by
  refine ct_of (by decide +kernel) (Nat.le_of_ble_eq_true rfl) (fun p e s m args below meth c C hin => ?_)
  refine x_lve (lv' := [(0, .ref v0R), (1, .long v1J)]) rfl ?_
  intro r σ' h
  obtain ⟨n, hn⟩ := (lp_iff _ _ _).mp h
  exact (i_Ls_enter C n).1 v0R v1J σ r σ' hn
/-! BellPlate$Lists.build()V -/
abbrev y_Ls_build : MethodName := ⟨"BellPlate$Lists", "build", "()V"⟩
theorem k_Ls_build : y_Ls_build.cls ≠ "java/lang/invoke/MethodHandle" ∧ y_Ls_build.cls ≠ "java/lang/invoke/VarHandle" ∧ (parseMethodDescriptor y_Ls_build.desc).map (fun d => d.parameters.length) = some 0 := by decide +kernel
theorem d_Ls_build_0 : decode prog_6_method_13_code 0 = .ok (.aload_n 0, 1) := by decide +kernel
theorem d_Ls_build_1 : decode prog_6_method_13_code 1 = .ok (.getfield 9, 3) := by decide +kernel
theorem d_Ls_build_4 : decode prog_6_method_13_code 4 = .ok (.invokevirtual 83, 3) := by decide +kernel
theorem d_Ls_build_7 : decode prog_6_method_13_code 7 = .ok (.istore_n 1, 1) := by decide +kernel
theorem d_Ls_build_8 : decode prog_6_method_13_code 8 = .ok (.aload_n 0, 1) := by decide +kernel
theorem d_Ls_build_9 : decode prog_6_method_13_code 9 = .ok (.iload_n 1, 1) := by decide +kernel
theorem d_Ls_build_10 : decode prog_6_method_13_code 10 = .ok (.invokevirtual 86, 3) := by decide +kernel
theorem d_Ls_build_13 : decode prog_6_method_13_code 13 = .ok (.aload_n 0, 1) := by decide +kernel
theorem d_Ls_build_14 : decode prog_6_method_13_code 14 = .ok (.iconst 0, 1) := by decide +kernel
theorem d_Ls_build_15 : decode prog_6_method_13_code 15 = .ok (.putfield 48, 3) := by decide +kernel
theorem d_Ls_build_18 : decode prog_6_method_13_code 18 = .ok (.aload_n 0, 1) := by decide +kernel
theorem d_Ls_build_19 : decode prog_6_method_13_code 19 = .ok (.iconst 0, 1) := by decide +kernel
theorem d_Ls_build_20 : decode prog_6_method_13_code 20 = .ok (.putfield 52, 3) := by decide +kernel
theorem d_Ls_build_23 : decode prog_6_method_13_code 23 = .ok (.aload_n 0, 1) := by decide +kernel
theorem d_Ls_build_24 : decode prog_6_method_13_code 24 = .ok (.getfield 9, 3) := by decide +kernel
theorem d_Ls_build_27 : decode prog_6_method_13_code 27 = .ok (.invokevirtual 78, 3) := by decide +kernel
theorem d_Ls_build_30 : decode prog_6_method_13_code 30 = .ok (.iconst 2, 1) := by decide +kernel
theorem d_Ls_build_31 : decode prog_6_method_13_code 31 = .ok (.idiv, 1) := by decide +kernel
theorem d_Ls_build_32 : decode prog_6_method_13_code 32 = .ok (.istore_n 2, 1) := by decide +kernel
theorem d_Ls_build_33 : decode prog_6_method_13_code 33 = .ok (.aload_n 0, 1) := by decide +kernel
theorem d_Ls_build_34 : decode prog_6_method_13_code 34 = .ok (.iload_n 2, 1) := by decide +kernel
theorem d_Ls_build_35 : decode prog_6_method_13_code 35 = .ok (.invokevirtual 89, 3) := by decide +kernel
theorem d_Ls_build_38 : decode prog_6_method_13_code 38 = .ok (.istore_n 3, 1) := by decide +kernel
theorem d_Ls_build_39 : decode prog_6_method_13_code 39 = .ok (.aload_n 0, 1) := by decide +kernel
theorem d_Ls_build_40 : decode prog_6_method_13_code 40 = .ok (.getfield 17, 3) := by decide +kernel
theorem d_Ls_build_43 : decode prog_6_method_13_code 43 = .ok (.iconst 0, 1) := by decide +kernel
theorem d_Ls_build_44 : decode prog_6_method_13_code 44 = .ok (.invokestatic 92, 3) := by decide +kernel
theorem d_Ls_build_47 : decode prog_6_method_13_code 47 = .ok (.iconst 0, 1) := by decide +kernel
theorem d_Ls_build_48 : decode prog_6_method_13_code 48 = .ok (.istore 4, 2) := by decide +kernel
theorem d_Ls_build_50 : decode prog_6_method_13_code 50 = .ok (.iconst 0, 1) := by decide +kernel
theorem d_Ls_build_51 : decode prog_6_method_13_code 51 = .ok (.istore 5, 2) := by decide +kernel
theorem d_Ls_build_53 : decode prog_6_method_13_code 53 = .ok (.iconst 0, 1) := by decide +kernel
theorem d_Ls_build_54 : decode prog_6_method_13_code 54 = .ok (.istore 6, 2) := by decide +kernel
theorem d_Ls_build_56 : decode prog_6_method_13_code 56 = .ok (.iload 6, 2) := by decide +kernel
theorem d_Ls_build_58 : decode prog_6_method_13_code 58 = .ok (.iload_n 1, 1) := by decide +kernel
theorem d_Ls_build_59 : decode prog_6_method_13_code 59 = .ok (.if_icmp .ge 105, 3) := by decide +kernel
theorem d_Ls_build_62 : decode prog_6_method_13_code 62 = .ok (.iload 5, 2) := by decide +kernel
theorem d_Ls_build_64 : decode prog_6_method_13_code 64 = .ok (.ifCond .ne 8, 3) := by decide +kernel
theorem d_Ls_build_67 : decode prog_6_method_13_code 67 = .ok (.aload_n 0, 1) := by decide +kernel
theorem d_Ls_build_68 : decode prog_6_method_13_code 68 = .ok (.iload_n 2, 1) := by decide +kernel
theorem d_Ls_build_69 : decode prog_6_method_13_code 69 = .ok (.invokevirtual 98, 3) := by decide +kernel
theorem d_Ls_build_72 : decode prog_6_method_13_code 72 = .ok (.aload_n 0, 1) := by decide +kernel
theorem d_Ls_build_73 : decode prog_6_method_13_code 73 = .ok (.getfield 36, 3) := by decide +kernel
theorem d_Ls_build_76 : decode prog_6_method_13_code 76 = .ok (.iload 6, 2) := by decide +kernel
theorem d_Ls_build_78 : decode prog_6_method_13_code 78 = .ok (.iconst (-1), 1) := by decide +kernel
theorem d_Ls_build_79 : decode prog_6_method_13_code 79 = .ok (.iastore, 1) := by decide +kernel
theorem d_Ls_build_80 : decode prog_6_method_13_code 80 = .ok (.aload_n 0, 1) := by decide +kernel
theorem d_Ls_build_81 : decode prog_6_method_13_code 81 = .ok (.getfield 9, 3) := by decide +kernel
theorem d_Ls_build_84 : decode prog_6_method_13_code 84 = .ok (.aload_n 0, 1) := by decide +kernel
theorem d_Ls_build_85 : decode prog_6_method_13_code 85 = .ok (.getfield 17, 3) := by decide +kernel
theorem d_Ls_build_88 : decode prog_6_method_13_code 88 = .ok (.iload 4, 2) := by decide +kernel
theorem d_Ls_build_90 : decode prog_6_method_13_code 90 = .ok (.invokevirtual 101, 3) := by decide +kernel
theorem d_Ls_build_93 : decode prog_6_method_13_code 93 = .ok (.ifCond .eq 31, 3) := by decide +kernel
theorem d_Ls_build_96 : decode prog_6_method_13_code 96 = .ok (.aload_n 0, 1) := by decide +kernel
theorem d_Ls_build_97 : decode prog_6_method_13_code 97 = .ok (.getfield 36, 3) := by decide +kernel
theorem d_Ls_build_100 : decode prog_6_method_13_code 100 = .ok (.iload 6, 2) := by decide +kernel
theorem d_Ls_build_102 : decode prog_6_method_13_code 102 = .ok (.aload_n 0, 1) := by decide +kernel
theorem d_Ls_build_103 : decode prog_6_method_13_code 103 = .ok (.aload_n 0, 1) := by decide +kernel
theorem d_Ls_build_104 : decode prog_6_method_13_code 104 = .ok (.iload 5, 2) := by decide +kernel
theorem d_Ls_build_106 : decode prog_6_method_13_code 106 = .ok (.iload_n 2, 1) := by decide +kernel
theorem d_Ls_build_107 : decode prog_6_method_13_code 107 = .ok (.invokevirtual 105, 3) := by decide +kernel
theorem d_Ls_build_110 : decode prog_6_method_13_code 110 = .ok (.invokevirtual 109, 3) := by decide +kernel
theorem d_Ls_build_113 : decode prog_6_method_13_code 113 = .ok (.iastore, 1) := by decide +kernel
theorem d_Ls_build_114 : decode prog_6_method_13_code 114 = .ok (.aload_n 0, 1) := by decide +kernel
theorem d_Ls_build_115 : decode prog_6_method_13_code 115 = .ok (.dup, 1) := by decide +kernel
theorem d_Ls_build_116 : decode prog_6_method_13_code 116 = .ok (.getfield 52, 3) := by decide +kernel
theorem d_Ls_build_119 : decode prog_6_method_13_code 119 = .ok (.iconst 1, 1) := by decide +kernel
theorem d_Ls_build_120 : decode prog_6_method_13_code 120 = .ok (.iadd, 1) := by decide +kernel
theorem d_Ls_build_121 : decode prog_6_method_13_code 121 = .ok (.putfield 52, 3) := by decide +kernel
theorem d_Ls_build_124 : decode prog_6_method_13_code 124 = .ok (.iload 4, 2) := by decide +kernel
theorem d_Ls_build_126 : decode prog_6_method_13_code 126 = .ok (.aload_n 0, 1) := by decide +kernel
theorem d_Ls_build_127 : decode prog_6_method_13_code 127 = .ok (.getfield 9, 3) := by decide +kernel
theorem d_Ls_build_130 : decode prog_6_method_13_code 130 = .ok (.aload_n 0, 1) := by decide +kernel
theorem d_Ls_build_131 : decode prog_6_method_13_code 131 = .ok (.getfield 17, 3) := by decide +kernel
theorem d_Ls_build_134 : decode prog_6_method_13_code 134 = .ok (.invokevirtual 113, 3) := by decide +kernel
theorem d_Ls_build_137 : decode prog_6_method_13_code 137 = .ok (.iadd, 1) := by decide +kernel
theorem d_Ls_build_138 : decode prog_6_method_13_code 138 = .ok (.istore 4, 2) := by decide +kernel
theorem d_Ls_build_140 : decode prog_6_method_13_code 140 = .ok (.iload 5, 2) := by decide +kernel
theorem d_Ls_build_142 : decode prog_6_method_13_code 142 = .ok (.iconst 1, 1) := by decide +kernel
theorem d_Ls_build_143 : decode prog_6_method_13_code 143 = .ok (.iadd, 1) := by decide +kernel
theorem d_Ls_build_144 : decode prog_6_method_13_code 144 = .ok (.iload_n 3, 1) := by decide +kernel
theorem d_Ls_build_145 : decode prog_6_method_13_code 145 = .ok (.if_icmp .ge 10, 3) := by decide +kernel
theorem d_Ls_build_148 : decode prog_6_method_13_code 148 = .ok (.iload 5, 2) := by decide +kernel
theorem d_Ls_build_150 : decode prog_6_method_13_code 150 = .ok (.iconst 1, 1) := by decide +kernel
theorem d_Ls_build_151 : decode prog_6_method_13_code 151 = .ok (.iadd, 1) := by decide +kernel
theorem d_Ls_build_152 : decode prog_6_method_13_code 152 = .ok (.goto 4, 3) := by decide +kernel
theorem d_Ls_build_155 : decode prog_6_method_13_code 155 = .ok (.iconst 0, 1) := by decide +kernel
theorem d_Ls_build_156 : decode prog_6_method_13_code 156 = .ok (.istore 5, 2) := by decide +kernel
theorem d_Ls_build_158 : decode prog_6_method_13_code 158 = .ok (.iinc 6 1, 3) := by decide +kernel
theorem d_Ls_build_161 : decode prog_6_method_13_code 161 = .ok (.goto (-105), 3) := by decide +kernel
theorem d_Ls_build_164 : decode prog_6_method_13_code 164 = .ok (.return_, 1) := by decide +kernel
abbrev S_Ls_build : Type := Nat × Nat × Int32 × Int32 × Int32 × Int32 × Int32 × Int32 × Int32 × AM
noncomputable def T_Ls_build_0 (v0R : Nat) (σ : AM) : S_Ls_build ⊕ Option (Unit × AM) :=
  gdT (okO σ v0R 3) <| gdT (okO σ (aR σ v0R 0) 1) <| bndT (M_Tw_all (aR σ v0R 0) σ) fun r3 σ4 => gdT (okO σ4 v0R 3) <| bndT (M_Ls_makeRoom v0R r3 σ4) fun _ σ6 => gdT (okO σ6 v0R 3) <| letT (sI σ6 v0R 11 (0 : Int32)) fun σ9 => letT (sI σ9 v0R 12 (0 : Int32)) fun σ11 => gdT (okO σ11 (aR σ11 v0R 0) 1) <| bndT (M_Tw_things (aR σ11 v0R 0) σ11) fun r14 σ15 => letT (r14 / (2 : Int32)) fun x16 => gdT (okO σ15 v0R 3) <| bndT (M_Ls_makeLowBlocks v0R x16 σ15) fun r17 σ18 => gdT (okO σ18 v0R 3) <| gdT (okO σ18 (aR σ18 v0R 1) 101) <| bndT (M_JArr_fill2 (aR σ18 v0R 1) (0 : Int32) σ18) fun _ σ23 => .inl (1, v0R, r3, x16, r17, (0 : Int32), (0 : Int32), (0 : Int32), 0, σ23)
noncomputable def T_Ls_build_1 (v0R : Nat) (v1I : Int32) (v2I : Int32) (v3I : Int32) (v4I : Int32) (v5I : Int32) (v6I : Int32) (σ : AM) : S_Ls_build ⊕ Option (Unit × AM) :=
  if v6I < v1I then (if v5I = 0 then (gdT (okO σ v0R 3) <| bndT (M_Ls_weighHigh v0R v2I σ) fun _ σ2 => .inl (2, v0R, v1I, v2I, v3I, v4I, v5I, v6I, 0, σ2)) else (.inl (2, v0R, v1I, v2I, v3I, v4I, v5I, v6I, 0, σ))) else (.inr (some ((), σ)))
noncomputable def T_Ls_build_2 (v0R : Nat) (v1I : Int32) (v2I : Int32) (v3I : Int32) (v4I : Int32) (v5I : Int32) (v6I : Int32) (σ : AM) : S_Ls_build ⊕ Option (Unit × AM) :=
  gdT (okO σ v0R 3) <| gdT (okO σ (aR σ v0R 6) 101) <| gdT (inB v6I (aN σ (aR σ v0R 6))) <| letT (sI σ (aR σ v0R 6) v6I.toNatClampNeg ((-1) : Int32)) fun σ4 => gdT (okO σ4 (aR σ4 v0R 0) 1) <| gdT (okO σ4 (aR σ4 v0R 1) 101) <| bndT (M_Tw_permits (aR σ4 v0R 0) (aR σ4 v0R 1) v4I σ4) fun r8 σ9 => if r8 = 0 then (.inl (3, v0R, v1I, v2I, v3I, v4I, v5I, v6I, 0, σ9)) else (gdT (okO σ9 v0R 3) <| gdT (okO σ9 (aR σ9 v0R 6) 101) <| bndT (M_Ls_joinBlocks v0R v5I v2I σ9) fun r12 σ13 => gdT (okO σ13 v0R 3) <| bndT (M_Ls_enter v0R r12 σ13) fun r14 σ15 => gdT (okO σ15 (aR σ9 v0R 6) 101) <| gdT (inB v6I (aN σ15 (aR σ9 v0R 6))) <| letT (sI σ15 (aR σ9 v0R 6) v6I.toNatClampNeg r14) fun σ19 => gdT (okO σ19 v0R 3) <| letT (sI σ19 v0R 12 ((aI σ19 v0R 12) + (1 : Int32))) fun σ22 => .inl (3, v0R, v1I, v2I, v3I, v4I, v5I, v6I, 0, σ22))
noncomputable def T_Ls_build_3 (v0R : Nat) (v1I : Int32) (v2I : Int32) (v3I : Int32) (v4I : Int32) (v5I : Int32) (v6I : Int32) (σ : AM) : S_Ls_build ⊕ Option (Unit × AM) :=
  gdT (okO σ v0R 3) <| gdT (okO σ (aR σ v0R 0) 1) <| gdT (okO σ (aR σ v0R 1) 101) <| bndT (M_Tw_step (aR σ v0R 0) (aR σ v0R 1) σ) fun r4 σ5 => letT (v4I + r4) fun x6 => if (v5I + (1 : Int32)) < v3I then (.inl (4, v0R, v1I, v2I, v3I, x6, 0, v6I, v5I + (1 : Int32), σ5)) else (.inl (4, v0R, v1I, v2I, v3I, x6, 0, v6I, (0 : Int32), σ5))
noncomputable def T_Ls_build_4 (v0R : Nat) (v1I : Int32) (v2I : Int32) (v3I : Int32) (v4I : Int32) (v6I : Int32) (s0I : Int32) (σ : AM) : S_Ls_build ⊕ Option (Unit × AM) :=
  .inl (1, v0R, v1I, v2I, v3I, v4I, s0I, v6I + (1 : Int32), 0, σ)
noncomputable def F_Ls_build : S_Ls_build → S_Ls_build ⊕ Option (Unit × AM) := fun s => match s.1 with
  | 0 => T_Ls_build_0 (s.2.1) (s.2.2.2.2.2.2.2.2.2)
  | 1 => T_Ls_build_1 (s.2.1) (s.2.2.1) (s.2.2.2.1) (s.2.2.2.2.1) (s.2.2.2.2.2.1) (s.2.2.2.2.2.2.1) (s.2.2.2.2.2.2.2.1) (s.2.2.2.2.2.2.2.2.2)
  | 2 => T_Ls_build_2 (s.2.1) (s.2.2.1) (s.2.2.2.1) (s.2.2.2.2.1) (s.2.2.2.2.2.1) (s.2.2.2.2.2.2.1) (s.2.2.2.2.2.2.2.1) (s.2.2.2.2.2.2.2.2.2)
  | 3 => T_Ls_build_3 (s.2.1) (s.2.2.1) (s.2.2.2.1) (s.2.2.2.2.1) (s.2.2.2.2.2.1) (s.2.2.2.2.2.2.1) (s.2.2.2.2.2.2.2.1) (s.2.2.2.2.2.2.2.2.2)
  | _ => T_Ls_build_4 (s.2.1) (s.2.2.1) (s.2.2.2.1) (s.2.2.2.2.1) (s.2.2.2.2.2.1) (s.2.2.2.2.2.2.2.1) (s.2.2.2.2.2.2.2.2.1) (s.2.2.2.2.2.2.2.2.2)
noncomputable def L_Ls_build_0 (v0R : Nat) (σ : AM) : Option (Unit × AM) := lp F_Ls_build (0, v0R, 0, 0, 0, 0, 0, 0, 0, σ)
noncomputable def L_Ls_build_1 (v0R : Nat) (v1I : Int32) (v2I : Int32) (v3I : Int32) (v4I : Int32) (v5I : Int32) (v6I : Int32) (σ : AM) : Option (Unit × AM) := lp F_Ls_build (1, v0R, v1I, v2I, v3I, v4I, v5I, v6I, 0, σ)
noncomputable def L_Ls_build_2 (v0R : Nat) (v1I : Int32) (v2I : Int32) (v3I : Int32) (v4I : Int32) (v5I : Int32) (v6I : Int32) (σ : AM) : Option (Unit × AM) := lp F_Ls_build (2, v0R, v1I, v2I, v3I, v4I, v5I, v6I, 0, σ)
noncomputable def L_Ls_build_3 (v0R : Nat) (v1I : Int32) (v2I : Int32) (v3I : Int32) (v4I : Int32) (v5I : Int32) (v6I : Int32) (σ : AM) : Option (Unit × AM) := lp F_Ls_build (3, v0R, v1I, v2I, v3I, v4I, v5I, v6I, 0, σ)
noncomputable def L_Ls_build_4 (v0R : Nat) (v1I : Int32) (v2I : Int32) (v3I : Int32) (v4I : Int32) (v6I : Int32) (s0I : Int32) (σ : AM) : Option (Unit × AM) := lp F_Ls_build (4, v0R, v1I, v2I, v3I, v4I, 0, v6I, s0I, σ)
set_option maxRecDepth 20000 in
theorem E_Ls_build_0 (v0R : Nat) (σ : AM) : L_Ls_build_0 v0R σ = (gd (okO σ v0R 3) <| gd (okO σ (aR σ v0R 0) 1) <| bnd (M_Tw_all (aR σ v0R 0) σ) fun r3 σ4 => gd (okO σ4 v0R 3) <| bnd (M_Ls_makeRoom v0R r3 σ4) fun _ σ6 => gd (okO σ6 v0R 3) <| letT (sI σ6 v0R 11 (0 : Int32)) fun σ9 => letT (sI σ9 v0R 12 (0 : Int32)) fun σ11 => gd (okO σ11 (aR σ11 v0R 0) 1) <| bnd (M_Tw_things (aR σ11 v0R 0) σ11) fun r14 σ15 => letT (r14 / (2 : Int32)) fun x16 => gd (okO σ15 v0R 3) <| bnd (M_Ls_makeLowBlocks v0R x16 σ15) fun r17 σ18 => gd (okO σ18 v0R 3) <| gd (okO σ18 (aR σ18 v0R 1) 101) <| bnd (M_JArr_fill2 (aR σ18 v0R 1) (0 : Int32) σ18) fun _ σ23 => L_Ls_build_1 v0R r3 x16 r17 ((0 : Int32)) ((0 : Int32)) ((0 : Int32)) σ23) := by
  unfold L_Ls_build_0
  rw [lp_eq]
  show lpK (lp F_Ls_build) (T_Ls_build_0 v0R σ) = _
  unfold T_Ls_build_0
  simp only [lpK_ite, lq_inl, lq_inr, lpK_bnd, lpK_gd, lq_let]
  try rfl
set_option maxRecDepth 20000 in
theorem E_Ls_build_1 (v0R : Nat) (v1I : Int32) (v2I : Int32) (v3I : Int32) (v4I : Int32) (v5I : Int32) (v6I : Int32) (σ : AM) : L_Ls_build_1 v0R v1I v2I v3I v4I v5I v6I σ = (if v6I < v1I then (if v5I = 0 then (gd (okO σ v0R 3) <| bnd (M_Ls_weighHigh v0R v2I σ) fun _ σ2 => L_Ls_build_2 v0R v1I v2I v3I v4I v5I v6I σ2) else (L_Ls_build_2 v0R v1I v2I v3I v4I v5I v6I σ)) else ((some ((), σ)))) := by
  unfold L_Ls_build_1
  rw [lp_eq]
  show lpK (lp F_Ls_build) (T_Ls_build_1 v0R v1I v2I v3I v4I v5I v6I σ) = _
  unfold T_Ls_build_1
  simp only [lpK_ite, lq_inl, lq_inr, lpK_bnd, lpK_gd, lq_let]
  try rfl
set_option maxRecDepth 20000 in
theorem E_Ls_build_2 (v0R : Nat) (v1I : Int32) (v2I : Int32) (v3I : Int32) (v4I : Int32) (v5I : Int32) (v6I : Int32) (σ : AM) : L_Ls_build_2 v0R v1I v2I v3I v4I v5I v6I σ = (gd (okO σ v0R 3) <| gd (okO σ (aR σ v0R 6) 101) <| gd (inB v6I (aN σ (aR σ v0R 6))) <| letT (sI σ (aR σ v0R 6) v6I.toNatClampNeg ((-1) : Int32)) fun σ4 => gd (okO σ4 (aR σ4 v0R 0) 1) <| gd (okO σ4 (aR σ4 v0R 1) 101) <| bnd (M_Tw_permits (aR σ4 v0R 0) (aR σ4 v0R 1) v4I σ4) fun r8 σ9 => if r8 = 0 then (L_Ls_build_3 v0R v1I v2I v3I v4I v5I v6I σ9) else (gd (okO σ9 v0R 3) <| gd (okO σ9 (aR σ9 v0R 6) 101) <| bnd (M_Ls_joinBlocks v0R v5I v2I σ9) fun r12 σ13 => gd (okO σ13 v0R 3) <| bnd (M_Ls_enter v0R r12 σ13) fun r14 σ15 => gd (okO σ15 (aR σ9 v0R 6) 101) <| gd (inB v6I (aN σ15 (aR σ9 v0R 6))) <| letT (sI σ15 (aR σ9 v0R 6) v6I.toNatClampNeg r14) fun σ19 => gd (okO σ19 v0R 3) <| letT (sI σ19 v0R 12 ((aI σ19 v0R 12) + (1 : Int32))) fun σ22 => L_Ls_build_3 v0R v1I v2I v3I v4I v5I v6I σ22)) := by
  unfold L_Ls_build_2
  rw [lp_eq]
  show lpK (lp F_Ls_build) (T_Ls_build_2 v0R v1I v2I v3I v4I v5I v6I σ) = _
  unfold T_Ls_build_2
  simp only [lpK_ite, lq_inl, lq_inr, lpK_bnd, lpK_gd, lq_let]
  try rfl
set_option maxRecDepth 20000 in
theorem E_Ls_build_3 (v0R : Nat) (v1I : Int32) (v2I : Int32) (v3I : Int32) (v4I : Int32) (v5I : Int32) (v6I : Int32) (σ : AM) : L_Ls_build_3 v0R v1I v2I v3I v4I v5I v6I σ = (gd (okO σ v0R 3) <| gd (okO σ (aR σ v0R 0) 1) <| gd (okO σ (aR σ v0R 1) 101) <| bnd (M_Tw_step (aR σ v0R 0) (aR σ v0R 1) σ) fun r4 σ5 => letT (v4I + r4) fun x6 => if (v5I + (1 : Int32)) < v3I then (L_Ls_build_4 v0R v1I v2I v3I x6 v6I (v5I + (1 : Int32)) σ5) else (L_Ls_build_4 v0R v1I v2I v3I x6 v6I ((0 : Int32)) σ5)) := by
  unfold L_Ls_build_3
  rw [lp_eq]
  show lpK (lp F_Ls_build) (T_Ls_build_3 v0R v1I v2I v3I v4I v5I v6I σ) = _
  unfold T_Ls_build_3
  simp only [lpK_ite, lq_inl, lq_inr, lpK_bnd, lpK_gd, lq_let]
  try rfl
set_option maxRecDepth 20000 in
theorem E_Ls_build_4 (v0R : Nat) (v1I : Int32) (v2I : Int32) (v3I : Int32) (v4I : Int32) (v6I : Int32) (s0I : Int32) (σ : AM) : L_Ls_build_4 v0R v1I v2I v3I v4I v6I s0I σ = (L_Ls_build_1 v0R v1I v2I v3I v4I s0I (v6I + (1 : Int32)) σ) := by
  unfold L_Ls_build_4
  rw [lp_eq]
  show lpK (lp F_Ls_build) (T_Ls_build_4 v0R v1I v2I v3I v4I v6I s0I σ) = _
  unfold T_Ls_build_4
  simp only [lpK_ite, lq_inl, lq_inr, lpK_bnd, lpK_gd, lq_let]
  try rfl
noncomputable def M_Ls_build (v0R : Nat) (σ : AM) : Option (Unit × AM) := mw σ (L_Ls_build_0 v0R σ)
def I_Ls_build (G : GX) (p : Program) (l : Launch) (e : Env) (s : State) (m : MethodId) (args : Array Value) (below : List Frame) (meth : Method) (c : Code) (z0 u0 n : Nat) : Prop :=
  (∀ (v0R : Nat) (σ : AM), VX (QM eV G args s below z0 u0) G p l e s m args below meth c 4 z0 u0 7 (lpn F_Ls_build n (0, v0R, 0, 0, 0, 0, 0, 0, 0, σ)) 0 [(0, .ref v0R)] [] σ) ∧
  (∀ (v0R : Nat) (v1I : Int32) (v2I : Int32) (v3I : Int32) (v4I : Int32) (v5I : Int32) (v6I : Int32) (σ : AM), VX (QM eV G args s below z0 u0) G p l e s m args below meth c 4 z0 u0 7 (lpn F_Ls_build n (1, v0R, v1I, v2I, v3I, v4I, v5I, v6I, 0, σ)) 56 [(0, .ref v0R), (1, .int v1I), (2, .int v2I), (3, .int v3I), (4, .int v4I), (5, .int v5I), (6, .int v6I)] [] σ) ∧
  (∀ (v0R : Nat) (v1I : Int32) (v2I : Int32) (v3I : Int32) (v4I : Int32) (v5I : Int32) (v6I : Int32) (σ : AM), VX (QM eV G args s below z0 u0) G p l e s m args below meth c 4 z0 u0 7 (lpn F_Ls_build n (2, v0R, v1I, v2I, v3I, v4I, v5I, v6I, 0, σ)) 72 [(0, .ref v0R), (1, .int v1I), (2, .int v2I), (3, .int v3I), (4, .int v4I), (5, .int v5I), (6, .int v6I)] [] σ) ∧
  (∀ (v0R : Nat) (v1I : Int32) (v2I : Int32) (v3I : Int32) (v4I : Int32) (v5I : Int32) (v6I : Int32) (σ : AM), VX (QM eV G args s below z0 u0) G p l e s m args below meth c 4 z0 u0 7 (lpn F_Ls_build n (3, v0R, v1I, v2I, v3I, v4I, v5I, v6I, 0, σ)) 124 [(0, .ref v0R), (1, .int v1I), (2, .int v2I), (3, .int v3I), (4, .int v4I), (5, .int v5I), (6, .int v6I)] [] σ) ∧
  (∀ (v0R : Nat) (v1I : Int32) (v2I : Int32) (v3I : Int32) (v4I : Int32) (v6I : Int32) (s0I : Int32) (σ : AM), VX (QM eV G args s below z0 u0) G p l e s m args below meth c 4 z0 u0 7 (lpn F_Ls_build n (4, v0R, v1I, v2I, v3I, v4I, 0, v6I, s0I, σ)) 156 [(0, .ref v0R), (1, .int v1I), (2, .int v2I), (3, .int v3I), (4, .int v4I), (6, .int v6I)] [.int s0I] σ)
set_option maxRecDepth 20000 in
theorem s_Ls_build_0 {G : GX} {p : Program} {l : Launch} {e : Env} {s : State} {m : MethodId} {args : Array Value} {below : List Frame} {meth : Method} {c : Code} {z0 u0 n : Nat} (C : Cx G p s m args meth c prog_6_method_13_code 7 "BellPlate$Lists" ((none))) (IH : I_Ls_build G p l e s m args below meth c z0 u0 n) (v0R : Nat) (σ : AM) : VX (QM eV G args s below z0 u0) G p l e s m args below meth c 4 z0 u0 7 (lpK (lpn F_Ls_build n) (T_Ls_build_0 v0R σ)) 0 [(0, .ref v0R)] [] σ := by
  unfold T_Ls_build_0
  refine x_aload_n C d_Ls_build_0 0 rfl ?_
  refine x_gd (fun h1 => ?_)
  refine x_gd (fun h2 => ?_)
  refine x_getR (k := 0) (kv := 1) C (okO_iff.mp h1) rfl j2_ok (by decide) rfl (okO_iff.mp h2) (by decide) w252 d_Ls_build_1 ?_
  refine x_callVI (As := []) C (c_Tw_all G l (aR σ v0R 0)  σ) (okO_iff.mp h2) rfl w630 w631 w629 w632 w122 k_Tw_all rfl (by decide) (by decide) rfl (Nat.le_of_ble_eq_true rfl) d_Ls_build_4 (fun r3 σ4 => ?_)
  refine x_istore_n (lv' := [(1, .int r3), (0, .ref v0R)]) C d_Ls_build_7 (by decide) rfl rfl ?_
  refine x_aload_n C d_Ls_build_8 1 rfl ?_
  refine x_iload_n C d_Ls_build_9 0 rfl ?_
  refine x_gd (fun h7 => ?_)
  refine x_callVV (As := [.int r3]) C (c_Ls_makeRoom G l v0R r3 σ4) (okO_iff.mp h7) rfl w635 w1 w633 w636 w123 k_Ls_makeRoom rfl (by decide) (by decide) rfl (Nat.le_of_ble_eq_true rfl) d_Ls_build_10 (fun r5 σ6 => ?_)
  refine x_aload_n C d_Ls_build_13 1 rfl ?_
  refine x_iconst (v := (0 : Int32)) C d_Ls_build_14 (by decide) ?_
  refine x_gd (fun h8 => ?_)
  refine x_putI (k := 11) C (okO_iff.mp h8) rfl j2_ok y2_ok n2_ok (by decide) rfl rfl rfl rfl w263 d_Ls_build_15 ?_
  refine x_letS (fun σ9 e10 => ?_)
  refine x_aload_n C d_Ls_build_18 1 rfl ?_
  refine x_iconst (v := (0 : Int32)) C d_Ls_build_19 (by decide) ?_
  refine x_putI (k := 12) C (by first | exact (okO_iff.mp h8) | (rw [e10]; exact (okO_iff.mp h8))) rfl j2_ok y2_ok n2_ok (by decide) rfl rfl rfl rfl w264 d_Ls_build_20 ?_
  refine x_letS (fun σ11 e12 => ?_)
  refine x_aload_n C d_Ls_build_23 1 rfl ?_
  refine x_gd (fun h13 => ?_)
  refine x_getR (k := 0) (kv := 1) C (by first | exact (okO_iff.mp h8) | (rw [e12, e10]; exact (okO_iff.mp h8))) rfl j2_ok (by decide) rfl (okO_iff.mp h13) (by decide) w252 d_Ls_build_24 ?_
  refine x_callVI (As := []) C (c_Tw_things G l (aR σ11 v0R 0)  σ11) (okO_iff.mp h13) rfl w643 w644 w642 w645 w122 k_Tw_things rfl (by decide) (by decide) rfl (Nat.le_of_ble_eq_true rfl) d_Ls_build_27 (fun r14 σ15 => ?_)
  refine x_iconst (v := (2 : Int32)) C d_Ls_build_30 (by decide) ?_
  refine x_idiv C d_Ls_build_31 (by decide) ?_
  refine x_letI (fun x16 _ => ?_)
  refine x_istore_n (lv' := [(2, .int x16), (1, .int r3), (0, .ref v0R)]) C d_Ls_build_32 (by decide) rfl rfl ?_
  refine x_aload_n C d_Ls_build_33 2 rfl ?_
  refine x_iload_n C d_Ls_build_34 0 rfl ?_
  refine x_gd (fun h19 => ?_)
  refine x_callVI (As := [.int x16]) C (c_Ls_makeLowBlocks G l v0R x16 σ15) (okO_iff.mp h19) rfl w648 w2 w646 w649 w123 k_Ls_makeLowBlocks rfl (by decide) (by decide) rfl (Nat.le_of_ble_eq_true rfl) d_Ls_build_35 (fun r17 σ18 => ?_)
  refine x_istore_n (lv' := [(3, .int r17), (2, .int x16), (1, .int r3), (0, .ref v0R)]) C d_Ls_build_38 (by decide) rfl rfl ?_
  refine x_aload_n C d_Ls_build_39 3 rfl ?_
  refine x_gd (fun h20 => ?_)
  refine x_gd (fun h21 => ?_)
  refine x_getR (k := 1) (kv := 101) C (okO_iff.mp h20) rfl j2_ok (by decide) rfl (okO_iff.mp h21) (by decide) w253 d_Ls_build_40 ?_
  refine x_iconst (v := (0 : Int32)) C d_Ls_build_43 (by decide) ?_
  refine x_callSV (As := [.ref (aR σ18 v0R 1), .int (0 : Int32)]) C (c_JArr_fill2 G l (aR σ18 v0R 1) (0 : Int32) σ18) w377 w641 w378 w127 k_JArr_fill2 rfl (by decide) (by decide) rfl (Nat.le_of_ble_eq_true rfl) d_Ls_build_44 (fun r22 σ23 => ?_)
  refine x_iconst (v := (0 : Int32)) C d_Ls_build_47 (by decide) ?_
  refine x_istore (lv' := [(4, .int (0 : Int32)), (3, .int r17), (2, .int x16), (1, .int r3), (0, .ref v0R)]) C d_Ls_build_48 (by decide) rfl ?_
  refine x_iconst (v := (0 : Int32)) C d_Ls_build_50 (by decide) ?_
  refine x_istore (lv' := [(5, .int (0 : Int32)), (4, .int (0 : Int32)), (3, .int r17), (2, .int x16), (1, .int r3), (0, .ref v0R)]) C d_Ls_build_51 (by decide) rfl ?_
  refine x_iconst (v := (0 : Int32)) C d_Ls_build_53 (by decide) ?_
  refine x_istore (lv' := [(6, .int (0 : Int32)), (5, .int (0 : Int32)), (4, .int (0 : Int32)), (3, .int r17), (2, .int x16), (1, .int r3), (0, .ref v0R)]) C d_Ls_build_54 (by decide) rfl ?_
  refine x_lv [6, 5, 4, 3, 2, 1, 0] rfl ?_
  exact IH.2.1 v0R r3 x16 r17 ((0 : Int32)) ((0 : Int32)) ((0 : Int32)) (σ23)
set_option maxRecDepth 20000 in
theorem s_Ls_build_1 {G : GX} {p : Program} {l : Launch} {e : Env} {s : State} {m : MethodId} {args : Array Value} {below : List Frame} {meth : Method} {c : Code} {z0 u0 n : Nat} (C : Cx G p s m args meth c prog_6_method_13_code 7 "BellPlate$Lists" ((none))) (IH : I_Ls_build G p l e s m args below meth c z0 u0 n) (v0R : Nat) (v1I : Int32) (v2I : Int32) (v3I : Int32) (v4I : Int32) (v5I : Int32) (v6I : Int32) (σ : AM) : VX (QM eV G args s below z0 u0) G p l e s m args below meth c 4 z0 u0 7 (lpK (lpn F_Ls_build n) (T_Ls_build_1 v0R v1I v2I v3I v4I v5I v6I σ)) 56 [(0, .ref v0R), (1, .int v1I), (2, .int v2I), (3, .int v3I), (4, .int v4I), (5, .int v5I), (6, .int v6I)] [] σ := by
  unfold T_Ls_build_1
  refine x_iload C d_Ls_build_56 6 rfl ?_
  refine x_iload_n C d_Ls_build_58 1 rfl ?_
  refine x_icmp_ge (tgt := 164) C d_Ls_build_59 (by decide) (fun _ => ?_) (fun _ => ?_)
  · refine x_iload C d_Ls_build_62 5 rfl ?_
    refine x_if_ne (tgt := 72) C d_Ls_build_64 (by decide) (fun _ => ?_) (fun _ => ?_)
    · refine x_aload_n C d_Ls_build_67 0 rfl ?_
      refine x_iload_n C d_Ls_build_68 2 rfl ?_
      refine x_gd (fun h3 => ?_)
      refine x_callVV (As := [.int v2I]) C (c_Ls_weighHigh G l v0R v2I σ) (okO_iff.mp h3) rfl w668 w3 w666 w669 w123 k_Ls_weighHigh rfl (by decide) (by decide) rfl (Nat.le_of_ble_eq_true rfl) d_Ls_build_69 (fun r1 σ2 => ?_)
      exact IH.2.2.1 v0R v1I v2I v3I v4I v5I v6I (σ2)
    · exact IH.2.2.1 v0R v1I v2I v3I v4I v5I v6I (σ)
  · exact x_vret C d_Ls_build_164
set_option maxRecDepth 20000 in
theorem s_Ls_build_2 {G : GX} {p : Program} {l : Launch} {e : Env} {s : State} {m : MethodId} {args : Array Value} {below : List Frame} {meth : Method} {c : Code} {z0 u0 n : Nat} (C : Cx G p s m args meth c prog_6_method_13_code 7 "BellPlate$Lists" ((none))) (IH : I_Ls_build G p l e s m args below meth c z0 u0 n) (v0R : Nat) (v1I : Int32) (v2I : Int32) (v3I : Int32) (v4I : Int32) (v5I : Int32) (v6I : Int32) (σ : AM) : VX (QM eV G args s below z0 u0) G p l e s m args below meth c 4 z0 u0 7 (lpK (lpn F_Ls_build n) (T_Ls_build_2 v0R v1I v2I v3I v4I v5I v6I σ)) 72 [(0, .ref v0R), (1, .int v1I), (2, .int v2I), (3, .int v3I), (4, .int v4I), (5, .int v5I), (6, .int v6I)] [] σ := by
  unfold T_Ls_build_2
  refine x_aload_n C d_Ls_build_72 0 rfl ?_
  refine x_gd (fun h1 => ?_)
  refine x_gd (fun h2 => ?_)
  refine x_getR (k := 6) (kv := 101) C (okO_iff.mp h1) rfl j2_ok (by decide) rfl (okO_iff.mp h2) (by decide) w258 d_Ls_build_73 ?_
  refine x_iload C d_Ls_build_76 6 rfl ?_
  refine x_iconst (v := ((-1) : Int32)) C d_Ls_build_78 (by decide) ?_
  refine x_gd (fun h3 => ?_)
  refine x_astI C (okO_iff.mp h2) (inB_iff.mp h3) d_Ls_build_79 ?_
  refine x_letS (fun σ4 e5 => ?_)
  refine x_aload_n C d_Ls_build_80 0 rfl ?_
  refine x_gd (fun h6 => ?_)
  refine x_getR (k := 0) (kv := 1) C (by first | exact (okO_iff.mp h1) | (rw [e5]; exact (okO_iff.mp h1))) rfl j2_ok (by decide) rfl (okO_iff.mp h6) (by decide) w252 d_Ls_build_81 ?_
  refine x_aload_n C d_Ls_build_84 0 rfl ?_
  refine x_gd (fun h7 => ?_)
  refine x_getR (k := 1) (kv := 101) C (by first | exact (okO_iff.mp h1) | (rw [e5]; exact (okO_iff.mp h1))) rfl j2_ok (by decide) rfl (okO_iff.mp h7) (by decide) w253 d_Ls_build_85 ?_
  refine x_iload C d_Ls_build_88 4 rfl ?_
  refine x_callVI (As := [.ref (aR σ4 v0R 1), .int v4I]) C (c_Tw_permits G l (aR σ4 v0R 0) (aR σ4 v0R 1) v4I σ4) (okO_iff.mp h6) rfl w674 w675 w673 w676 w122 k_Tw_permits rfl (by decide) (by decide) rfl (Nat.le_of_ble_eq_true rfl) d_Ls_build_90 (fun r8 σ9 => ?_)
  refine x_if_eq (tgt := 124) C d_Ls_build_93 (by decide) (fun _ => ?_) (fun _ => ?_)
  · exact IH.2.2.2.1 v0R v1I v2I v3I v4I v5I v6I (σ9)
  · refine x_aload_n C d_Ls_build_96 0 rfl ?_
    refine x_gd (fun h10 => ?_)
    refine x_gd (fun h11 => ?_)
    refine x_getR (k := 6) (kv := 101) C (okO_iff.mp h10) rfl j2_ok (by decide) rfl (okO_iff.mp h11) (by decide) w258 d_Ls_build_97 ?_
    refine x_iload C d_Ls_build_100 6 rfl ?_
    refine x_aload_n C d_Ls_build_102 0 rfl ?_
    refine x_aload_n C d_Ls_build_103 0 rfl ?_
    refine x_iload C d_Ls_build_104 5 rfl ?_
    refine x_iload_n C d_Ls_build_106 2 rfl ?_
    refine x_callVJ (As := [.int v5I, .int v2I]) C (c_Ls_joinBlocks G l v0R v5I v2I σ9) (okO_iff.mp h10) rfl w679 w4 w677 w680 w123 k_Ls_joinBlocks rfl (by decide) (by decide) rfl (Nat.le_of_ble_eq_true rfl) d_Ls_build_107 (fun r12 σ13 => ?_)
    refine x_gd (fun h16 => ?_)
    refine x_callVI (As := [.long r12]) C (c_Ls_enter G l v0R r12 σ13) (okO_iff.mp h16) rfl w683 w5 w681 w684 w123 k_Ls_enter rfl (by decide) (by decide) rfl (Nat.le_of_ble_eq_true rfl) d_Ls_build_110 (fun r14 σ15 => ?_)
    refine x_gd (fun h17 => ?_)
    refine x_gd (fun h18 => ?_)
    refine x_astI C (okO_iff.mp h17) (inB_iff.mp h18) d_Ls_build_113 ?_
    refine x_letS (fun σ19 e20 => ?_)
    refine x_aload_n C d_Ls_build_114 0 rfl ?_
    refine x_dup C d_Ls_build_115 rfl ?_
    refine x_gd (fun h21 => ?_)
    refine x_getI (k := 12) C (okO_iff.mp h21) rfl j2_ok (by decide) rfl w264 d_Ls_build_116 ?_
    refine x_iconst (v := (1 : Int32)) C d_Ls_build_119 (by decide) ?_
    refine x_iadd C d_Ls_build_120 ?_
    refine x_putI (k := 12) C (okO_iff.mp h21) rfl j2_ok y2_ok n2_ok (by decide) rfl rfl rfl rfl w264 d_Ls_build_121 ?_
    refine x_letS (fun σ22 e23 => ?_)
    exact IH.2.2.2.1 v0R v1I v2I v3I v4I v5I v6I (σ22)
set_option maxRecDepth 20000 in
theorem s_Ls_build_3 {G : GX} {p : Program} {l : Launch} {e : Env} {s : State} {m : MethodId} {args : Array Value} {below : List Frame} {meth : Method} {c : Code} {z0 u0 n : Nat} (C : Cx G p s m args meth c prog_6_method_13_code 7 "BellPlate$Lists" ((none))) (IH : I_Ls_build G p l e s m args below meth c z0 u0 n) (v0R : Nat) (v1I : Int32) (v2I : Int32) (v3I : Int32) (v4I : Int32) (v5I : Int32) (v6I : Int32) (σ : AM) : VX (QM eV G args s below z0 u0) G p l e s m args below meth c 4 z0 u0 7 (lpK (lpn F_Ls_build n) (T_Ls_build_3 v0R v1I v2I v3I v4I v5I v6I σ)) 124 [(0, .ref v0R), (1, .int v1I), (2, .int v2I), (3, .int v3I), (4, .int v4I), (5, .int v5I), (6, .int v6I)] [] σ := by
  unfold T_Ls_build_3
  refine x_iload C d_Ls_build_124 4 rfl ?_
  refine x_aload_n C d_Ls_build_126 0 rfl ?_
  refine x_gd (fun h1 => ?_)
  refine x_gd (fun h2 => ?_)
  refine x_getR (k := 0) (kv := 1) C (okO_iff.mp h1) rfl j2_ok (by decide) rfl (okO_iff.mp h2) (by decide) w252 d_Ls_build_127 ?_
  refine x_aload_n C d_Ls_build_130 0 rfl ?_
  refine x_gd (fun h3 => ?_)
  refine x_getR (k := 1) (kv := 101) C (okO_iff.mp h1) rfl j2_ok (by decide) rfl (okO_iff.mp h3) (by decide) w253 d_Ls_build_131 ?_
  refine x_callVI (As := [.ref (aR σ v0R 1)]) C (c_Tw_step G l (aR σ v0R 0) (aR σ v0R 1) σ) (okO_iff.mp h2) rfl w687 w688 w686 w689 w122 k_Tw_step rfl (by decide) (by decide) rfl (Nat.le_of_ble_eq_true rfl) d_Ls_build_134 (fun r4 σ5 => ?_)
  refine x_iadd C d_Ls_build_137 ?_
  refine x_letI (fun x6 _ => ?_)
  refine x_istore (lv' := [(4, .int x6), (0, .ref v0R), (1, .int v1I), (2, .int v2I), (3, .int v3I), (5, .int v5I), (6, .int v6I)]) C d_Ls_build_138 (by decide) rfl ?_
  refine x_iload C d_Ls_build_140 5 rfl ?_
  refine x_iconst (v := (1 : Int32)) C d_Ls_build_142 (by decide) ?_
  refine x_iadd C d_Ls_build_143 ?_
  refine x_iload_n C d_Ls_build_144 4 rfl ?_
  refine x_icmp_ge (tgt := 155) C d_Ls_build_145 (by decide) (fun _ => ?_) (fun _ => ?_)
  · refine x_iload C d_Ls_build_148 5 rfl ?_
    refine x_iconst (v := (1 : Int32)) C d_Ls_build_150 (by decide) ?_
    refine x_iadd C d_Ls_build_151 ?_
    refine x_goto (tgt := 156) C d_Ls_build_152 (by decide) ?_
    refine x_lv [1, 2, 3, 4, 0, 6] rfl ?_
    exact IH.2.2.2.2 v0R v1I v2I v3I x6 v6I (v5I + (1 : Int32)) (σ5)
  · refine x_iconst (v := (0 : Int32)) C d_Ls_build_155 (by decide) ?_
    refine x_lv [1, 2, 3, 4, 0, 6] rfl ?_
    exact IH.2.2.2.2 v0R v1I v2I v3I x6 v6I ((0 : Int32)) (σ5)
set_option maxRecDepth 20000 in
theorem s_Ls_build_4 {G : GX} {p : Program} {l : Launch} {e : Env} {s : State} {m : MethodId} {args : Array Value} {below : List Frame} {meth : Method} {c : Code} {z0 u0 n : Nat} (C : Cx G p s m args meth c prog_6_method_13_code 7 "BellPlate$Lists" ((none))) (IH : I_Ls_build G p l e s m args below meth c z0 u0 n) (v0R : Nat) (v1I : Int32) (v2I : Int32) (v3I : Int32) (v4I : Int32) (v6I : Int32) (s0I : Int32) (σ : AM) : VX (QM eV G args s below z0 u0) G p l e s m args below meth c 4 z0 u0 7 (lpK (lpn F_Ls_build n) (T_Ls_build_4 v0R v1I v2I v3I v4I v6I s0I σ)) 156 [(0, .ref v0R), (1, .int v1I), (2, .int v2I), (3, .int v3I), (4, .int v4I), (6, .int v6I)] [.int s0I] σ := by
  unfold T_Ls_build_4
  refine x_istore (lv' := [(5, .int s0I), (0, .ref v0R), (1, .int v1I), (2, .int v2I), (3, .int v3I), (4, .int v4I), (6, .int v6I)]) C d_Ls_build_156 (by decide) rfl ?_
  refine x_iinc (v := v6I + (1 : Int32)) (lv' := [(6, .int (v6I + (1 : Int32))), (5, .int s0I), (0, .ref v0R), (1, .int v1I), (2, .int v2I), (3, .int v3I), (4, .int v4I)]) C d_Ls_build_158 6 rfl rfl (by decide) rfl ?_
  refine x_goto (tgt := 56) C d_Ls_build_161 (by decide) ?_
  refine x_lv [2, 3, 4, 5, 6, 1, 0] rfl ?_
  exact IH.2.1 v0R v1I v2I v3I v4I s0I (v6I + (1 : Int32)) (σ)
theorem i_Ls_build {G : GX} {p : Program} {l : Launch} {e : Env} {s : State} {m : MethodId} {args : Array Value} {below : List Frame} {meth : Method} {c : Code} {z0 u0 : Nat} (C : Cx G p s m args meth c prog_6_method_13_code 7 "BellPlate$Lists" ((none))) (n : Nat) : I_Ls_build G p l e s m args below meth c z0 u0 n := by
  induction n with
  | zero => exact ⟨fun _ _ => x_none, fun _ _ _ _ _ _ _ _ => x_none, fun _ _ _ _ _ _ _ _ => x_none, fun _ _ _ _ _ _ _ _ => x_none, fun _ _ _ _ _ _ _ _ => x_none⟩
  | succ n IH => exact ⟨fun v0R σ => s_Ls_build_0 C IH v0R σ, fun v0R v1I v2I v3I v4I v5I v6I σ => s_Ls_build_1 C IH v0R v1I v2I v3I v4I v5I v6I σ, fun v0R v1I v2I v3I v4I v5I v6I σ => s_Ls_build_2 C IH v0R v1I v2I v3I v4I v5I v6I σ, fun v0R v1I v2I v3I v4I v5I v6I σ => s_Ls_build_3 C IH v0R v1I v2I v3I v4I v5I v6I σ, fun v0R v1I v2I v3I v4I v6I s0I σ => s_Ls_build_4 C IH v0R v1I v2I v3I v4I v6I s0I σ⟩
theorem c_Ls_build (G : GX) (l : Launch) (v0R : Nat) (σ : AM) : CT eV G l 4 y_Ls_build prog_6_method_13_code 7 (none) [.ref v0R] σ (M_Ls_build v0R σ) := by
  refine ct_of (by decide +kernel) (Nat.le_of_ble_eq_true rfl) (fun p e s m args below meth c C hin => ?_)
  refine x_lve (lv' := [(0, .ref v0R)]) rfl ?_
  intro r σ' h
  obtain ⟨n, hn⟩ := (lp_iff _ _ _).mp h
  exact (i_Ls_build C n).1 v0R σ r σ' hn
