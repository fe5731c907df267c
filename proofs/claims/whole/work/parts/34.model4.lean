/-! BellPlateModel.spread(I)I -/
abbrev y_Md_spread : MethodName := ⟨"BellPlateModel", "spread", "(I)I"⟩
theorem k_Md_spread : y_Md_spread.cls ≠ "java/lang/invoke/MethodHandle" ∧ y_Md_spread.cls ≠ "java/lang/invoke/VarHandle" ∧ (parseMethodDescriptor y_Md_spread.desc).map (fun d => d.parameters.length) = some 1 := by decide +kernel
theorem d_Md_spread_0 : decode prog_14_method_92_code 0 = .ok (.iconst 0, 1) := by decide +kernel
theorem d_Md_spread_1 : decode prog_14_method_92_code 1 = .ok (.istore_n 1, 1) := by decide +kernel
theorem d_Md_spread_2 : decode prog_14_method_92_code 2 = .ok (.iconst 0, 1) := by decide +kernel
theorem d_Md_spread_3 : decode prog_14_method_92_code 3 = .ok (.istore_n 2, 1) := by decide +kernel
theorem d_Md_spread_4 : decode prog_14_method_92_code 4 = .ok (.iload_n 2, 1) := by decide +kernel
theorem d_Md_spread_5 : decode prog_14_method_92_code 5 = .ok (.bipush 6, 2) := by decide +kernel
theorem d_Md_spread_7 : decode prog_14_method_92_code 7 = .ok (.if_icmp .ge 21, 3) := by decide +kernel
theorem d_Md_spread_10 : decode prog_14_method_92_code 10 = .ok (.iload_n 1, 1) := by decide +kernel
theorem d_Md_spread_11 : decode prog_14_method_92_code 11 = .ok (.iload_n 0, 1) := by decide +kernel
theorem d_Md_spread_12 : decode prog_14_method_92_code 12 = .ok (.iload_n 2, 1) := by decide +kernel
theorem d_Md_spread_13 : decode prog_14_method_92_code 13 = .ok (.ishr, 1) := by decide +kernel
theorem d_Md_spread_14 : decode prog_14_method_92_code 14 = .ok (.iconst 1, 1) := by decide +kernel
theorem d_Md_spread_15 : decode prog_14_method_92_code 15 = .ok (.iand, 1) := by decide +kernel
theorem d_Md_spread_16 : decode prog_14_method_92_code 16 = .ok (.iconst 4, 1) := by decide +kernel
theorem d_Md_spread_17 : decode prog_14_method_92_code 17 = .ok (.iload_n 2, 1) := by decide +kernel
theorem d_Md_spread_18 : decode prog_14_method_92_code 18 = .ok (.imul, 1) := by decide +kernel
theorem d_Md_spread_19 : decode prog_14_method_92_code 19 = .ok (.ishl, 1) := by decide +kernel
theorem d_Md_spread_20 : decode prog_14_method_92_code 20 = .ok (.ior, 1) := by decide +kernel
theorem d_Md_spread_21 : decode prog_14_method_92_code 21 = .ok (.istore_n 1, 1) := by decide +kernel
theorem d_Md_spread_22 : decode prog_14_method_92_code 22 = .ok (.iinc 2 1, 3) := by decide +kernel
theorem d_Md_spread_25 : decode prog_14_method_92_code 25 = .ok (.goto (-21), 3) := by decide +kernel
theorem d_Md_spread_28 : decode prog_14_method_92_code 28 = .ok (.iload_n 1, 1) := by decide +kernel
theorem d_Md_spread_29 : decode prog_14_method_92_code 29 = .ok (.ireturn, 1) := by decide +kernel
abbrev S_Md_spread : Type := Nat × Int32 × Int32 × Int32 × AM
noncomputable def T_Md_spread_0 (v0I : Int32) (σ : AM) : S_Md_spread ⊕ Option (Int32 × AM) :=
  .inl (1, v0I, (0 : Int32), (0 : Int32), σ)
noncomputable def T_Md_spread_1 (v0I : Int32) (v1I : Int32) (v2I : Int32) (σ : AM) : S_Md_spread ⊕ Option (Int32 × AM) :=
  if v2I < (6 : Int32) then (letT (v1I ||| (((v0I >>> (v2I &&& 31)) &&& (1 : Int32)) <<< (((4 : Int32) * v2I) &&& 31))) fun x1 => .inl (1, v0I, x1, v2I + (1 : Int32), σ)) else (.inr (some (v1I, σ)))
noncomputable def F_Md_spread : S_Md_spread → S_Md_spread ⊕ Option (Int32 × AM) := fun s => match s.1 with
  | 0 => T_Md_spread_0 (s.2.1) (s.2.2.2.2)
  | _ => T_Md_spread_1 (s.2.1) (s.2.2.1) (s.2.2.2.1) (s.2.2.2.2)
noncomputable def L_Md_spread_0 (v0I : Int32) (σ : AM) : Option (Int32 × AM) := lp F_Md_spread (0, v0I, 0, 0, σ)
noncomputable def L_Md_spread_1 (v0I : Int32) (v1I : Int32) (v2I : Int32) (σ : AM) : Option (Int32 × AM) := lp F_Md_spread (1, v0I, v1I, v2I, σ)
set_option maxRecDepth 20000 in
theorem E_Md_spread_0 (v0I : Int32) (σ : AM) : L_Md_spread_0 v0I σ = (L_Md_spread_1 v0I ((0 : Int32)) ((0 : Int32)) σ) := by
  unfold L_Md_spread_0
  rw [lp_eq]
  show lpK (lp F_Md_spread) (T_Md_spread_0 v0I σ) = _
  unfold T_Md_spread_0
  simp only [lpK_ite, lq_inl, lq_inr, lpK_bnd, lpK_gd, lq_let]
  try rfl
set_option maxRecDepth 20000 in
theorem E_Md_spread_1 (v0I : Int32) (v1I : Int32) (v2I : Int32) (σ : AM) : L_Md_spread_1 v0I v1I v2I σ = (if v2I < (6 : Int32) then (letT (v1I ||| (((v0I >>> (v2I &&& 31)) &&& (1 : Int32)) <<< (((4 : Int32) * v2I) &&& 31))) fun x1 => L_Md_spread_1 v0I x1 (v2I + (1 : Int32)) σ) else ((some (v1I, σ)))) := by
  unfold L_Md_spread_1
  rw [lp_eq]
  show lpK (lp F_Md_spread) (T_Md_spread_1 v0I v1I v2I σ) = _
  unfold T_Md_spread_1
  simp only [lpK_ite, lq_inl, lq_inr, lpK_bnd, lpK_gd, lq_let]
  try rfl
noncomputable def M_Md_spread (v0I : Int32) (σ : AM) : Option (Int32 × AM) := mw σ (L_Md_spread_0 v0I σ)
def I_Md_spread (G : GX) (p : Program) (l : Launch) (e : Env) (s : State) (m : MethodId) (args : Array Value) (below : List Frame) (meth : Method) (c : Code) (z0 u0 n : Nat) : Prop :=
  (∀ (v0I : Int32) (σ : AM), VX (QM eI G args s below z0 u0) G p l e s m args below meth c 0 z0 u0 3 (lpn F_Md_spread n (0, v0I, 0, 0, σ)) 0 [(0, .int v0I)] [] σ) ∧
  (∀ (v0I : Int32) (v1I : Int32) (v2I : Int32) (σ : AM), VX (QM eI G args s below z0 u0) G p l e s m args below meth c 0 z0 u0 3 (lpn F_Md_spread n (1, v0I, v1I, v2I, σ)) 4 [(0, .int v0I), (1, .int v1I), (2, .int v2I)] [] σ)
set_option maxRecDepth 20000 in
theorem s_Md_spread_0 {G : GX} {p : Program} {l : Launch} {e : Env} {s : State} {m : MethodId} {args : Array Value} {below : List Frame} {meth : Method} {c : Code} {z0 u0 n : Nat} (C : Cx G p s m args meth c prog_14_method_92_code 3 "BellPlateModel" ((some FieldType.int))) (IH : I_Md_spread G p l e s m args below meth c z0 u0 n) (v0I : Int32) (σ : AM) : VX (QM eI G args s below z0 u0) G p l e s m args below meth c 0 z0 u0 3 (lpK (lpn F_Md_spread n) (T_Md_spread_0 v0I σ)) 0 [(0, .int v0I)] [] σ := by
  unfold T_Md_spread_0
  refine x_iconst (v := (0 : Int32)) C d_Md_spread_0 (by decide) ?_
  refine x_istore_n (lv' := [(1, .int (0 : Int32)), (0, .int v0I)]) C d_Md_spread_1 (by decide) rfl rfl ?_
  refine x_iconst (v := (0 : Int32)) C d_Md_spread_2 (by decide) ?_
  refine x_istore_n (lv' := [(2, .int (0 : Int32)), (1, .int (0 : Int32)), (0, .int v0I)]) C d_Md_spread_3 (by decide) rfl rfl ?_
  refine x_lv [2, 1, 0] rfl ?_
  exact IH.2 v0I ((0 : Int32)) ((0 : Int32)) (σ)
set_option maxRecDepth 20000 in
theorem s_Md_spread_1 {G : GX} {p : Program} {l : Launch} {e : Env} {s : State} {m : MethodId} {args : Array Value} {below : List Frame} {meth : Method} {c : Code} {z0 u0 n : Nat} (C : Cx G p s m args meth c prog_14_method_92_code 3 "BellPlateModel" ((some FieldType.int))) (IH : I_Md_spread G p l e s m args below meth c z0 u0 n) (v0I : Int32) (v1I : Int32) (v2I : Int32) (σ : AM) : VX (QM eI G args s below z0 u0) G p l e s m args below meth c 0 z0 u0 3 (lpK (lpn F_Md_spread n) (T_Md_spread_1 v0I v1I v2I σ)) 4 [(0, .int v0I), (1, .int v1I), (2, .int v2I)] [] σ := by
  unfold T_Md_spread_1
  refine x_iload_n C d_Md_spread_4 2 rfl ?_
  refine x_bipush (v := (6 : Int32)) C d_Md_spread_5 (by decide) ?_
  refine x_icmp_ge (tgt := 28) C d_Md_spread_7 (by decide) (fun _ => ?_) (fun _ => ?_)
  · refine x_iload_n C d_Md_spread_10 1 rfl ?_
    refine x_iload_n C d_Md_spread_11 0 rfl ?_
    refine x_iload_n C d_Md_spread_12 2 rfl ?_
    refine x_ishr C d_Md_spread_13 ?_
    refine x_iconst (v := (1 : Int32)) C d_Md_spread_14 (by decide) ?_
    refine x_iand C d_Md_spread_15 ?_
    refine x_iconst (v := (4 : Int32)) C d_Md_spread_16 (by decide) ?_
    refine x_iload_n C d_Md_spread_17 2 rfl ?_
    refine x_imul C d_Md_spread_18 ?_
    refine x_ishl C d_Md_spread_19 ?_
    refine x_ior C d_Md_spread_20 ?_
    refine x_letI (fun x1 _ => ?_)
    refine x_istore_n (lv' := [(1, .int x1), (0, .int v0I), (2, .int v2I)]) C d_Md_spread_21 (by decide) rfl rfl ?_
    refine x_iinc (v := v2I + (1 : Int32)) (lv' := [(2, .int (v2I + (1 : Int32))), (1, .int x1), (0, .int v0I)]) C d_Md_spread_22 2 rfl rfl (by decide) rfl ?_
    refine x_goto (tgt := 4) C d_Md_spread_25 (by decide) ?_
    refine x_lv [2, 1, 0] rfl ?_
    exact IH.2 v0I x1 (v2I + (1 : Int32)) (σ)
  · refine x_iload_n C d_Md_spread_28 1 rfl ?_
    exact x_iret C d_Md_spread_29
theorem i_Md_spread {G : GX} {p : Program} {l : Launch} {e : Env} {s : State} {m : MethodId} {args : Array Value} {below : List Frame} {meth : Method} {c : Code} {z0 u0 : Nat} (C : Cx G p s m args meth c prog_14_method_92_code 3 "BellPlateModel" ((some FieldType.int))) (n : Nat) : I_Md_spread G p l e s m args below meth c z0 u0 n := by
  induction n with
  | zero => exact ⟨fun _ _ => x_none, fun _ _ _ _ => x_none⟩
  | succ n IH => exact ⟨fun v0I σ => s_Md_spread_0 C IH v0I σ, fun v0I v1I v2I σ => s_Md_spread_1 C IH v0I v1I v2I σ⟩
theorem c_Md_spread (G : GX) (l : Launch) (v0I : Int32) (σ : AM) : CT eI G l 0 y_Md_spread prog_14_method_92_code 3 ((some FieldType.int)) [.int v0I] σ (M_Md_spread v0I σ) := by
  refine ct_of (by decide +kernel) (Nat.le_of_ble_eq_true rfl) (fun p e s m args below meth c C hin => ?_)
  refine x_lve (lv' := [(0, .int v0I)]) rfl ?_
  intro r σ' h
  obtain ⟨n, hn⟩ := (lp_iff _ _ _).mp h
  exact (i_Md_spread C n).1 v0I σ r σ' hn
abbrev GT_Md_pairs : Type := (Nat → Int32 → Int32 → Int32 → Int32 → AM → Option (Int32 × AM))
/-! BellPlateModel.pairs(IIII)Z -/
abbrev y_Md_pairs : MethodName := ⟨"BellPlateModel", "pairs", "(IIII)Z"⟩
theorem k_Md_pairs : y_Md_pairs.cls ≠ "java/lang/invoke/MethodHandle" ∧ y_Md_pairs.cls ≠ "java/lang/invoke/VarHandle" ∧ (parseMethodDescriptor y_Md_pairs.desc).map (fun d => d.parameters.length) = some 4 := by decide +kernel
theorem d_Md_pairs_0 : decode prog_14_method_93_code 0 = .ok (.iload_n 2, 1) := by decide +kernel
theorem d_Md_pairs_1 : decode prog_14_method_93_code 1 = .ok (.iconst 2, 1) := by decide +kernel
theorem d_Md_pairs_2 : decode prog_14_method_93_code 2 = .ok (.iload_n 1, 1) := by decide +kernel
theorem d_Md_pairs_3 : decode prog_14_method_93_code 3 = .ok (.imul, 1) := by decide +kernel
theorem d_Md_pairs_4 : decode prog_14_method_93_code 4 = .ok (.if_icmp .ne 27, 3) := by decide +kernel
theorem d_Md_pairs_7 : decode prog_14_method_93_code 7 = .ok (.iload 4, 2) := by decide +kernel
theorem d_Md_pairs_9 : decode prog_14_method_93_code 9 = .ok (.ldc_w 491, 3) := by decide +kernel
theorem d_Md_pairs_12 : decode prog_14_method_93_code 12 = .ok (.ior, 1) := by decide +kernel
theorem d_Md_pairs_13 : decode prog_14_method_93_code 13 = .ok (.iload_n 3, 1) := by decide +kernel
theorem d_Md_pairs_14 : decode prog_14_method_93_code 14 = .ok (.isub, 1) := by decide +kernel
theorem d_Md_pairs_15 : decode prog_14_method_93_code 15 = .ok (.ldc_w 491, 3) := by decide +kernel
theorem d_Md_pairs_18 : decode prog_14_method_93_code 18 = .ok (.iand, 1) := by decide +kernel
theorem d_Md_pairs_19 : decode prog_14_method_93_code 19 = .ok (.ldc_w 491, 3) := by decide +kernel
theorem d_Md_pairs_22 : decode prog_14_method_93_code 22 = .ok (.if_icmp .ne 7, 3) := by decide +kernel
theorem d_Md_pairs_25 : decode prog_14_method_93_code 25 = .ok (.iconst 1, 1) := by decide +kernel
theorem d_Md_pairs_26 : decode prog_14_method_93_code 26 = .ok (.goto 4, 3) := by decide +kernel
theorem d_Md_pairs_29 : decode prog_14_method_93_code 29 = .ok (.iconst 0, 1) := by decide +kernel
theorem d_Md_pairs_30 : decode prog_14_method_93_code 30 = .ok (.ireturn, 1) := by decide +kernel
theorem d_Md_pairs_31 : decode prog_14_method_93_code 31 = .ok (.iload_n 2, 1) := by decide +kernel
theorem d_Md_pairs_32 : decode prog_14_method_93_code 32 = .ok (.iload_n 1, 1) := by decide +kernel
theorem d_Md_pairs_33 : decode prog_14_method_93_code 33 = .ok (.if_icmp .ge 7, 3) := by decide +kernel
theorem d_Md_pairs_36 : decode prog_14_method_93_code 36 = .ok (.iconst 1, 1) := by decide +kernel
theorem d_Md_pairs_37 : decode prog_14_method_93_code 37 = .ok (.goto 4, 3) := by decide +kernel
theorem d_Md_pairs_40 : decode prog_14_method_93_code 40 = .ok (.iconst 0, 1) := by decide +kernel
theorem d_Md_pairs_41 : decode prog_14_method_93_code 41 = .ok (.istore 5, 2) := by decide +kernel
theorem d_Md_pairs_43 : decode prog_14_method_93_code 43 = .ok (.iload_n 2, 1) := by decide +kernel
theorem d_Md_pairs_44 : decode prog_14_method_93_code 44 = .ok (.ifCond .eq 8, 3) := by decide +kernel
theorem d_Md_pairs_47 : decode prog_14_method_93_code 47 = .ok (.iload_n 2, 1) := by decide +kernel
theorem d_Md_pairs_48 : decode prog_14_method_93_code 48 = .ok (.iload_n 1, 1) := by decide +kernel
theorem d_Md_pairs_49 : decode prog_14_method_93_code 49 = .ok (.if_icmp .ne 7, 3) := by decide +kernel
theorem d_Md_pairs_52 : decode prog_14_method_93_code 52 = .ok (.iconst 0, 1) := by decide +kernel
theorem d_Md_pairs_53 : decode prog_14_method_93_code 53 = .ok (.goto 24, 3) := by decide +kernel
theorem d_Md_pairs_56 : decode prog_14_method_93_code 56 = .ok (.aload_n 0, 1) := by decide +kernel
theorem d_Md_pairs_57 : decode prog_14_method_93_code 57 = .ok (.getfield 140, 3) := by decide +kernel
theorem d_Md_pairs_60 : decode prog_14_method_93_code 60 = .ok (.iload 5, 2) := by decide +kernel
theorem d_Md_pairs_62 : decode prog_14_method_93_code 62 = .ok (.ifCond .eq 9, 3) := by decide +kernel
theorem d_Md_pairs_65 : decode prog_14_method_93_code 65 = .ok (.iload_n 2, 1) := by decide +kernel
theorem d_Md_pairs_66 : decode prog_14_method_93_code 66 = .ok (.iconst 1, 1) := by decide +kernel
theorem d_Md_pairs_67 : decode prog_14_method_93_code 67 = .ok (.isub, 1) := by decide +kernel
theorem d_Md_pairs_68 : decode prog_14_method_93_code 68 = .ok (.goto 8, 3) := by decide +kernel
theorem d_Md_pairs_71 : decode prog_14_method_93_code 71 = .ok (.iload_n 2, 1) := by decide +kernel
theorem d_Md_pairs_72 : decode prog_14_method_93_code 72 = .ok (.iload_n 1, 1) := by decide +kernel
theorem d_Md_pairs_73 : decode prog_14_method_93_code 73 = .ok (.isub, 1) := by decide +kernel
theorem d_Md_pairs_74 : decode prog_14_method_93_code 74 = .ok (.iconst 2, 1) := by decide +kernel
theorem d_Md_pairs_75 : decode prog_14_method_93_code 75 = .ok (.iadd, 1) := by decide +kernel
theorem d_Md_pairs_76 : decode prog_14_method_93_code 76 = .ok (.iaload, 1) := by decide +kernel
theorem d_Md_pairs_77 : decode prog_14_method_93_code 77 = .ok (.istore 6, 2) := by decide +kernel
theorem d_Md_pairs_79 : decode prog_14_method_93_code 79 = .ok (.iload 6, 2) := by decide +kernel
theorem d_Md_pairs_81 : decode prog_14_method_93_code 81 = .ok (.istore 7, 2) := by decide +kernel
theorem d_Md_pairs_83 : decode prog_14_method_93_code 83 = .ok (.iload 7, 2) := by decide +kernel
theorem d_Md_pairs_85 : decode prog_14_method_93_code 85 = .ok (.aload_n 0, 1) := by decide +kernel
theorem d_Md_pairs_86 : decode prog_14_method_93_code 86 = .ok (.getfield 245, 3) := by decide +kernel
theorem d_Md_pairs_89 : decode prog_14_method_93_code 89 = .ok (.if_icmp .ge 95, 3) := by decide +kernel
theorem d_Md_pairs_92 : decode prog_14_method_93_code 92 = .ok (.aload_n 0, 1) := by decide +kernel
theorem d_Md_pairs_93 : decode prog_14_method_93_code 93 = .ok (.getfield 107, 3) := by decide +kernel
theorem d_Md_pairs_96 : decode prog_14_method_93_code 96 = .ok (.iload 7, 2) := by decide +kernel
theorem d_Md_pairs_98 : decode prog_14_method_93_code 98 = .ok (.baload, 1) := by decide +kernel
theorem d_Md_pairs_99 : decode prog_14_method_93_code 99 = .ok (.iload 5, 2) := by decide +kernel
theorem d_Md_pairs_101 : decode prog_14_method_93_code 101 = .ok (.if_icmp .ne 77, 3) := by decide +kernel
theorem d_Md_pairs_104 : decode prog_14_method_93_code 104 = .ok (.aload_n 0, 1) := by decide +kernel
theorem d_Md_pairs_105 : decode prog_14_method_93_code 105 = .ok (.getfield 140, 3) := by decide +kernel
theorem d_Md_pairs_108 : decode prog_14_method_93_code 108 = .ok (.iload 5, 2) := by decide +kernel
theorem d_Md_pairs_110 : decode prog_14_method_93_code 110 = .ok (.ifCond .eq 7, 3) := by decide +kernel
theorem d_Md_pairs_113 : decode prog_14_method_93_code 113 = .ok (.iload_n 2, 1) := by decide +kernel
theorem d_Md_pairs_114 : decode prog_14_method_93_code 114 = .ok (.goto 8, 3) := by decide +kernel
theorem d_Md_pairs_117 : decode prog_14_method_93_code 117 = .ok (.iload_n 2, 1) := by decide +kernel
theorem d_Md_pairs_118 : decode prog_14_method_93_code 118 = .ok (.iload_n 1, 1) := by decide +kernel
theorem d_Md_pairs_119 : decode prog_14_method_93_code 119 = .ok (.isub, 1) := by decide +kernel
theorem d_Md_pairs_120 : decode prog_14_method_93_code 120 = .ok (.iconst 3, 1) := by decide +kernel
theorem d_Md_pairs_121 : decode prog_14_method_93_code 121 = .ok (.iadd, 1) := by decide +kernel
theorem d_Md_pairs_122 : decode prog_14_method_93_code 122 = .ok (.iload 7, 2) := by decide +kernel
theorem d_Md_pairs_124 : decode prog_14_method_93_code 124 = .ok (.iastore, 1) := by decide +kernel
theorem d_Md_pairs_125 : decode prog_14_method_93_code 125 = .ok (.aload_n 0, 1) := by decide +kernel
theorem d_Md_pairs_126 : decode prog_14_method_93_code 126 = .ok (.getfield 104, 3) := by decide +kernel
theorem d_Md_pairs_129 : decode prog_14_method_93_code 129 = .ok (.iload 7, 2) := by decide +kernel
theorem d_Md_pairs_131 : decode prog_14_method_93_code 131 = .ok (.iaload, 1) := by decide +kernel
theorem d_Md_pairs_132 : decode prog_14_method_93_code 132 = .ok (.invokestatic 492, 3) := by decide +kernel
theorem d_Md_pairs_135 : decode prog_14_method_93_code 135 = .ok (.istore 8, 2) := by decide +kernel
theorem d_Md_pairs_137 : decode prog_14_method_93_code 137 = .ok (.aload_n 0, 1) := by decide +kernel
theorem d_Md_pairs_138 : decode prog_14_method_93_code 138 = .ok (.iload_n 1, 1) := by decide +kernel
theorem d_Md_pairs_139 : decode prog_14_method_93_code 139 = .ok (.iload_n 2, 1) := by decide +kernel
theorem d_Md_pairs_140 : decode prog_14_method_93_code 140 = .ok (.iconst 1, 1) := by decide +kernel
theorem d_Md_pairs_141 : decode prog_14_method_93_code 141 = .ok (.iadd, 1) := by decide +kernel
theorem d_Md_pairs_142 : decode prog_14_method_93_code 142 = .ok (.iload 5, 2) := by decide +kernel
theorem d_Md_pairs_144 : decode prog_14_method_93_code 144 = .ok (.ifCond .eq 10, 3) := by decide +kernel
theorem d_Md_pairs_147 : decode prog_14_method_93_code 147 = .ok (.iload_n 3, 1) := by decide +kernel
theorem d_Md_pairs_148 : decode prog_14_method_93_code 148 = .ok (.iload 8, 2) := by decide +kernel
theorem d_Md_pairs_150 : decode prog_14_method_93_code 150 = .ok (.iadd, 1) := by decide +kernel
theorem d_Md_pairs_151 : decode prog_14_method_93_code 151 = .ok (.goto 4, 3) := by decide +kernel
theorem d_Md_pairs_154 : decode prog_14_method_93_code 154 = .ok (.iload_n 3, 1) := by decide +kernel
theorem d_Md_pairs_155 : decode prog_14_method_93_code 155 = .ok (.iload 5, 2) := by decide +kernel
theorem d_Md_pairs_157 : decode prog_14_method_93_code 157 = .ok (.ifCond .eq 8, 3) := by decide +kernel
theorem d_Md_pairs_160 : decode prog_14_method_93_code 160 = .ok (.iload 4, 2) := by decide +kernel
theorem d_Md_pairs_162 : decode prog_14_method_93_code 162 = .ok (.goto 8, 3) := by decide +kernel
theorem d_Md_pairs_165 : decode prog_14_method_93_code 165 = .ok (.iload 4, 2) := by decide +kernel
theorem d_Md_pairs_167 : decode prog_14_method_93_code 167 = .ok (.iload 8, 2) := by decide +kernel
theorem d_Md_pairs_169 : decode prog_14_method_93_code 169 = .ok (.iadd, 1) := by decide +kernel
theorem d_Md_pairs_170 : decode prog_14_method_93_code 170 = .ok (.invokevirtual 495, 3) := by decide +kernel
theorem d_Md_pairs_173 : decode prog_14_method_93_code 173 = .ok (.ifCond .eq 5, 3) := by decide +kernel
theorem d_Md_pairs_176 : decode prog_14_method_93_code 176 = .ok (.iconst 1, 1) := by decide +kernel
theorem d_Md_pairs_177 : decode prog_14_method_93_code 177 = .ok (.ireturn, 1) := by decide +kernel
theorem d_Md_pairs_178 : decode prog_14_method_93_code 178 = .ok (.iinc 7 1, 3) := by decide +kernel
theorem d_Md_pairs_181 : decode prog_14_method_93_code 181 = .ok (.goto (-98), 3) := by decide +kernel
theorem d_Md_pairs_184 : decode prog_14_method_93_code 184 = .ok (.iconst 0, 1) := by decide +kernel
theorem d_Md_pairs_185 : decode prog_14_method_93_code 185 = .ok (.ireturn, 1) := by decide +kernel
def H_Md_pairs (G : GX) (l : Launch) (n0 : Nat) (rec : GT_Md_pairs) : Prop := (∀ (v0R : Nat) (v1I : Int32) (v2I : Int32) (v3I : Int32) (v4I : Int32) (σ : AM), CT eI G l (1 + n0) y_Md_pairs prog_14_method_93_code 9 ((some FieldType.boolean)) [.ref v0R, .int v1I, .int v2I, .int v3I, .int v4I] σ (rec v0R v1I v2I v3I v4I σ))
abbrev S_Md_pairs : Type := Nat × Nat × Int32 × Int32 × Int32 × Int32 × Int32 × Int32 × Int32 × Int32 × Nat × Int32 × Int32 × Int32 × Int32 × AM
noncomputable def T_Md_pairs_0 (rec : GT_Md_pairs) (v0R : Nat) (v1I : Int32) (v2I : Int32) (v3I : Int32) (v4I : Int32) (σ : AM) : S_Md_pairs ⊕ Option (Int32 × AM) :=
  if v2I = ((2 : Int32) * v1I) then (if (((v4I ||| (8947848 : Int32)) - v3I) &&& (8947848 : Int32)) = (8947848 : Int32) then (.inl (1, 0, 0, 0, 0, 0, 0, 0, 0, (1 : Int32), 0, 0, 0, 0, 0, σ)) else (.inl (1, 0, 0, 0, 0, 0, 0, 0, 0, (0 : Int32), 0, 0, 0, 0, 0, σ))) else (if v2I < v1I then (.inl (2, v0R, v1I, v2I, v3I, v4I, 0, 0, 0, (1 : Int32), 0, 0, 0, 0, 0, σ)) else (.inl (2, v0R, v1I, v2I, v3I, v4I, 0, 0, 0, (0 : Int32), 0, 0, 0, 0, 0, σ)))
noncomputable def T_Md_pairs_1 (rec : GT_Md_pairs) (s0I : Int32) (σ : AM) : S_Md_pairs ⊕ Option (Int32 × AM) :=
  gdT (isB s0I) <| .inr (some (s0I, σ))
noncomputable def T_Md_pairs_2 (rec : GT_Md_pairs) (v0R : Nat) (v1I : Int32) (v2I : Int32) (v3I : Int32) (v4I : Int32) (s0I : Int32) (σ : AM) : S_Md_pairs ⊕ Option (Int32 × AM) :=
  if v2I = 0 then (.inl (3, v0R, v1I, v2I, v3I, v4I, s0I, 0, 0, 0, 0, 0, 0, 0, 0, σ)) else (if v2I = v1I then (.inl (3, v0R, v1I, v2I, v3I, v4I, s0I, 0, 0, 0, 0, 0, 0, 0, 0, σ)) else (gdT (okO σ v0R 12) <| gdT (okO σ (aR σ v0R 63) 101) <| if s0I = 0 then (.inl (4, v0R, v1I, v2I, v3I, v4I, s0I, 0, 0, 0, aR σ v0R 63, (v2I - v1I) + (2 : Int32), 0, 0, 0, σ)) else (.inl (4, v0R, v1I, v2I, v3I, v4I, s0I, 0, 0, 0, aR σ v0R 63, v2I - (1 : Int32), 0, 0, 0, σ))))
noncomputable def T_Md_pairs_3 (rec : GT_Md_pairs) (v0R : Nat) (v1I : Int32) (v2I : Int32) (v3I : Int32) (v4I : Int32) (v5I : Int32) (σ : AM) : S_Md_pairs ⊕ Option (Int32 × AM) :=
  .inl (5, v0R, v1I, v2I, v3I, v4I, v5I, 0, 0, (0 : Int32), 0, 0, 0, 0, 0, σ)
noncomputable def T_Md_pairs_4 (rec : GT_Md_pairs) (v0R : Nat) (v1I : Int32) (v2I : Int32) (v3I : Int32) (v4I : Int32) (v5I : Int32) (s0R : Nat) (s1I : Int32) (σ : AM) : S_Md_pairs ⊕ Option (Int32 × AM) :=
  gdT (okO σ s0R 101) <| gdT (inB s1I (aN σ s0R)) <| .inl (5, v0R, v1I, v2I, v3I, v4I, v5I, 0, 0, aI σ s0R s1I.toNatClampNeg, 0, 0, 0, 0, 0, σ)
noncomputable def T_Md_pairs_5 (rec : GT_Md_pairs) (v0R : Nat) (v1I : Int32) (v2I : Int32) (v3I : Int32) (v4I : Int32) (v5I : Int32) (s0I : Int32) (σ : AM) : S_Md_pairs ⊕ Option (Int32 × AM) :=
  .inl (6, v0R, v1I, v2I, v3I, v4I, v5I, s0I, 0, 0, 0, 0, 0, 0, 0, σ)
noncomputable def T_Md_pairs_6 (rec : GT_Md_pairs) (v0R : Nat) (v1I : Int32) (v2I : Int32) (v3I : Int32) (v4I : Int32) (v5I : Int32) (v7I : Int32) (σ : AM) : S_Md_pairs ⊕ Option (Int32 × AM) :=
  gdT (okO σ v0R 12) <| if v7I < (aI σ v0R 37) then (gdT (okO σ (aR σ v0R 39) 103) <| gdT (inB v7I (aN σ (aR σ v0R 39))) <| if (aI σ (aR σ v0R 39) v7I.toNatClampNeg) = v5I then (gdT (okO σ (aR σ v0R 63) 101) <| if v5I = 0 then (.inl (7, v0R, v1I, v2I, v3I, v4I, v5I, v7I, 0, 0, aR σ v0R 63, (v2I - v1I) + (3 : Int32), 0, 0, 0, σ)) else (.inl (7, v0R, v1I, v2I, v3I, v4I, v5I, v7I, 0, 0, aR σ v0R 63, v2I, 0, 0, 0, σ))) else (.inl (10, v0R, v1I, v2I, v3I, v4I, v5I, v7I, 0, 0, 0, 0, 0, 0, 0, σ))) else (.inr (some ((0 : Int32), σ)))
noncomputable def T_Md_pairs_7 (rec : GT_Md_pairs) (v0R : Nat) (v1I : Int32) (v2I : Int32) (v3I : Int32) (v4I : Int32) (v5I : Int32) (v7I : Int32) (s0R : Nat) (s1I : Int32) (σ : AM) : S_Md_pairs ⊕ Option (Int32 × AM) :=
  gdT (okO σ s0R 101) <| gdT (inB s1I (aN σ s0R)) <| letT (sI σ s0R s1I.toNatClampNeg v7I) fun σ3 => gdT (okO σ3 v0R 12) <| gdT (okO σ3 (aR σ3 v0R 38) 101) <| gdT (inB v7I (aN σ3 (aR σ3 v0R 38))) <| bndT (M_Md_spread (aI σ3 (aR σ3 v0R 38) v7I.toNatClampNeg) σ3) fun r8 σ9 => if v5I = 0 then (.inl (8, v0R, v1I, v2I, v3I, v4I, v5I, v7I, r8, 0, v0R, v1I, v2I + (1 : Int32), v3I, 0, σ9)) else (.inl (8, v0R, v1I, v2I, v3I, v4I, v5I, v7I, r8, 0, v0R, v1I, v2I + (1 : Int32), v3I + r8, 0, σ9))
noncomputable def T_Md_pairs_8 (rec : GT_Md_pairs) (v0R : Nat) (v1I : Int32) (v2I : Int32) (v3I : Int32) (v4I : Int32) (v5I : Int32) (v7I : Int32) (v8I : Int32) (s0R : Nat) (s1I : Int32) (s2I : Int32) (s3I : Int32) (σ : AM) : S_Md_pairs ⊕ Option (Int32 × AM) :=
  if v5I = 0 then (.inl (9, v0R, v1I, v2I, v3I, v4I, v5I, v7I, 0, 0, s0R, s1I, s2I, s3I, v4I + v8I, σ)) else (.inl (9, v0R, v1I, v2I, v3I, v4I, v5I, v7I, 0, 0, s0R, s1I, s2I, s3I, v4I, σ))
noncomputable def T_Md_pairs_9 (rec : GT_Md_pairs) (v0R : Nat) (v1I : Int32) (v2I : Int32) (v3I : Int32) (v4I : Int32) (v5I : Int32) (v7I : Int32) (s0R : Nat) (s1I : Int32) (s2I : Int32) (s3I : Int32) (s4I : Int32) (σ : AM) : S_Md_pairs ⊕ Option (Int32 × AM) :=
  gdT (okO σ s0R 12) <| bndT (rec s0R s1I s2I s3I s4I σ) fun r1 σ2 => if r1 = 0 then (.inl (10, v0R, v1I, v2I, v3I, v4I, v5I, v7I, 0, 0, 0, 0, 0, 0, 0, σ2)) else (.inr (some ((1 : Int32), σ2)))
noncomputable def T_Md_pairs_10 (rec : GT_Md_pairs) (v0R : Nat) (v1I : Int32) (v2I : Int32) (v3I : Int32) (v4I : Int32) (v5I : Int32) (v7I : Int32) (σ : AM) : S_Md_pairs ⊕ Option (Int32 × AM) :=
  .inl (6, v0R, v1I, v2I, v3I, v4I, v5I, v7I + (1 : Int32), 0, 0, 0, 0, 0, 0, 0, σ)
noncomputable def F_Md_pairs (rec : GT_Md_pairs) : S_Md_pairs → S_Md_pairs ⊕ Option (Int32 × AM) := fun s => match s.1 with
  | 0 => T_Md_pairs_0 rec (s.2.1) (s.2.2.1) (s.2.2.2.1) (s.2.2.2.2.1) (s.2.2.2.2.2.1) (s.2.2.2.2.2.2.2.2.2.2.2.2.2.2.2)
  | 1 => T_Md_pairs_1 rec (s.2.2.2.2.2.2.2.2.2.1) (s.2.2.2.2.2.2.2.2.2.2.2.2.2.2.2)
  | 2 => T_Md_pairs_2 rec (s.2.1) (s.2.2.1) (s.2.2.2.1) (s.2.2.2.2.1) (s.2.2.2.2.2.1) (s.2.2.2.2.2.2.2.2.2.1) (s.2.2.2.2.2.2.2.2.2.2.2.2.2.2.2)
  | 3 => T_Md_pairs_3 rec (s.2.1) (s.2.2.1) (s.2.2.2.1) (s.2.2.2.2.1) (s.2.2.2.2.2.1) (s.2.2.2.2.2.2.1) (s.2.2.2.2.2.2.2.2.2.2.2.2.2.2.2)
  | 4 => T_Md_pairs_4 rec (s.2.1) (s.2.2.1) (s.2.2.2.1) (s.2.2.2.2.1) (s.2.2.2.2.2.1) (s.2.2.2.2.2.2.1) (s.2.2.2.2.2.2.2.2.2.2.1) (s.2.2.2.2.2.2.2.2.2.2.2.1) (s.2.2.2.2.2.2.2.2.2.2.2.2.2.2.2)
  | 5 => T_Md_pairs_5 rec (s.2.1) (s.2.2.1) (s.2.2.2.1) (s.2.2.2.2.1) (s.2.2.2.2.2.1) (s.2.2.2.2.2.2.1) (s.2.2.2.2.2.2.2.2.2.1) (s.2.2.2.2.2.2.2.2.2.2.2.2.2.2.2)
  | 6 => T_Md_pairs_6 rec (s.2.1) (s.2.2.1) (s.2.2.2.1) (s.2.2.2.2.1) (s.2.2.2.2.2.1) (s.2.2.2.2.2.2.1) (s.2.2.2.2.2.2.2.1) (s.2.2.2.2.2.2.2.2.2.2.2.2.2.2.2)
  | 7 => T_Md_pairs_7 rec (s.2.1) (s.2.2.1) (s.2.2.2.1) (s.2.2.2.2.1) (s.2.2.2.2.2.1) (s.2.2.2.2.2.2.1) (s.2.2.2.2.2.2.2.1) (s.2.2.2.2.2.2.2.2.2.2.1) (s.2.2.2.2.2.2.2.2.2.2.2.1) (s.2.2.2.2.2.2.2.2.2.2.2.2.2.2.2)
  | 8 => T_Md_pairs_8 rec (s.2.1) (s.2.2.1) (s.2.2.2.1) (s.2.2.2.2.1) (s.2.2.2.2.2.1) (s.2.2.2.2.2.2.1) (s.2.2.2.2.2.2.2.1) (s.2.2.2.2.2.2.2.2.1) (s.2.2.2.2.2.2.2.2.2.2.1) (s.2.2.2.2.2.2.2.2.2.2.2.1) (s.2.2.2.2.2.2.2.2.2.2.2.2.1) (s.2.2.2.2.2.2.2.2.2.2.2.2.2.1) (s.2.2.2.2.2.2.2.2.2.2.2.2.2.2.2)
  | 9 => T_Md_pairs_9 rec (s.2.1) (s.2.2.1) (s.2.2.2.1) (s.2.2.2.2.1) (s.2.2.2.2.2.1) (s.2.2.2.2.2.2.1) (s.2.2.2.2.2.2.2.1) (s.2.2.2.2.2.2.2.2.2.2.1) (s.2.2.2.2.2.2.2.2.2.2.2.1) (s.2.2.2.2.2.2.2.2.2.2.2.2.1) (s.2.2.2.2.2.2.2.2.2.2.2.2.2.1) (s.2.2.2.2.2.2.2.2.2.2.2.2.2.2.1) (s.2.2.2.2.2.2.2.2.2.2.2.2.2.2.2)
  | _ => T_Md_pairs_10 rec (s.2.1) (s.2.2.1) (s.2.2.2.1) (s.2.2.2.2.1) (s.2.2.2.2.2.1) (s.2.2.2.2.2.2.1) (s.2.2.2.2.2.2.2.1) (s.2.2.2.2.2.2.2.2.2.2.2.2.2.2.2)
noncomputable def L_Md_pairs_0 (rec : GT_Md_pairs) (v0R : Nat) (v1I : Int32) (v2I : Int32) (v3I : Int32) (v4I : Int32) (σ : AM) : Option (Int32 × AM) := lp (F_Md_pairs rec) (0, v0R, v1I, v2I, v3I, v4I, 0, 0, 0, 0, 0, 0, 0, 0, 0, σ)
noncomputable def L_Md_pairs_1 (rec : GT_Md_pairs) (s0I : Int32) (σ : AM) : Option (Int32 × AM) := lp (F_Md_pairs rec) (1, 0, 0, 0, 0, 0, 0, 0, 0, s0I, 0, 0, 0, 0, 0, σ)
noncomputable def L_Md_pairs_2 (rec : GT_Md_pairs) (v0R : Nat) (v1I : Int32) (v2I : Int32) (v3I : Int32) (v4I : Int32) (s0I : Int32) (σ : AM) : Option (Int32 × AM) := lp (F_Md_pairs rec) (2, v0R, v1I, v2I, v3I, v4I, 0, 0, 0, s0I, 0, 0, 0, 0, 0, σ)
noncomputable def L_Md_pairs_3 (rec : GT_Md_pairs) (v0R : Nat) (v1I : Int32) (v2I : Int32) (v3I : Int32) (v4I : Int32) (v5I : Int32) (σ : AM) : Option (Int32 × AM) := lp (F_Md_pairs rec) (3, v0R, v1I, v2I, v3I, v4I, v5I, 0, 0, 0, 0, 0, 0, 0, 0, σ)
noncomputable def L_Md_pairs_4 (rec : GT_Md_pairs) (v0R : Nat) (v1I : Int32) (v2I : Int32) (v3I : Int32) (v4I : Int32) (v5I : Int32) (s0R : Nat) (s1I : Int32) (σ : AM) : Option (Int32 × AM) := lp (F_Md_pairs rec) (4, v0R, v1I, v2I, v3I, v4I, v5I, 0, 0, 0, s0R, s1I, 0, 0, 0, σ)
noncomputable def L_Md_pairs_5 (rec : GT_Md_pairs) (v0R : Nat) (v1I : Int32) (v2I : Int32) (v3I : Int32) (v4I : Int32) (v5I : Int32) (s0I : Int32) (σ : AM) : Option (Int32 × AM) := lp (F_Md_pairs rec) (5, v0R, v1I, v2I, v3I, v4I, v5I, 0, 0, s0I, 0, 0, 0, 0, 0, σ)
noncomputable def L_Md_pairs_6 (rec : GT_Md_pairs) (v0R : Nat) (v1I : Int32) (v2I : Int32) (v3I : Int32) (v4I : Int32) (v5I : Int32) (v7I : Int32) (σ : AM) : Option (Int32 × AM) := lp (F_Md_pairs rec) (6, v0R, v1I, v2I, v3I, v4I, v5I, v7I, 0, 0, 0, 0, 0, 0, 0, σ)
noncomputable def L_Md_pairs_7 (rec : GT_Md_pairs) (v0R : Nat) (v1I : Int32) (v2I : Int32) (v3I : Int32) (v4I : Int32) (v5I : Int32) (v7I : Int32) (s0R : Nat) (s1I : Int32) (σ : AM) : Option (Int32 × AM) := lp (F_Md_pairs rec) (7, v0R, v1I, v2I, v3I, v4I, v5I, v7I, 0, 0, s0R, s1I, 0, 0, 0, σ)
noncomputable def L_Md_pairs_8 (rec : GT_Md_pairs) (v0R : Nat) (v1I : Int32) (v2I : Int32) (v3I : Int32) (v4I : Int32) (v5I : Int32) (v7I : Int32) (v8I : Int32) (s0R : Nat) (s1I : Int32) (s2I : Int32) (s3I : Int32) (σ : AM) : Option (Int32 × AM) := lp (F_Md_pairs rec) (8, v0R, v1I, v2I, v3I, v4I, v5I, v7I, v8I, 0, s0R, s1I, s2I, s3I, 0, σ)
noncomputable def L_Md_pairs_9 (rec : GT_Md_pairs) (v0R : Nat) (v1I : Int32) (v2I : Int32) (v3I : Int32) (v4I : Int32) (v5I : Int32) (v7I : Int32) (s0R : Nat) (s1I : Int32) (s2I : Int32) (s3I : Int32) (s4I : Int32) (σ : AM) : Option (Int32 × AM) := lp (F_Md_pairs rec) (9, v0R, v1I, v2I, v3I, v4I, v5I, v7I, 0, 0, s0R, s1I, s2I, s3I, s4I, σ)
noncomputable def L_Md_pairs_10 (rec : GT_Md_pairs) (v0R : Nat) (v1I : Int32) (v2I : Int32) (v3I : Int32) (v4I : Int32) (v5I : Int32) (v7I : Int32) (σ : AM) : Option (Int32 × AM) := lp (F_Md_pairs rec) (10, v0R, v1I, v2I, v3I, v4I, v5I, v7I, 0, 0, 0, 0, 0, 0, 0, σ)
set_option maxRecDepth 20000 in
theorem E_Md_pairs_0 (rec : GT_Md_pairs) (v0R : Nat) (v1I : Int32) (v2I : Int32) (v3I : Int32) (v4I : Int32) (σ : AM) : L_Md_pairs_0 rec v0R v1I v2I v3I v4I σ = (if v2I = ((2 : Int32) * v1I) then (if (((v4I ||| (8947848 : Int32)) - v3I) &&& (8947848 : Int32)) = (8947848 : Int32) then (L_Md_pairs_1 rec ((1 : Int32)) σ) else (L_Md_pairs_1 rec ((0 : Int32)) σ)) else (if v2I < v1I then (L_Md_pairs_2 rec v0R v1I v2I v3I v4I ((1 : Int32)) σ) else (L_Md_pairs_2 rec v0R v1I v2I v3I v4I ((0 : Int32)) σ))) := by
  unfold L_Md_pairs_0
  rw [lp_eq]
  show lpK (lp (F_Md_pairs rec)) (T_Md_pairs_0 rec v0R v1I v2I v3I v4I σ) = _
  unfold T_Md_pairs_0
  simp only [lpK_ite, lq_inl, lq_inr, lpK_bnd, lpK_gd, lq_let]
  try rfl
set_option maxRecDepth 20000 in
theorem E_Md_pairs_1 (rec : GT_Md_pairs) (s0I : Int32) (σ : AM) : L_Md_pairs_1 rec s0I σ = (gd (isB s0I) <| (some (s0I, σ))) := by
  unfold L_Md_pairs_1
  rw [lp_eq]
  show lpK (lp (F_Md_pairs rec)) (T_Md_pairs_1 rec s0I σ) = _
  unfold T_Md_pairs_1
  simp only [lpK_ite, lq_inl, lq_inr, lpK_bnd, lpK_gd, lq_let]
  try rfl
set_option maxRecDepth 20000 in
theorem E_Md_pairs_2 (rec : GT_Md_pairs) (v0R : Nat) (v1I : Int32) (v2I : Int32) (v3I : Int32) (v4I : Int32) (s0I : Int32) (σ : AM) : L_Md_pairs_2 rec v0R v1I v2I v3I v4I s0I σ = (if v2I = 0 then (L_Md_pairs_3 rec v0R v1I v2I v3I v4I s0I σ) else (if v2I = v1I then (L_Md_pairs_3 rec v0R v1I v2I v3I v4I s0I σ) else (gd (okO σ v0R 12) <| gd (okO σ (aR σ v0R 63) 101) <| if s0I = 0 then (L_Md_pairs_4 rec v0R v1I v2I v3I v4I s0I (aR σ v0R 63) ((v2I - v1I) + (2 : Int32)) σ) else (L_Md_pairs_4 rec v0R v1I v2I v3I v4I s0I (aR σ v0R 63) (v2I - (1 : Int32)) σ)))) := by
  unfold L_Md_pairs_2
  rw [lp_eq]
  show lpK (lp (F_Md_pairs rec)) (T_Md_pairs_2 rec v0R v1I v2I v3I v4I s0I σ) = _
  unfold T_Md_pairs_2
  simp only [lpK_ite, lq_inl, lq_inr, lpK_bnd, lpK_gd, lq_let]
  try rfl
set_option maxRecDepth 20000 in
theorem E_Md_pairs_3 (rec : GT_Md_pairs) (v0R : Nat) (v1I : Int32) (v2I : Int32) (v3I : Int32) (v4I : Int32) (v5I : Int32) (σ : AM) : L_Md_pairs_3 rec v0R v1I v2I v3I v4I v5I σ = (L_Md_pairs_5 rec v0R v1I v2I v3I v4I v5I ((0 : Int32)) σ) := by
  unfold L_Md_pairs_3
  rw [lp_eq]
  show lpK (lp (F_Md_pairs rec)) (T_Md_pairs_3 rec v0R v1I v2I v3I v4I v5I σ) = _
  unfold T_Md_pairs_3
  simp only [lpK_ite, lq_inl, lq_inr, lpK_bnd, lpK_gd, lq_let]
  try rfl
set_option maxRecDepth 20000 in
theorem E_Md_pairs_4 (rec : GT_Md_pairs) (v0R : Nat) (v1I : Int32) (v2I : Int32) (v3I : Int32) (v4I : Int32) (v5I : Int32) (s0R : Nat) (s1I : Int32) (σ : AM) : L_Md_pairs_4 rec v0R v1I v2I v3I v4I v5I s0R s1I σ = (gd (okO σ s0R 101) <| gd (inB s1I (aN σ s0R)) <| L_Md_pairs_5 rec v0R v1I v2I v3I v4I v5I (aI σ s0R s1I.toNatClampNeg) σ) := by
  unfold L_Md_pairs_4
  rw [lp_eq]
  show lpK (lp (F_Md_pairs rec)) (T_Md_pairs_4 rec v0R v1I v2I v3I v4I v5I s0R s1I σ) = _
  unfold T_Md_pairs_4
  simp only [lpK_ite, lq_inl, lq_inr, lpK_bnd, lpK_gd, lq_let]
  try rfl
set_option maxRecDepth 20000 in
theorem E_Md_pairs_5 (rec : GT_Md_pairs) (v0R : Nat) (v1I : Int32) (v2I : Int32) (v3I : Int32) (v4I : Int32) (v5I : Int32) (s0I : Int32) (σ : AM) : L_Md_pairs_5 rec v0R v1I v2I v3I v4I v5I s0I σ = (L_Md_pairs_6 rec v0R v1I v2I v3I v4I v5I s0I σ) := by
  unfold L_Md_pairs_5
  rw [lp_eq]
  show lpK (lp (F_Md_pairs rec)) (T_Md_pairs_5 rec v0R v1I v2I v3I v4I v5I s0I σ) = _
  unfold T_Md_pairs_5
  simp only [lpK_ite, lq_inl, lq_inr, lpK_bnd, lpK_gd, lq_let]
  try rfl
set_option maxRecDepth 20000 in
theorem E_Md_pairs_6 (rec : GT_Md_pairs) (v0R : Nat) (v1I : Int32) (v2I : Int32) (v3I : Int32) (v4I : Int32) (v5I : Int32) (v7I : Int32) (σ : AM) : L_Md_pairs_6 rec v0R v1I v2I v3I v4I v5I v7I σ = (gd (okO σ v0R 12) <| if v7I < (aI σ v0R 37) then (gd (okO σ (aR σ v0R 39) 103) <| gd (inB v7I (aN σ (aR σ v0R 39))) <| if (aI σ (aR σ v0R 39) v7I.toNatClampNeg) = v5I then (gd (okO σ (aR σ v0R 63) 101) <| if v5I = 0 then (L_Md_pairs_7 rec v0R v1I v2I v3I v4I v5I v7I (aR σ v0R 63) ((v2I - v1I) + (3 : Int32)) σ) else (L_Md_pairs_7 rec v0R v1I v2I v3I v4I v5I v7I (aR σ v0R 63) v2I σ)) else (L_Md_pairs_10 rec v0R v1I v2I v3I v4I v5I v7I σ)) else ((some ((0 : Int32), σ)))) := by
  unfold L_Md_pairs_6
  rw [lp_eq]
  show lpK (lp (F_Md_pairs rec)) (T_Md_pairs_6 rec v0R v1I v2I v3I v4I v5I v7I σ) = _
  unfold T_Md_pairs_6
  simp only [lpK_ite, lq_inl, lq_inr, lpK_bnd, lpK_gd, lq_let]
  try rfl
set_option maxRecDepth 20000 in
theorem E_Md_pairs_7 (rec : GT_Md_pairs) (v0R : Nat) (v1I : Int32) (v2I : Int32) (v3I : Int32) (v4I : Int32) (v5I : Int32) (v7I : Int32) (s0R : Nat) (s1I : Int32) (σ : AM) : L_Md_pairs_7 rec v0R v1I v2I v3I v4I v5I v7I s0R s1I σ = (gd (okO σ s0R 101) <| gd (inB s1I (aN σ s0R)) <| letT (sI σ s0R s1I.toNatClampNeg v7I) fun σ3 => gd (okO σ3 v0R 12) <| gd (okO σ3 (aR σ3 v0R 38) 101) <| gd (inB v7I (aN σ3 (aR σ3 v0R 38))) <| bnd (M_Md_spread (aI σ3 (aR σ3 v0R 38) v7I.toNatClampNeg) σ3) fun r8 σ9 => if v5I = 0 then (L_Md_pairs_8 rec v0R v1I v2I v3I v4I v5I v7I r8 v0R v1I (v2I + (1 : Int32)) v3I σ9) else (L_Md_pairs_8 rec v0R v1I v2I v3I v4I v5I v7I r8 v0R v1I (v2I + (1 : Int32)) (v3I + r8) σ9)) := by
  unfold L_Md_pairs_7
  rw [lp_eq]
  show lpK (lp (F_Md_pairs rec)) (T_Md_pairs_7 rec v0R v1I v2I v3I v4I v5I v7I s0R s1I σ) = _
  unfold T_Md_pairs_7
  simp only [lpK_ite, lq_inl, lq_inr, lpK_bnd, lpK_gd, lq_let]
  try rfl
set_option maxRecDepth 20000 in
theorem E_Md_pairs_8 (rec : GT_Md_pairs) (v0R : Nat) (v1I : Int32) (v2I : Int32) (v3I : Int32) (v4I : Int32) (v5I : Int32) (v7I : Int32) (v8I : Int32) (s0R : Nat) (s1I : Int32) (s2I : Int32) (s3I : Int32) (σ : AM) : L_Md_pairs_8 rec v0R v1I v2I v3I v4I v5I v7I v8I s0R s1I s2I s3I σ = (if v5I = 0 then (L_Md_pairs_9 rec v0R v1I v2I v3I v4I v5I v7I s0R s1I s2I s3I (v4I + v8I) σ) else (L_Md_pairs_9 rec v0R v1I v2I v3I v4I v5I v7I s0R s1I s2I s3I v4I σ)) := by
  unfold L_Md_pairs_8
  rw [lp_eq]
  show lpK (lp (F_Md_pairs rec)) (T_Md_pairs_8 rec v0R v1I v2I v3I v4I v5I v7I v8I s0R s1I s2I s3I σ) = _
  unfold T_Md_pairs_8
  simp only [lpK_ite, lq_inl, lq_inr, lpK_bnd, lpK_gd, lq_let]
  try rfl
set_option maxRecDepth 20000 in
theorem E_Md_pairs_9 (rec : GT_Md_pairs) (v0R : Nat) (v1I : Int32) (v2I : Int32) (v3I : Int32) (v4I : Int32) (v5I : Int32) (v7I : Int32) (s0R : Nat) (s1I : Int32) (s2I : Int32) (s3I : Int32) (s4I : Int32) (σ : AM) : L_Md_pairs_9 rec v0R v1I v2I v3I v4I v5I v7I s0R s1I s2I s3I s4I σ = (gd (okO σ s0R 12) <| bnd (rec s0R s1I s2I s3I s4I σ) fun r1 σ2 => if r1 = 0 then (L_Md_pairs_10 rec v0R v1I v2I v3I v4I v5I v7I σ2) else ((some ((1 : Int32), σ2)))) := by
  unfold L_Md_pairs_9
  rw [lp_eq]
  show lpK (lp (F_Md_pairs rec)) (T_Md_pairs_9 rec v0R v1I v2I v3I v4I v5I v7I s0R s1I s2I s3I s4I σ) = _
  unfold T_Md_pairs_9
  simp only [lpK_ite, lq_inl, lq_inr, lpK_bnd, lpK_gd, lq_let]
  try rfl
set_option maxRecDepth 20000 in
theorem E_Md_pairs_10 (rec : GT_Md_pairs) (v0R : Nat) (v1I : Int32) (v2I : Int32) (v3I : Int32) (v4I : Int32) (v5I : Int32) (v7I : Int32) (σ : AM) : L_Md_pairs_10 rec v0R v1I v2I v3I v4I v5I v7I σ = (L_Md_pairs_6 rec v0R v1I v2I v3I v4I v5I (v7I + (1 : Int32)) σ) := by
  unfold L_Md_pairs_10
  rw [lp_eq]
  show lpK (lp (F_Md_pairs rec)) (T_Md_pairs_10 rec v0R v1I v2I v3I v4I v5I v7I σ) = _
  unfold T_Md_pairs_10
  simp only [lpK_ite, lq_inl, lq_inr, lpK_bnd, lpK_gd, lq_let]
  try rfl
noncomputable def N_Md_pairs (rec : GT_Md_pairs) (v0R : Nat) (v1I : Int32) (v2I : Int32) (v3I : Int32) (v4I : Int32) (σ : AM) : Option (Int32 × AM) := mw σ (L_Md_pairs_0 rec v0R v1I v2I v3I v4I σ)
def I_Md_pairs (G : GX) (p : Program) (l : Launch) (e : Env) (s : State) (m : MethodId) (args : Array Value) (below : List Frame) (meth : Method) (c : Code) (n0 : Nat) (rec : GT_Md_pairs) (z0 u0 n : Nat) : Prop :=
  (∀ (v0R : Nat) (v1I : Int32) (v2I : Int32) (v3I : Int32) (v4I : Int32) (σ : AM), VX (QM eI G args s below z0 u0) G p l e s m args below meth c (1 + n0 + 1) z0 u0 9 (lpn (F_Md_pairs rec) n (0, v0R, v1I, v2I, v3I, v4I, 0, 0, 0, 0, 0, 0, 0, 0, 0, σ)) 0 [(0, .ref v0R), (1, .int v1I), (2, .int v2I), (3, .int v3I), (4, .int v4I)] [] σ) ∧
  (∀ (s0I : Int32) (σ : AM), VX (QM eI G args s below z0 u0) G p l e s m args below meth c (1 + n0 + 1) z0 u0 9 (lpn (F_Md_pairs rec) n (1, 0, 0, 0, 0, 0, 0, 0, 0, s0I, 0, 0, 0, 0, 0, σ)) 30 [] [.int s0I] σ) ∧
  (∀ (v0R : Nat) (v1I : Int32) (v2I : Int32) (v3I : Int32) (v4I : Int32) (s0I : Int32) (σ : AM), VX (QM eI G args s below z0 u0) G p l e s m args below meth c (1 + n0 + 1) z0 u0 9 (lpn (F_Md_pairs rec) n (2, v0R, v1I, v2I, v3I, v4I, 0, 0, 0, s0I, 0, 0, 0, 0, 0, σ)) 41 [(0, .ref v0R), (1, .int v1I), (2, .int v2I), (3, .int v3I), (4, .int v4I)] [.int s0I] σ) ∧
  (∀ (v0R : Nat) (v1I : Int32) (v2I : Int32) (v3I : Int32) (v4I : Int32) (v5I : Int32) (σ : AM), VX (QM eI G args s below z0 u0) G p l e s m args below meth c (1 + n0 + 1) z0 u0 9 (lpn (F_Md_pairs rec) n (3, v0R, v1I, v2I, v3I, v4I, v5I, 0, 0, 0, 0, 0, 0, 0, 0, σ)) 52 [(0, .ref v0R), (1, .int v1I), (2, .int v2I), (3, .int v3I), (4, .int v4I), (5, .int v5I)] [] σ) ∧
  (∀ (v0R : Nat) (v1I : Int32) (v2I : Int32) (v3I : Int32) (v4I : Int32) (v5I : Int32) (s0R : Nat) (s1I : Int32) (σ : AM), VX (QM eI G args s below z0 u0) G p l e s m args below meth c (1 + n0 + 1) z0 u0 9 (lpn (F_Md_pairs rec) n (4, v0R, v1I, v2I, v3I, v4I, v5I, 0, 0, 0, s0R, s1I, 0, 0, 0, σ)) 76 [(0, .ref v0R), (1, .int v1I), (2, .int v2I), (3, .int v3I), (4, .int v4I), (5, .int v5I)] [.int s1I, .ref s0R] σ) ∧
  (∀ (v0R : Nat) (v1I : Int32) (v2I : Int32) (v3I : Int32) (v4I : Int32) (v5I : Int32) (s0I : Int32) (σ : AM), VX (QM eI G args s below z0 u0) G p l e s m args below meth c (1 + n0 + 1) z0 u0 9 (lpn (F_Md_pairs rec) n (5, v0R, v1I, v2I, v3I, v4I, v5I, 0, 0, s0I, 0, 0, 0, 0, 0, σ)) 77 [(0, .ref v0R), (1, .int v1I), (2, .int v2I), (3, .int v3I), (4, .int v4I), (5, .int v5I)] [.int s0I] σ) ∧
  (∀ (v0R : Nat) (v1I : Int32) (v2I : Int32) (v3I : Int32) (v4I : Int32) (v5I : Int32) (v7I : Int32) (σ : AM), VX (QM eI G args s below z0 u0) G p l e s m args below meth c (1 + n0 + 1) z0 u0 9 (lpn (F_Md_pairs rec) n (6, v0R, v1I, v2I, v3I, v4I, v5I, v7I, 0, 0, 0, 0, 0, 0, 0, σ)) 83 [(0, .ref v0R), (1, .int v1I), (2, .int v2I), (3, .int v3I), (4, .int v4I), (5, .int v5I), (7, .int v7I)] [] σ) ∧
  (∀ (v0R : Nat) (v1I : Int32) (v2I : Int32) (v3I : Int32) (v4I : Int32) (v5I : Int32) (v7I : Int32) (s0R : Nat) (s1I : Int32) (σ : AM), VX (QM eI G args s below z0 u0) G p l e s m args below meth c (1 + n0 + 1) z0 u0 9 (lpn (F_Md_pairs rec) n (7, v0R, v1I, v2I, v3I, v4I, v5I, v7I, 0, 0, s0R, s1I, 0, 0, 0, σ)) 122 [(0, .ref v0R), (1, .int v1I), (2, .int v2I), (3, .int v3I), (4, .int v4I), (5, .int v5I), (7, .int v7I)] [.int s1I, .ref s0R] σ) ∧
  (∀ (v0R : Nat) (v1I : Int32) (v2I : Int32) (v3I : Int32) (v4I : Int32) (v5I : Int32) (v7I : Int32) (v8I : Int32) (s0R : Nat) (s1I : Int32) (s2I : Int32) (s3I : Int32) (σ : AM), VX (QM eI G args s below z0 u0) G p l e s m args below meth c (1 + n0 + 1) z0 u0 9 (lpn (F_Md_pairs rec) n (8, v0R, v1I, v2I, v3I, v4I, v5I, v7I, v8I, 0, s0R, s1I, s2I, s3I, 0, σ)) 155 [(0, .ref v0R), (1, .int v1I), (2, .int v2I), (3, .int v3I), (4, .int v4I), (5, .int v5I), (7, .int v7I), (8, .int v8I)] [.int s3I, .int s2I, .int s1I, .ref s0R] σ) ∧
  (∀ (v0R : Nat) (v1I : Int32) (v2I : Int32) (v3I : Int32) (v4I : Int32) (v5I : Int32) (v7I : Int32) (s0R : Nat) (s1I : Int32) (s2I : Int32) (s3I : Int32) (s4I : Int32) (σ : AM), VX (QM eI G args s below z0 u0) G p l e s m args below meth c (1 + n0 + 1) z0 u0 9 (lpn (F_Md_pairs rec) n (9, v0R, v1I, v2I, v3I, v4I, v5I, v7I, 0, 0, s0R, s1I, s2I, s3I, s4I, σ)) 170 [(0, .ref v0R), (1, .int v1I), (2, .int v2I), (3, .int v3I), (4, .int v4I), (5, .int v5I), (7, .int v7I)] [.int s4I, .int s3I, .int s2I, .int s1I, .ref s0R] σ) ∧
  (∀ (v0R : Nat) (v1I : Int32) (v2I : Int32) (v3I : Int32) (v4I : Int32) (v5I : Int32) (v7I : Int32) (σ : AM), VX (QM eI G args s below z0 u0) G p l e s m args below meth c (1 + n0 + 1) z0 u0 9 (lpn (F_Md_pairs rec) n (10, v0R, v1I, v2I, v3I, v4I, v5I, v7I, 0, 0, 0, 0, 0, 0, 0, σ)) 178 [(0, .ref v0R), (1, .int v1I), (2, .int v2I), (3, .int v3I), (4, .int v4I), (5, .int v5I), (7, .int v7I)] [] σ)
set_option maxRecDepth 20000 in
theorem s_Md_pairs_0 {G : GX} {p : Program} {l : Launch} {e : Env} {s : State} {m : MethodId} {args : Array Value} {below : List Frame} {meth : Method} {c : Code} {z0 u0 n : Nat} (C : Cx G p s m args meth c prog_14_method_93_code 9 "BellPlateModel" ((some FieldType.boolean))) {n0 : Nat} {rec : GT_Md_pairs} (HR : H_Md_pairs G l n0 rec) (IH : I_Md_pairs G p l e s m args below meth c n0 rec z0 u0 n) (v0R : Nat) (v1I : Int32) (v2I : Int32) (v3I : Int32) (v4I : Int32) (σ : AM) : VX (QM eI G args s below z0 u0) G p l e s m args below meth c (1 + n0 + 1) z0 u0 9 (lpK (lpn (F_Md_pairs rec) n) (T_Md_pairs_0 rec v0R v1I v2I v3I v4I σ)) 0 [(0, .ref v0R), (1, .int v1I), (2, .int v2I), (3, .int v3I), (4, .int v4I)] [] σ := by
  unfold T_Md_pairs_0
  refine x_iload_n C d_Md_pairs_0 2 rfl ?_
  refine x_iconst (v := (2 : Int32)) C d_Md_pairs_1 (by decide) ?_
  refine x_iload_n C d_Md_pairs_2 1 rfl ?_
  refine x_imul C d_Md_pairs_3 ?_
  refine x_icmp_ne (tgt := 31) C d_Md_pairs_4 (by decide) (fun _ => ?_) (fun _ => ?_)
  · refine x_iload C d_Md_pairs_7 4 rfl ?_
    refine x_ldcw C d_Md_pairs_9 w2385 ?_
    refine x_ior C d_Md_pairs_12 ?_
    refine x_iload_n C d_Md_pairs_13 3 rfl ?_
    refine x_isub C d_Md_pairs_14 ?_
    refine x_ldcw C d_Md_pairs_15 w2385 ?_
    refine x_iand C d_Md_pairs_18 ?_
    refine x_ldcw C d_Md_pairs_19 w2385 ?_
    refine x_icmp_ne (tgt := 29) C d_Md_pairs_22 (by decide) (fun _ => ?_) (fun _ => ?_)
    · refine x_iconst (v := (1 : Int32)) C d_Md_pairs_25 (by decide) ?_
      refine x_goto (tgt := 30) C d_Md_pairs_26 (by decide) ?_
      refine x_lv [] rfl ?_
      exact IH.2.1 ((1 : Int32)) (σ)
    · refine x_iconst (v := (0 : Int32)) C d_Md_pairs_29 (by decide) ?_
      refine x_lv [] rfl ?_
      exact IH.2.1 ((0 : Int32)) (σ)
  · refine x_iload_n C d_Md_pairs_31 2 rfl ?_
    refine x_iload_n C d_Md_pairs_32 1 rfl ?_
    refine x_icmp_ge (tgt := 40) C d_Md_pairs_33 (by decide) (fun _ => ?_) (fun _ => ?_)
    · refine x_iconst (v := (1 : Int32)) C d_Md_pairs_36 (by decide) ?_
      refine x_goto (tgt := 41) C d_Md_pairs_37 (by decide) ?_
      exact IH.2.2.1 v0R v1I v2I v3I v4I ((1 : Int32)) (σ)
    · refine x_iconst (v := (0 : Int32)) C d_Md_pairs_40 (by decide) ?_
      exact IH.2.2.1 v0R v1I v2I v3I v4I ((0 : Int32)) (σ)
set_option maxRecDepth 20000 in
theorem s_Md_pairs_1 {G : GX} {p : Program} {l : Launch} {e : Env} {s : State} {m : MethodId} {args : Array Value} {below : List Frame} {meth : Method} {c : Code} {z0 u0 n : Nat} (C : Cx G p s m args meth c prog_14_method_93_code 9 "BellPlateModel" ((some FieldType.boolean))) {n0 : Nat} {rec : GT_Md_pairs} (HR : H_Md_pairs G l n0 rec) (IH : I_Md_pairs G p l e s m args below meth c n0 rec z0 u0 n) (s0I : Int32) (σ : AM) : VX (QM eI G args s below z0 u0) G p l e s m args below meth c (1 + n0 + 1) z0 u0 9 (lpK (lpn (F_Md_pairs rec) n) (T_Md_pairs_1 rec s0I σ)) 30 [] [.int s0I] σ := by
  unfold T_Md_pairs_1
  refine x_gd (fun h1 => ?_)
  exact x_zret C (isB_narrow h1) d_Md_pairs_30
set_option maxRecDepth 20000 in
theorem s_Md_pairs_2 {G : GX} {p : Program} {l : Launch} {e : Env} {s : State} {m : MethodId} {args : Array Value} {below : List Frame} {meth : Method} {c : Code} {z0 u0 n : Nat} (C : Cx G p s m args meth c prog_14_method_93_code 9 "BellPlateModel" ((some FieldType.boolean))) {n0 : Nat} {rec : GT_Md_pairs} (HR : H_Md_pairs G l n0 rec) (IH : I_Md_pairs G p l e s m args below meth c n0 rec z0 u0 n) (v0R : Nat) (v1I : Int32) (v2I : Int32) (v3I : Int32) (v4I : Int32) (s0I : Int32) (σ : AM) : VX (QM eI G args s below z0 u0) G p l e s m args below meth c (1 + n0 + 1) z0 u0 9 (lpK (lpn (F_Md_pairs rec) n) (T_Md_pairs_2 rec v0R v1I v2I v3I v4I s0I σ)) 41 [(0, .ref v0R), (1, .int v1I), (2, .int v2I), (3, .int v3I), (4, .int v4I)] [.int s0I] σ := by
  unfold T_Md_pairs_2
  refine x_istore (lv' := [(5, .int s0I), (0, .ref v0R), (1, .int v1I), (2, .int v2I), (3, .int v3I), (4, .int v4I)]) C d_Md_pairs_41 (by decide) rfl ?_
  refine x_iload_n C d_Md_pairs_43 3 rfl ?_
  refine x_if_eq (tgt := 52) C d_Md_pairs_44 (by decide) (fun _ => ?_) (fun _ => ?_)
  · refine x_lv [1, 2, 3, 4, 5, 0] rfl ?_
    exact IH.2.2.2.1 v0R v1I v2I v3I v4I s0I (σ)
  · refine x_iload_n C d_Md_pairs_47 3 rfl ?_
    refine x_iload_n C d_Md_pairs_48 2 rfl ?_
    refine x_icmp_ne (tgt := 56) C d_Md_pairs_49 (by decide) (fun _ => ?_) (fun _ => ?_)
    · refine x_lv [1, 2, 3, 4, 5, 0] rfl ?_
      exact IH.2.2.2.1 v0R v1I v2I v3I v4I s0I (σ)
    · refine x_aload_n C d_Md_pairs_56 1 rfl ?_
      refine x_gd (fun h1 => ?_)
      refine x_gd (fun h2 => ?_)
      refine x_getR (k := 63) (kv := 101) C (okO_iff.mp h1) rfl j11_ok (by decide) rfl (okO_iff.mp h2) (by decide) w1915 d_Md_pairs_57 ?_
      refine x_iload C d_Md_pairs_60 0 rfl ?_
      refine x_if_eq (tgt := 71) C d_Md_pairs_62 (by decide) (fun _ => ?_) (fun _ => ?_)
      · refine x_iload_n C d_Md_pairs_71 3 rfl ?_
        refine x_iload_n C d_Md_pairs_72 2 rfl ?_
        refine x_isub C d_Md_pairs_73 ?_
        refine x_iconst (v := (2 : Int32)) C d_Md_pairs_74 (by decide) ?_
        refine x_iadd C d_Md_pairs_75 ?_
        refine x_lv [1, 2, 3, 4, 5, 0] rfl ?_
        exact IH.2.2.2.2.1 v0R v1I v2I v3I v4I s0I (aR σ v0R 63) ((v2I - v1I) + (2 : Int32)) (σ)
      · refine x_iload_n C d_Md_pairs_65 3 rfl ?_
        refine x_iconst (v := (1 : Int32)) C d_Md_pairs_66 (by decide) ?_
        refine x_isub C d_Md_pairs_67 ?_
        refine x_goto (tgt := 76) C d_Md_pairs_68 (by decide) ?_
        refine x_lv [1, 2, 3, 4, 5, 0] rfl ?_
        exact IH.2.2.2.2.1 v0R v1I v2I v3I v4I s0I (aR σ v0R 63) (v2I - (1 : Int32)) (σ)
set_option maxRecDepth 20000 in
theorem s_Md_pairs_3 {G : GX} {p : Program} {l : Launch} {e : Env} {s : State} {m : MethodId} {args : Array Value} {below : List Frame} {meth : Method} {c : Code} {z0 u0 n : Nat} (C : Cx G p s m args meth c prog_14_method_93_code 9 "BellPlateModel" ((some FieldType.boolean))) {n0 : Nat} {rec : GT_Md_pairs} (HR : H_Md_pairs G l n0 rec) (IH : I_Md_pairs G p l e s m args below meth c n0 rec z0 u0 n) (v0R : Nat) (v1I : Int32) (v2I : Int32) (v3I : Int32) (v4I : Int32) (v5I : Int32) (σ : AM) : VX (QM eI G args s below z0 u0) G p l e s m args below meth c (1 + n0 + 1) z0 u0 9 (lpK (lpn (F_Md_pairs rec) n) (T_Md_pairs_3 rec v0R v1I v2I v3I v4I v5I σ)) 52 [(0, .ref v0R), (1, .int v1I), (2, .int v2I), (3, .int v3I), (4, .int v4I), (5, .int v5I)] [] σ := by
  unfold T_Md_pairs_3
  refine x_iconst (v := (0 : Int32)) C d_Md_pairs_52 (by decide) ?_
  refine x_goto (tgt := 77) C d_Md_pairs_53 (by decide) ?_
  exact IH.2.2.2.2.2.1 v0R v1I v2I v3I v4I v5I ((0 : Int32)) (σ)
set_option maxRecDepth 20000 in
theorem s_Md_pairs_4 {G : GX} {p : Program} {l : Launch} {e : Env} {s : State} {m : MethodId} {args : Array Value} {below : List Frame} {meth : Method} {c : Code} {z0 u0 n : Nat} (C : Cx G p s m args meth c prog_14_method_93_code 9 "BellPlateModel" ((some FieldType.boolean))) {n0 : Nat} {rec : GT_Md_pairs} (HR : H_Md_pairs G l n0 rec) (IH : I_Md_pairs G p l e s m args below meth c n0 rec z0 u0 n) (v0R : Nat) (v1I : Int32) (v2I : Int32) (v3I : Int32) (v4I : Int32) (v5I : Int32) (s0R : Nat) (s1I : Int32) (σ : AM) : VX (QM eI G args s below z0 u0) G p l e s m args below meth c (1 + n0 + 1) z0 u0 9 (lpK (lpn (F_Md_pairs rec) n) (T_Md_pairs_4 rec v0R v1I v2I v3I v4I v5I s0R s1I σ)) 76 [(0, .ref v0R), (1, .int v1I), (2, .int v2I), (3, .int v3I), (4, .int v4I), (5, .int v5I)] [.int s1I, .ref s0R] σ := by
  unfold T_Md_pairs_4
  refine x_gd (fun h1 => ?_)
  refine x_gd (fun h2 => ?_)
  refine x_aldI C (okO_iff.mp h1) (inB_iff.mp h2) d_Md_pairs_76 ?_
  exact IH.2.2.2.2.2.1 v0R v1I v2I v3I v4I v5I (aI σ s0R s1I.toNatClampNeg) (σ)
set_option maxRecDepth 20000 in
theorem s_Md_pairs_5 {G : GX} {p : Program} {l : Launch} {e : Env} {s : State} {m : MethodId} {args : Array Value} {below : List Frame} {meth : Method} {c : Code} {z0 u0 n : Nat} (C : Cx G p s m args meth c prog_14_method_93_code 9 "BellPlateModel" ((some FieldType.boolean))) {n0 : Nat} {rec : GT_Md_pairs} (HR : H_Md_pairs G l n0 rec) (IH : I_Md_pairs G p l e s m args below meth c n0 rec z0 u0 n) (v0R : Nat) (v1I : Int32) (v2I : Int32) (v3I : Int32) (v4I : Int32) (v5I : Int32) (s0I : Int32) (σ : AM) : VX (QM eI G args s below z0 u0) G p l e s m args below meth c (1 + n0 + 1) z0 u0 9 (lpK (lpn (F_Md_pairs rec) n) (T_Md_pairs_5 rec v0R v1I v2I v3I v4I v5I s0I σ)) 77 [(0, .ref v0R), (1, .int v1I), (2, .int v2I), (3, .int v3I), (4, .int v4I), (5, .int v5I)] [.int s0I] σ := by
  unfold T_Md_pairs_5
  refine x_istore (lv' := [(6, .int s0I), (0, .ref v0R), (1, .int v1I), (2, .int v2I), (3, .int v3I), (4, .int v4I), (5, .int v5I)]) C d_Md_pairs_77 (by decide) rfl ?_
  refine x_iload C d_Md_pairs_79 0 rfl ?_
  refine x_istore (lv' := [(7, .int s0I), (6, .int s0I), (0, .ref v0R), (1, .int v1I), (2, .int v2I), (3, .int v3I), (4, .int v4I), (5, .int v5I)]) C d_Md_pairs_81 (by decide) rfl ?_
  refine x_lv [2, 3, 4, 5, 6, 7, 0] rfl ?_
  exact IH.2.2.2.2.2.2.1 v0R v1I v2I v3I v4I v5I s0I (σ)
set_option maxRecDepth 20000 in
theorem s_Md_pairs_6 {G : GX} {p : Program} {l : Launch} {e : Env} {s : State} {m : MethodId} {args : Array Value} {below : List Frame} {meth : Method} {c : Code} {z0 u0 n : Nat} (C : Cx G p s m args meth c prog_14_method_93_code 9 "BellPlateModel" ((some FieldType.boolean))) {n0 : Nat} {rec : GT_Md_pairs} (HR : H_Md_pairs G l n0 rec) (IH : I_Md_pairs G p l e s m args below meth c n0 rec z0 u0 n) (v0R : Nat) (v1I : Int32) (v2I : Int32) (v3I : Int32) (v4I : Int32) (v5I : Int32) (v7I : Int32) (σ : AM) : VX (QM eI G args s below z0 u0) G p l e s m args below meth c (1 + n0 + 1) z0 u0 9 (lpK (lpn (F_Md_pairs rec) n) (T_Md_pairs_6 rec v0R v1I v2I v3I v4I v5I v7I σ)) 83 [(0, .ref v0R), (1, .int v1I), (2, .int v2I), (3, .int v3I), (4, .int v4I), (5, .int v5I), (7, .int v7I)] [] σ := by
  unfold T_Md_pairs_6
  refine x_iload C d_Md_pairs_83 6 rfl ?_
  refine x_aload_n C d_Md_pairs_85 0 rfl ?_
  refine x_gd (fun h1 => ?_)
  refine x_getI (k := 37) C (okO_iff.mp h1) rfl j11_ok (by decide) rfl w1889 d_Md_pairs_86 ?_
  refine x_icmp_ge (tgt := 184) C d_Md_pairs_89 (by decide) (fun _ => ?_) (fun _ => ?_)
  · refine x_aload_n C d_Md_pairs_92 0 rfl ?_
    refine x_gd (fun h2 => ?_)
    refine x_getR (k := 39) (kv := 103) C (okO_iff.mp h1) rfl j11_ok (by decide) rfl (okO_iff.mp h2) (by decide) w1891 d_Md_pairs_93 ?_
    refine x_iload C d_Md_pairs_96 6 rfl ?_
    refine x_gd (fun h3 => ?_)
    refine x_aldZ C (okO_iff.mp h2) (inB_iff.mp h3) d_Md_pairs_98 ?_
    refine x_iload C d_Md_pairs_99 5 rfl ?_
    refine x_icmp_ne (tgt := 178) C d_Md_pairs_101 (by decide) (fun _ => ?_) (fun _ => ?_)
    · refine x_aload_n C d_Md_pairs_104 0 rfl ?_
      refine x_gd (fun h4 => ?_)
      refine x_getR (k := 63) (kv := 101) C (okO_iff.mp h1) rfl j11_ok (by decide) rfl (okO_iff.mp h4) (by decide) w1915 d_Md_pairs_105 ?_
      refine x_iload C d_Md_pairs_108 5 rfl ?_
      refine x_if_eq (tgt := 117) C d_Md_pairs_110 (by decide) (fun _ => ?_) (fun _ => ?_)
      · refine x_iload_n C d_Md_pairs_117 2 rfl ?_
        refine x_iload_n C d_Md_pairs_118 1 rfl ?_
        refine x_isub C d_Md_pairs_119 ?_
        refine x_iconst (v := (3 : Int32)) C d_Md_pairs_120 (by decide) ?_
        refine x_iadd C d_Md_pairs_121 ?_
        exact IH.2.2.2.2.2.2.2.1 v0R v1I v2I v3I v4I v5I v7I (aR σ v0R 63) ((v2I - v1I) + (3 : Int32)) (σ)
      · refine x_iload_n C d_Md_pairs_113 2 rfl ?_
        refine x_goto (tgt := 122) C d_Md_pairs_114 (by decide) ?_
        exact IH.2.2.2.2.2.2.2.1 v0R v1I v2I v3I v4I v5I v7I (aR σ v0R 63) v2I (σ)
    · exact IH.2.2.2.2.2.2.2.2.2.2 v0R v1I v2I v3I v4I v5I v7I (σ)
  · refine x_iconst (v := (0 : Int32)) C d_Md_pairs_184 (by decide) ?_
    exact x_zret C (by decide) d_Md_pairs_185
set_option maxRecDepth 20000 in
theorem s_Md_pairs_7 {G : GX} {p : Program} {l : Launch} {e : Env} {s : State} {m : MethodId} {args : Array Value} {below : List Frame} {meth : Method} {c : Code} {z0 u0 n : Nat} (C : Cx G p s m args meth c prog_14_method_93_code 9 "BellPlateModel" ((some FieldType.boolean))) {n0 : Nat} {rec : GT_Md_pairs} (HR : H_Md_pairs G l n0 rec) (IH : I_Md_pairs G p l e s m args below meth c n0 rec z0 u0 n) (v0R : Nat) (v1I : Int32) (v2I : Int32) (v3I : Int32) (v4I : Int32) (v5I : Int32) (v7I : Int32) (s0R : Nat) (s1I : Int32) (σ : AM) : VX (QM eI G args s below z0 u0) G p l e s m args below meth c (1 + n0 + 1) z0 u0 9 (lpK (lpn (F_Md_pairs rec) n) (T_Md_pairs_7 rec v0R v1I v2I v3I v4I v5I v7I s0R s1I σ)) 122 [(0, .ref v0R), (1, .int v1I), (2, .int v2I), (3, .int v3I), (4, .int v4I), (5, .int v5I), (7, .int v7I)] [.int s1I, .ref s0R] σ := by
  unfold T_Md_pairs_7
  refine x_iload C d_Md_pairs_122 6 rfl ?_
  refine x_gd (fun h1 => ?_)
  refine x_gd (fun h2 => ?_)
  refine x_astI C (okO_iff.mp h1) (inB_iff.mp h2) d_Md_pairs_124 ?_
  refine x_letS (fun σ3 e4 => ?_)
  refine x_aload_n C d_Md_pairs_125 0 rfl ?_
  refine x_gd (fun h5 => ?_)
  refine x_gd (fun h6 => ?_)
  refine x_getR (k := 38) (kv := 101) C (okO_iff.mp h5) rfl j11_ok (by decide) rfl (okO_iff.mp h6) (by decide) w1890 d_Md_pairs_126 ?_
  refine x_iload C d_Md_pairs_129 6 rfl ?_
  refine x_gd (fun h7 => ?_)
  refine x_aldI C (okO_iff.mp h6) (inB_iff.mp h7) d_Md_pairs_131 ?_
  refine x_callSI (As := [.int (aI σ3 (aR σ3 v0R 38) v7I.toNatClampNeg)]) C (c_Md_spread G l (aI σ3 (aR σ3 v0R 38) v7I.toNatClampNeg) σ3) w2387 w2386 w2388 w134 k_Md_spread rfl (by omega) (by decide) rfl (Nat.le_of_ble_eq_true rfl) d_Md_pairs_132 (fun r8 σ9 => ?_)
  refine x_istore (lv' := [(8, .int r8), (0, .ref v0R), (1, .int v1I), (2, .int v2I), (3, .int v3I), (4, .int v4I), (5, .int v5I), (7, .int v7I)]) C d_Md_pairs_135 (by decide) rfl ?_
  refine x_aload_n C d_Md_pairs_137 1 rfl ?_
  refine x_iload_n C d_Md_pairs_138 2 rfl ?_
  refine x_iload_n C d_Md_pairs_139 3 rfl ?_
  refine x_iconst (v := (1 : Int32)) C d_Md_pairs_140 (by decide) ?_
  refine x_iadd C d_Md_pairs_141 ?_
  refine x_iload C d_Md_pairs_142 6 rfl ?_
  refine x_if_eq (tgt := 154) C d_Md_pairs_144 (by decide) (fun _ => ?_) (fun _ => ?_)
  · refine x_iload_n C d_Md_pairs_154 4 rfl ?_
    refine x_lv [1, 2, 3, 4, 5, 6, 7, 0] rfl ?_
    exact IH.2.2.2.2.2.2.2.2.1 v0R v1I v2I v3I v4I v5I v7I r8 v0R v1I (v2I + (1 : Int32)) v3I (σ9)
  · refine x_iload_n C d_Md_pairs_147 4 rfl ?_
    refine x_iload C d_Md_pairs_148 0 rfl ?_
    refine x_iadd C d_Md_pairs_150 ?_
    refine x_goto (tgt := 155) C d_Md_pairs_151 (by decide) ?_
    refine x_lv [1, 2, 3, 4, 5, 6, 7, 0] rfl ?_
    exact IH.2.2.2.2.2.2.2.2.1 v0R v1I v2I v3I v4I v5I v7I r8 v0R v1I (v2I + (1 : Int32)) (v3I + r8) (σ9)
set_option maxRecDepth 20000 in
theorem s_Md_pairs_8 {G : GX} {p : Program} {l : Launch} {e : Env} {s : State} {m : MethodId} {args : Array Value} {below : List Frame} {meth : Method} {c : Code} {z0 u0 n : Nat} (C : Cx G p s m args meth c prog_14_method_93_code 9 "BellPlateModel" ((some FieldType.boolean))) {n0 : Nat} {rec : GT_Md_pairs} (HR : H_Md_pairs G l n0 rec) (IH : I_Md_pairs G p l e s m args below meth c n0 rec z0 u0 n) (v0R : Nat) (v1I : Int32) (v2I : Int32) (v3I : Int32) (v4I : Int32) (v5I : Int32) (v7I : Int32) (v8I : Int32) (s0R : Nat) (s1I : Int32) (s2I : Int32) (s3I : Int32) (σ : AM) : VX (QM eI G args s below z0 u0) G p l e s m args below meth c (1 + n0 + 1) z0 u0 9 (lpK (lpn (F_Md_pairs rec) n) (T_Md_pairs_8 rec v0R v1I v2I v3I v4I v5I v7I v8I s0R s1I s2I s3I σ)) 155 [(0, .ref v0R), (1, .int v1I), (2, .int v2I), (3, .int v3I), (4, .int v4I), (5, .int v5I), (7, .int v7I), (8, .int v8I)] [.int s3I, .int s2I, .int s1I, .ref s0R] σ := by
  unfold T_Md_pairs_8
  refine x_iload C d_Md_pairs_155 5 rfl ?_
  refine x_if_eq (tgt := 165) C d_Md_pairs_157 (by decide) (fun _ => ?_) (fun _ => ?_)
  · refine x_iload C d_Md_pairs_165 4 rfl ?_
    refine x_iload C d_Md_pairs_167 7 rfl ?_
    refine x_iadd C d_Md_pairs_169 ?_
    refine x_lv [0, 1, 2, 3, 4, 5, 6] rfl ?_
    exact IH.2.2.2.2.2.2.2.2.2.1 v0R v1I v2I v3I v4I v5I v7I s0R s1I s2I s3I (v4I + v8I) (σ)
  · refine x_iload C d_Md_pairs_160 4 rfl ?_
    refine x_goto (tgt := 170) C d_Md_pairs_162 (by decide) ?_
    refine x_lv [0, 1, 2, 3, 4, 5, 6] rfl ?_
    exact IH.2.2.2.2.2.2.2.2.2.1 v0R v1I v2I v3I v4I v5I v7I s0R s1I s2I s3I v4I (σ)
set_option maxRecDepth 20000 in
theorem s_Md_pairs_9 {G : GX} {p : Program} {l : Launch} {e : Env} {s : State} {m : MethodId} {args : Array Value} {below : List Frame} {meth : Method} {c : Code} {z0 u0 n : Nat} (C : Cx G p s m args meth c prog_14_method_93_code 9 "BellPlateModel" ((some FieldType.boolean))) {n0 : Nat} {rec : GT_Md_pairs} (HR : H_Md_pairs G l n0 rec) (IH : I_Md_pairs G p l e s m args below meth c n0 rec z0 u0 n) (v0R : Nat) (v1I : Int32) (v2I : Int32) (v3I : Int32) (v4I : Int32) (v5I : Int32) (v7I : Int32) (s0R : Nat) (s1I : Int32) (s2I : Int32) (s3I : Int32) (s4I : Int32) (σ : AM) : VX (QM eI G args s below z0 u0) G p l e s m args below meth c (1 + n0 + 1) z0 u0 9 (lpK (lpn (F_Md_pairs rec) n) (T_Md_pairs_9 rec v0R v1I v2I v3I v4I v5I v7I s0R s1I s2I s3I s4I σ)) 170 [(0, .ref v0R), (1, .int v1I), (2, .int v2I), (3, .int v3I), (4, .int v4I), (5, .int v5I), (7, .int v7I)] [.int s4I, .int s3I, .int s2I, .int s1I, .ref s0R] σ := by
  unfold T_Md_pairs_9
  refine x_gd (fun h3 => ?_)
  refine x_callVI (As := [.int s1I, .int s2I, .int s3I, .int s4I]) C (HR s0R s1I s2I s3I s4I σ) (okO_iff.mp h3) rfl w2383 w109 w2381 w2384 w134 k_Md_pairs rfl (by omega) (by decide) rfl (Nat.le_of_ble_eq_true rfl) d_Md_pairs_170 (fun r1 σ2 => ?_)
  refine x_if_eq (tgt := 178) C d_Md_pairs_173 (by decide) (fun _ => ?_) (fun _ => ?_)
  · exact IH.2.2.2.2.2.2.2.2.2.2 v0R v1I v2I v3I v4I v5I v7I (σ2)
  · refine x_iconst (v := (1 : Int32)) C d_Md_pairs_176 (by decide) ?_
    exact x_zret C (by decide) d_Md_pairs_177
set_option maxRecDepth 20000 in
theorem s_Md_pairs_10 {G : GX} {p : Program} {l : Launch} {e : Env} {s : State} {m : MethodId} {args : Array Value} {below : List Frame} {meth : Method} {c : Code} {z0 u0 n : Nat} (C : Cx G p s m args meth c prog_14_method_93_code 9 "BellPlateModel" ((some FieldType.boolean))) {n0 : Nat} {rec : GT_Md_pairs} (HR : H_Md_pairs G l n0 rec) (IH : I_Md_pairs G p l e s m args below meth c n0 rec z0 u0 n) (v0R : Nat) (v1I : Int32) (v2I : Int32) (v3I : Int32) (v4I : Int32) (v5I : Int32) (v7I : Int32) (σ : AM) : VX (QM eI G args s below z0 u0) G p l e s m args below meth c (1 + n0 + 1) z0 u0 9 (lpK (lpn (F_Md_pairs rec) n) (T_Md_pairs_10 rec v0R v1I v2I v3I v4I v5I v7I σ)) 178 [(0, .ref v0R), (1, .int v1I), (2, .int v2I), (3, .int v3I), (4, .int v4I), (5, .int v5I), (7, .int v7I)] [] σ := by
  unfold T_Md_pairs_10
  refine x_iinc (v := v7I + (1 : Int32)) (lv' := [(7, .int (v7I + (1 : Int32))), (0, .ref v0R), (1, .int v1I), (2, .int v2I), (3, .int v3I), (4, .int v4I), (5, .int v5I)]) C d_Md_pairs_178 6 rfl rfl (by decide) rfl ?_
  refine x_goto (tgt := 83) C d_Md_pairs_181 (by decide) ?_
  refine x_lv [1, 2, 3, 4, 5, 6, 0] rfl ?_
  exact IH.2.2.2.2.2.2.1 v0R v1I v2I v3I v4I v5I (v7I + (1 : Int32)) (σ)
theorem i_Md_pairs {G : GX} {p : Program} {l : Launch} {e : Env} {s : State} {m : MethodId} {args : Array Value} {below : List Frame} {meth : Method} {c : Code} {z0 u0 : Nat} (C : Cx G p s m args meth c prog_14_method_93_code 9 "BellPlateModel" ((some FieldType.boolean))) {n0 : Nat} {rec : GT_Md_pairs} (HR : H_Md_pairs G l n0 rec) (n : Nat) : I_Md_pairs G p l e s m args below meth c n0 rec z0 u0 n := by
  induction n with
  | zero => exact ⟨fun _ _ _ _ _ _ => x_none, fun _ _ => x_none, fun _ _ _ _ _ _ _ => x_none, fun _ _ _ _ _ _ _ => x_none, fun _ _ _ _ _ _ _ _ _ => x_none, fun _ _ _ _ _ _ _ _ => x_none, fun _ _ _ _ _ _ _ _ => x_none, fun _ _ _ _ _ _ _ _ _ _ => x_none, fun _ _ _ _ _ _ _ _ _ _ _ _ _ => x_none, fun _ _ _ _ _ _ _ _ _ _ _ _ _ => x_none, fun _ _ _ _ _ _ _ _ => x_none⟩
  | succ n IH => exact ⟨fun v0R v1I v2I v3I v4I σ => s_Md_pairs_0 C HR IH v0R v1I v2I v3I v4I σ, fun s0I σ => s_Md_pairs_1 C HR IH s0I σ, fun v0R v1I v2I v3I v4I s0I σ => s_Md_pairs_2 C HR IH v0R v1I v2I v3I v4I s0I σ, fun v0R v1I v2I v3I v4I v5I σ => s_Md_pairs_3 C HR IH v0R v1I v2I v3I v4I v5I σ, fun v0R v1I v2I v3I v4I v5I s0R s1I σ => s_Md_pairs_4 C HR IH v0R v1I v2I v3I v4I v5I s0R s1I σ, fun v0R v1I v2I v3I v4I v5I s0I σ => s_Md_pairs_5 C HR IH v0R v1I v2I v3I v4I v5I s0I σ, fun v0R v1I v2I v3I v4I v5I v7I σ => s_Md_pairs_6 C HR IH v0R v1I v2I v3I v4I v5I v7I σ, fun v0R v1I v2I v3I v4I v5I v7I s0R s1I σ => s_Md_pairs_7 C HR IH v0R v1I v2I v3I v4I v5I v7I s0R s1I σ, fun v0R v1I v2I v3I v4I v5I v7I v8I s0R s1I s2I s3I σ => s_Md_pairs_8 C HR IH v0R v1I v2I v3I v4I v5I v7I v8I s0R s1I s2I s3I σ, fun v0R v1I v2I v3I v4I v5I v7I s0R s1I s2I s3I s4I σ => s_Md_pairs_9 C HR IH v0R v1I v2I v3I v4I v5I v7I s0R s1I s2I s3I s4I σ, fun v0R v1I v2I v3I v4I v5I v7I σ => s_Md_pairs_10 C HR IH v0R v1I v2I v3I v4I v5I v7I σ⟩
theorem n_Md_pairs (G : GX) (l : Launch) (n0 : Nat) (rec : GT_Md_pairs) (HR : H_Md_pairs G l n0 rec) (v0R : Nat) (v1I : Int32) (v2I : Int32) (v3I : Int32) (v4I : Int32) (σ : AM) : CT eI G l (1 + (n0 + 1)) y_Md_pairs prog_14_method_93_code 9 ((some FieldType.boolean)) [.ref v0R, .int v1I, .int v2I, .int v3I, .int v4I] σ (N_Md_pairs rec v0R v1I v2I v3I v4I σ) := by
  refine ct_of (by decide +kernel) (Nat.le_of_ble_eq_true rfl) (fun p e s m args below meth c C hin => ?_)
  refine x_lve (lv' := [(0, .ref v0R), (1, .int v1I), (2, .int v2I), (3, .int v3I), (4, .int v4I)]) rfl ?_
  intro r σ' h
  obtain ⟨n, hn⟩ := (lp_iff _ _ _).mp h
  exact (i_Md_pairs C HR n).1 v0R v1I v2I v3I v4I σ r σ' hn
noncomputable def Q_Md_pairs : Nat → GT_Md_pairs
  | 0 => fun _ _ _ _ _ _ => none
  | n + 1 => fun v0R v1I v2I v3I v4I σ => N_Md_pairs (Q_Md_pairs n) v0R v1I v2I v3I v4I σ
theorem q_Md_pairs (G : GX) (l : Launch) (n : Nat) : H_Md_pairs G l n (Q_Md_pairs n) := by
  induction n with
  | zero => exact fun _ _ _ _ _ _ r σ' h => absurd (show none = some (r, σ') from h) (fun q => by cases q)
  | succ n ih => exact fun v0R v1I v2I v3I v4I σ => n_Md_pairs G l n (Q_Md_pairs n) ih v0R v1I v2I v3I v4I σ
noncomputable def M_Md_pairs (v0R : Nat) (v1I : Int32) (v2I : Int32) (v3I : Int32) (v4I : Int32) (σ : AM) : Option (Int32 × AM) := (Q_Md_pairs 80) v0R v1I v2I v3I v4I σ
theorem c_Md_pairs (G : GX) (l : Launch) (v0R : Nat) (v1I : Int32) (v2I : Int32) (v3I : Int32) (v4I : Int32) (σ : AM) : CT eI G l 81 y_Md_pairs prog_14_method_93_code 9 ((some FieldType.boolean)) [.ref v0R, .int v1I, .int v2I, .int v3I, .int v4I] σ (M_Md_pairs v0R v1I v2I v3I v4I σ) := (q_Md_pairs G l 80) v0R v1I v2I v3I v4I σ
/-! BellPlateModel.cannot(I)I -/
abbrev y_Md_cannot : MethodName := ⟨"BellPlateModel", "cannot", "(I)I"⟩
theorem k_Md_cannot : y_Md_cannot.cls ≠ "java/lang/invoke/MethodHandle" ∧ y_Md_cannot.cls ≠ "java/lang/invoke/VarHandle" ∧ (parseMethodDescriptor y_Md_cannot.desc).map (fun d => d.parameters.length) = some 1 := by decide +kernel
theorem d_Md_cannot_0 : decode prog_14_method_94_code 0 = .ok (.aload_n 0, 1) := by decide +kernel
theorem d_Md_cannot_1 : decode prog_14_method_94_code 1 = .ok (.iconst 0, 1) := by decide +kernel
theorem d_Md_cannot_2 : decode prog_14_method_94_code 2 = .ok (.putfield 1, 3) := by decide +kernel
theorem d_Md_cannot_5 : decode prog_14_method_94_code 5 = .ok (.aload_n 0, 1) := by decide +kernel
theorem d_Md_cannot_6 : decode prog_14_method_94_code 6 = .ok (.invokevirtual 369, 3) := by decide +kernel
theorem d_Md_cannot_9 : decode prog_14_method_94_code 9 = .ok (.iload_n 1, 1) := by decide +kernel
theorem d_Md_cannot_10 : decode prog_14_method_94_code 10 = .ok (.iconst 0, 1) := by decide +kernel
theorem d_Md_cannot_11 : decode prog_14_method_94_code 11 = .ok (.bipush 6, 2) := by decide +kernel
theorem d_Md_cannot_13 : decode prog_14_method_94_code 13 = .ok (.invokestatic 350, 3) := by decide +kernel
theorem d_Md_cannot_16 : decode prog_14_method_94_code 16 = .ok (.ifCond .eq 18, 3) := by decide +kernel
theorem d_Md_cannot_19 : decode prog_14_method_94_code 19 = .ok (.aload_n 0, 1) := by decide +kernel
theorem d_Md_cannot_20 : decode prog_14_method_94_code 20 = .ok (.aload_n 0, 1) := by decide +kernel
theorem d_Md_cannot_21 : decode prog_14_method_94_code 21 = .ok (.getfield 343, 3) := by decide +kernel
theorem d_Md_cannot_24 : decode prog_14_method_94_code 24 = .ok (.aload_n 0, 1) := by decide +kernel
theorem d_Md_cannot_25 : decode prog_14_method_94_code 25 = .ok (.getfield 347, 3) := by decide +kernel
theorem d_Md_cannot_28 : decode prog_14_method_94_code 28 = .ok (.invokevirtual 487, 3) := by decide +kernel
theorem d_Md_cannot_31 : decode prog_14_method_94_code 31 = .ok (.ifCond .eq 5, 3) := by decide +kernel
theorem d_Md_cannot_34 : decode prog_14_method_94_code 34 = .ok (.iconst (-1), 1) := by decide +kernel
theorem d_Md_cannot_35 : decode prog_14_method_94_code 35 = .ok (.ireturn, 1) := by decide +kernel
theorem d_Md_cannot_36 : decode prog_14_method_94_code 36 = .ok (.iconst 1, 1) := by decide +kernel
theorem d_Md_cannot_37 : decode prog_14_method_94_code 37 = .ok (.istore_n 2, 1) := by decide +kernel
theorem d_Md_cannot_38 : decode prog_14_method_94_code 38 = .ok (.iload_n 2, 1) := by decide +kernel
theorem d_Md_cannot_39 : decode prog_14_method_94_code 39 = .ok (.iconst 3, 1) := by decide +kernel
theorem d_Md_cannot_40 : decode prog_14_method_94_code 40 = .ok (.if_icmp .gt 64, 3) := by decide +kernel
theorem d_Md_cannot_43 : decode prog_14_method_94_code 43 = .ok (.aload_n 0, 1) := by decide +kernel
theorem d_Md_cannot_44 : decode prog_14_method_94_code 44 = .ok (.iload_n 2, 1) := by decide +kernel
theorem d_Md_cannot_45 : decode prog_14_method_94_code 45 = .ok (.iconst 0, 1) := by decide +kernel
theorem d_Md_cannot_46 : decode prog_14_method_94_code 46 = .ok (.iconst 0, 1) := by decide +kernel
theorem d_Md_cannot_47 : decode prog_14_method_94_code 47 = .ok (.iconst 0, 1) := by decide +kernel
theorem d_Md_cannot_48 : decode prog_14_method_94_code 48 = .ok (.invokevirtual 495, 3) := by decide +kernel
theorem d_Md_cannot_51 : decode prog_14_method_94_code 51 = .ok (.ifCond .eq 47, 3) := by decide +kernel
theorem d_Md_cannot_54 : decode prog_14_method_94_code 54 = .ok (.iload_n 1, 1) := by decide +kernel
theorem d_Md_cannot_55 : decode prog_14_method_94_code 55 = .ok (.ifCond .eq 12, 3) := by decide +kernel
theorem d_Md_cannot_58 : decode prog_14_method_94_code 58 = .ok (.iload_n 1, 1) := by decide +kernel
theorem d_Md_cannot_59 : decode prog_14_method_94_code 59 = .ok (.iconst 1, 1) := by decide +kernel
theorem d_Md_cannot_60 : decode prog_14_method_94_code 60 = .ok (.isub, 1) := by decide +kernel
theorem d_Md_cannot_61 : decode prog_14_method_94_code 61 = .ok (.iconst 3, 1) := by decide +kernel
theorem d_Md_cannot_62 : decode prog_14_method_94_code 62 = .ok (.irem, 1) := by decide +kernel
theorem d_Md_cannot_63 : decode prog_14_method_94_code 63 = .ok (.iload_n 2, 1) := by decide +kernel
theorem d_Md_cannot_64 : decode prog_14_method_94_code 64 = .ok (.if_icmp .ge 7, 3) := by decide +kernel
theorem d_Md_cannot_67 : decode prog_14_method_94_code 67 = .ok (.iconst 1, 1) := by decide +kernel
theorem d_Md_cannot_68 : decode prog_14_method_94_code 68 = .ok (.goto 4, 3) := by decide +kernel
theorem d_Md_cannot_71 : decode prog_14_method_94_code 71 = .ok (.iconst 0, 1) := by decide +kernel
theorem d_Md_cannot_72 : decode prog_14_method_94_code 72 = .ok (.istore_n 3, 1) := by decide +kernel
theorem d_Md_cannot_73 : decode prog_14_method_94_code 73 = .ok (.iload_n 1, 1) := by decide +kernel
theorem d_Md_cannot_74 : decode prog_14_method_94_code 74 = .ok (.ifCond .ne 7, 3) := by decide +kernel
theorem d_Md_cannot_77 : decode prog_14_method_94_code 77 = .ok (.iload_n 2, 1) := by decide +kernel
theorem d_Md_cannot_78 : decode prog_14_method_94_code 78 = .ok (.goto 19, 3) := by decide +kernel
theorem d_Md_cannot_81 : decode prog_14_method_94_code 81 = .ok (.iload_n 3, 1) := by decide +kernel
theorem d_Md_cannot_82 : decode prog_14_method_94_code 82 = .ok (.ifCond .eq 14, 3) := by decide +kernel
theorem d_Md_cannot_85 : decode prog_14_method_94_code 85 = .ok (.aload_n 0, 1) := by decide +kernel
theorem d_Md_cannot_86 : decode prog_14_method_94_code 86 = .ok (.getfield 140, 3) := by decide +kernel
theorem d_Md_cannot_89 : decode prog_14_method_94_code 89 = .ok (.iload_n 1, 1) := by decide +kernel
theorem d_Md_cannot_90 : decode prog_14_method_94_code 90 = .ok (.iconst 1, 1) := by decide +kernel
theorem d_Md_cannot_91 : decode prog_14_method_94_code 91 = .ok (.isub, 1) := by decide +kernel
theorem d_Md_cannot_92 : decode prog_14_method_94_code 92 = .ok (.iaload, 1) := by decide +kernel
theorem d_Md_cannot_93 : decode prog_14_method_94_code 93 = .ok (.goto 4, 3) := by decide +kernel
theorem d_Md_cannot_96 : decode prog_14_method_94_code 96 = .ok (.iconst (-1), 1) := by decide +kernel
theorem d_Md_cannot_97 : decode prog_14_method_94_code 97 = .ok (.ireturn, 1) := by decide +kernel
theorem d_Md_cannot_98 : decode prog_14_method_94_code 98 = .ok (.iinc 2 1, 3) := by decide +kernel
theorem d_Md_cannot_101 : decode prog_14_method_94_code 101 = .ok (.goto (-63), 3) := by decide +kernel
theorem d_Md_cannot_104 : decode prog_14_method_94_code 104 = .ok (.iconst (-1), 1) := by decide +kernel
theorem d_Md_cannot_105 : decode prog_14_method_94_code 105 = .ok (.ireturn, 1) := by decide +kernel
abbrev S_Md_cannot : Type := Nat × Nat × Int32 × Int32 × Int32 × AM
noncomputable def T_Md_cannot_0 (v0R : Nat) (v1I : Int32) (σ : AM) : S_Md_cannot ⊕ Option (Int32 × AM) :=
  gdT (okO σ v0R 12) <| letT (sI σ v0R 0 (0 : Int32)) fun σ2 => bndT (M_Md_findMust v0R σ2) fun _ σ5 => bndT (M_Md_within v1I (0 : Int32) (6 : Int32) σ5) fun r6 σ7 => if r6 = 0 then (.inl (1, 0, 0, 0, 0, σ7)) else (gdT (okO σ7 v0R 12) <| bndT (M_Md_findSmallest v0R (aL σ7 v0R 40) (aL σ7 v0R 41) σ7) fun r9 σ10 => if r9 = 0 then (.inl (2, v0R, v1I, (1 : Int32), 0, σ10)) else (.inl (1, 0, 0, 0, 0, σ10)))
noncomputable def T_Md_cannot_1  (σ : AM) : S_Md_cannot ⊕ Option (Int32 × AM) :=
  .inr (some (((-1) : Int32), σ))
noncomputable def T_Md_cannot_2 (v0R : Nat) (v1I : Int32) (v2I : Int32) (σ : AM) : S_Md_cannot ⊕ Option (Int32 × AM) :=
  if (3 : Int32) < v2I then (.inr (some (((-1) : Int32), σ))) else (gdT (okO σ v0R 12) <| bndT (M_Md_pairs v0R v2I (0 : Int32) (0 : Int32) (0 : Int32) σ) fun r1 σ2 => if r1 = 0 then (.inl (2, v0R, v1I, v2I + (1 : Int32), 0, σ2)) else (if v1I = 0 then (.inl (3, v0R, v1I, v2I, 0, σ2)) else (if ((v1I - (1 : Int32)) - (v1I - (1 : Int32)) / (3 : Int32) * (3 : Int32)) < v2I then (.inl (3, v0R, v1I, v2I, 0, σ2)) else (.inl (4, v0R, v1I, v2I, (0 : Int32), σ2)))))
noncomputable def T_Md_cannot_3 (v0R : Nat) (v1I : Int32) (v2I : Int32) (σ : AM) : S_Md_cannot ⊕ Option (Int32 × AM) :=
  .inl (4, v0R, v1I, v2I, (1 : Int32), σ)
noncomputable def T_Md_cannot_4 (v0R : Nat) (v1I : Int32) (v2I : Int32) (s0I : Int32) (σ : AM) : S_Md_cannot ⊕ Option (Int32 × AM) :=
  if v1I = 0 then (.inl (5, 0, 0, 0, v2I, σ)) else (if s0I = 0 then (.inl (5, 0, 0, 0, ((-1) : Int32), σ)) else (gdT (okO σ v0R 12) <| gdT (okO σ (aR σ v0R 63) 101) <| gdT (inB (v1I - (1 : Int32)) (aN σ (aR σ v0R 63))) <| .inl (5, 0, 0, 0, aI σ (aR σ v0R 63) (v1I - (1 : Int32)).toNatClampNeg, σ)))
noncomputable def T_Md_cannot_5 (s0I : Int32) (σ : AM) : S_Md_cannot ⊕ Option (Int32 × AM) :=
  .inr (some (s0I, σ))
noncomputable def F_Md_cannot : S_Md_cannot → S_Md_cannot ⊕ Option (Int32 × AM) := fun s => match s.1 with
  | 0 => T_Md_cannot_0 (s.2.1) (s.2.2.1) (s.2.2.2.2.2)
  | 1 => T_Md_cannot_1  (s.2.2.2.2.2)
  | 2 => T_Md_cannot_2 (s.2.1) (s.2.2.1) (s.2.2.2.1) (s.2.2.2.2.2)
  | 3 => T_Md_cannot_3 (s.2.1) (s.2.2.1) (s.2.2.2.1) (s.2.2.2.2.2)
  | 4 => T_Md_cannot_4 (s.2.1) (s.2.2.1) (s.2.2.2.1) (s.2.2.2.2.1) (s.2.2.2.2.2)
  | _ => T_Md_cannot_5 (s.2.2.2.2.1) (s.2.2.2.2.2)
noncomputable def L_Md_cannot_0 (v0R : Nat) (v1I : Int32) (σ : AM) : Option (Int32 × AM) := lp F_Md_cannot (0, v0R, v1I, 0, 0, σ)
noncomputable def L_Md_cannot_1  (σ : AM) : Option (Int32 × AM) := lp F_Md_cannot (1, 0, 0, 0, 0, σ)
noncomputable def L_Md_cannot_2 (v0R : Nat) (v1I : Int32) (v2I : Int32) (σ : AM) : Option (Int32 × AM) := lp F_Md_cannot (2, v0R, v1I, v2I, 0, σ)
noncomputable def L_Md_cannot_3 (v0R : Nat) (v1I : Int32) (v2I : Int32) (σ : AM) : Option (Int32 × AM) := lp F_Md_cannot (3, v0R, v1I, v2I, 0, σ)
noncomputable def L_Md_cannot_4 (v0R : Nat) (v1I : Int32) (v2I : Int32) (s0I : Int32) (σ : AM) : Option (Int32 × AM) := lp F_Md_cannot (4, v0R, v1I, v2I, s0I, σ)
noncomputable def L_Md_cannot_5 (s0I : Int32) (σ : AM) : Option (Int32 × AM) := lp F_Md_cannot (5, 0, 0, 0, s0I, σ)
set_option maxRecDepth 20000 in
theorem E_Md_cannot_0 (v0R : Nat) (v1I : Int32) (σ : AM) : L_Md_cannot_0 v0R v1I σ = (gd (okO σ v0R 12) <| letT (sI σ v0R 0 (0 : Int32)) fun σ2 => bnd (M_Md_findMust v0R σ2) fun _ σ5 => bnd (M_Md_within v1I (0 : Int32) (6 : Int32) σ5) fun r6 σ7 => if r6 = 0 then (L_Md_cannot_1 σ7) else (gd (okO σ7 v0R 12) <| bnd (M_Md_findSmallest v0R (aL σ7 v0R 40) (aL σ7 v0R 41) σ7) fun r9 σ10 => if r9 = 0 then (L_Md_cannot_2 v0R v1I ((1 : Int32)) σ10) else (L_Md_cannot_1 σ10))) := by
  unfold L_Md_cannot_0
  rw [lp_eq]
  show lpK (lp F_Md_cannot) (T_Md_cannot_0 v0R v1I σ) = _
  unfold T_Md_cannot_0
  simp only [lpK_ite, lq_inl, lq_inr, lpK_bnd, lpK_gd, lq_let]
  try rfl
set_option maxRecDepth 20000 in
theorem E_Md_cannot_1  (σ : AM) : L_Md_cannot_1  σ = ((some (((-1) : Int32), σ))) := by
  unfold L_Md_cannot_1
  rw [lp_eq]
  show lpK (lp F_Md_cannot) (T_Md_cannot_1  σ) = _
  unfold T_Md_cannot_1
  simp only [lpK_ite, lq_inl, lq_inr, lpK_bnd, lpK_gd, lq_let]
  try rfl
set_option maxRecDepth 20000 in
theorem E_Md_cannot_2 (v0R : Nat) (v1I : Int32) (v2I : Int32) (σ : AM) : L_Md_cannot_2 v0R v1I v2I σ = (if (3 : Int32) < v2I then ((some (((-1) : Int32), σ))) else (gd (okO σ v0R 12) <| bnd (M_Md_pairs v0R v2I (0 : Int32) (0 : Int32) (0 : Int32) σ) fun r1 σ2 => if r1 = 0 then (L_Md_cannot_2 v0R v1I (v2I + (1 : Int32)) σ2) else (if v1I = 0 then (L_Md_cannot_3 v0R v1I v2I σ2) else (if ((v1I - (1 : Int32)) - (v1I - (1 : Int32)) / (3 : Int32) * (3 : Int32)) < v2I then (L_Md_cannot_3 v0R v1I v2I σ2) else (L_Md_cannot_4 v0R v1I v2I ((0 : Int32)) σ2))))) := by
  unfold L_Md_cannot_2
  rw [lp_eq]
  show lpK (lp F_Md_cannot) (T_Md_cannot_2 v0R v1I v2I σ) = _
  unfold T_Md_cannot_2
  simp only [lpK_ite, lq_inl, lq_inr, lpK_bnd, lpK_gd, lq_let]
  try rfl
set_option maxRecDepth 20000 in
theorem E_Md_cannot_3 (v0R : Nat) (v1I : Int32) (v2I : Int32) (σ : AM) : L_Md_cannot_3 v0R v1I v2I σ = (L_Md_cannot_4 v0R v1I v2I ((1 : Int32)) σ) := by
  unfold L_Md_cannot_3
  rw [lp_eq]
  show lpK (lp F_Md_cannot) (T_Md_cannot_3 v0R v1I v2I σ) = _
  unfold T_Md_cannot_3
  simp only [lpK_ite, lq_inl, lq_inr, lpK_bnd, lpK_gd, lq_let]
  try rfl
set_option maxRecDepth 20000 in
theorem E_Md_cannot_4 (v0R : Nat) (v1I : Int32) (v2I : Int32) (s0I : Int32) (σ : AM) : L_Md_cannot_4 v0R v1I v2I s0I σ = (if v1I = 0 then (L_Md_cannot_5 v2I σ) else (if s0I = 0 then (L_Md_cannot_5 (((-1) : Int32)) σ) else (gd (okO σ v0R 12) <| gd (okO σ (aR σ v0R 63) 101) <| gd (inB (v1I - (1 : Int32)) (aN σ (aR σ v0R 63))) <| L_Md_cannot_5 (aI σ (aR σ v0R 63) (v1I - (1 : Int32)).toNatClampNeg) σ))) := by
  unfold L_Md_cannot_4
  rw [lp_eq]
  show lpK (lp F_Md_cannot) (T_Md_cannot_4 v0R v1I v2I s0I σ) = _
  unfold T_Md_cannot_4
  simp only [lpK_ite, lq_inl, lq_inr, lpK_bnd, lpK_gd, lq_let]
  try rfl
set_option maxRecDepth 20000 in
theorem E_Md_cannot_5 (s0I : Int32) (σ : AM) : L_Md_cannot_5 s0I σ = ((some (s0I, σ))) := by
  unfold L_Md_cannot_5
  rw [lp_eq]
  show lpK (lp F_Md_cannot) (T_Md_cannot_5 s0I σ) = _
  unfold T_Md_cannot_5
  simp only [lpK_ite, lq_inl, lq_inr, lpK_bnd, lpK_gd, lq_let]
  try rfl
noncomputable def M_Md_cannot (v0R : Nat) (v1I : Int32) (σ : AM) : Option (Int32 × AM) := mw σ (L_Md_cannot_0 v0R v1I σ)
def I_Md_cannot (G : GX) (p : Program) (l : Launch) (e : Env) (s : State) (m : MethodId) (args : Array Value) (below : List Frame) (meth : Method) (c : Code) (z0 u0 n : Nat) : Prop :=
  (∀ (v0R : Nat) (v1I : Int32) (σ : AM), VX (QM eI G args s below z0 u0) G p l e s m args below meth c 82 z0 u0 4 (lpn F_Md_cannot n (0, v0R, v1I, 0, 0, σ)) 0 [(0, .ref v0R), (1, .int v1I)] [] σ) ∧
  (∀ (σ : AM), VX (QM eI G args s below z0 u0) G p l e s m args below meth c 82 z0 u0 4 (lpn F_Md_cannot n (1, 0, 0, 0, 0, σ)) 34 [] [] σ) ∧
  (∀ (v0R : Nat) (v1I : Int32) (v2I : Int32) (σ : AM), VX (QM eI G args s below z0 u0) G p l e s m args below meth c 82 z0 u0 4 (lpn F_Md_cannot n (2, v0R, v1I, v2I, 0, σ)) 38 [(0, .ref v0R), (1, .int v1I), (2, .int v2I)] [] σ) ∧
  (∀ (v0R : Nat) (v1I : Int32) (v2I : Int32) (σ : AM), VX (QM eI G args s below z0 u0) G p l e s m args below meth c 82 z0 u0 4 (lpn F_Md_cannot n (3, v0R, v1I, v2I, 0, σ)) 67 [(0, .ref v0R), (1, .int v1I), (2, .int v2I)] [] σ) ∧
  (∀ (v0R : Nat) (v1I : Int32) (v2I : Int32) (s0I : Int32) (σ : AM), VX (QM eI G args s below z0 u0) G p l e s m args below meth c 82 z0 u0 4 (lpn F_Md_cannot n (4, v0R, v1I, v2I, s0I, σ)) 72 [(0, .ref v0R), (1, .int v1I), (2, .int v2I)] [.int s0I] σ) ∧
  (∀ (s0I : Int32) (σ : AM), VX (QM eI G args s below z0 u0) G p l e s m args below meth c 82 z0 u0 4 (lpn F_Md_cannot n (5, 0, 0, 0, s0I, σ)) 97 [] [.int s0I] σ)
set_option maxRecDepth 20000 in
theorem s_Md_cannot_0 {G : GX} {p : Program} {l : Launch} {e : Env} {s : State} {m : MethodId} {args : Array Value} {below : List Frame} {meth : Method} {c : Code} {z0 u0 n : Nat} (C : Cx G p s m args meth c prog_14_method_94_code 4 "BellPlateModel" ((some FieldType.int))) (IH : I_Md_cannot G p l e s m args below meth c z0 u0 n) (v0R : Nat) (v1I : Int32) (σ : AM) : VX (QM eI G args s below z0 u0) G p l e s m args below meth c 82 z0 u0 4 (lpK (lpn F_Md_cannot n) (T_Md_cannot_0 v0R v1I σ)) 0 [(0, .ref v0R), (1, .int v1I)] [] σ := by
  unfold T_Md_cannot_0
  refine x_aload_n C d_Md_cannot_0 0 rfl ?_
  refine x_iconst (v := (0 : Int32)) C d_Md_cannot_1 (by decide) ?_
  refine x_gd (fun h1 => ?_)
  refine x_putI (k := 0) C (okO_iff.mp h1) rfl j11_ok y11_ok n11_ok (by decide) rfl rfl rfl rfl w1852 d_Md_cannot_2 ?_
  refine x_letS (fun σ2 e3 => ?_)
  refine x_aload_n C d_Md_cannot_5 0 rfl ?_
  refine x_callVV (As := []) C (c_Md_findMust G l v0R  σ2) (by first | exact (okO_iff.mp h1) | (rw [e3]; exact (okO_iff.mp h1))) rfl w2217 w86 w2215 w2218 w134 k_Md_findMust rfl (by decide) (by decide) rfl (Nat.le_of_ble_eq_true rfl) d_Md_cannot_6 (fun r4 σ5 => ?_)
  refine x_iload_n C d_Md_cannot_9 1 rfl ?_
  refine x_iconst (v := (0 : Int32)) C d_Md_cannot_10 (by decide) ?_
  refine x_bipush (v := (6 : Int32)) C d_Md_cannot_11 (by decide) ?_
  refine x_callSI (As := [.int v1I, .int (0 : Int32), .int (6 : Int32)]) C (c_Md_within G l v1I (0 : Int32) (6 : Int32) σ5) w2205 w2204 w2206 w134 k_Md_within rfl (by decide) (by decide) rfl (Nat.le_of_ble_eq_true rfl) d_Md_cannot_13 (fun r6 σ7 => ?_)
  refine x_if_eq (tgt := 34) C d_Md_cannot_16 (by decide) (fun _ => ?_) (fun _ => ?_)
  · refine x_lv [] rfl ?_
    exact IH.2.1  (σ7)
  · refine x_aload_n C d_Md_cannot_19 0 rfl ?_
    refine x_aload_n C d_Md_cannot_20 0 rfl ?_
    refine x_gd (fun h8 => ?_)
    refine x_getJ (k := 40) C (okO_iff.mp h8) rfl j11_ok (by decide) rfl w1892 d_Md_cannot_21 ?_
    refine x_aload_n C d_Md_cannot_24 0 rfl ?_
    refine x_getJ (k := 41) C (okO_iff.mp h8) rfl j11_ok (by decide) rfl w1893 d_Md_cannot_25 ?_
    refine x_callVI (As := [.long (aL σ7 v0R 40), .long (aL σ7 v0R 41)]) C (c_Md_findSmallest G l v0R (aL σ7 v0R 40) (aL σ7 v0R 41) σ7) (okO_iff.mp h8) rfl w2371 w108 w2369 w2372 w134 k_Md_findSmallest rfl (by decide) (by decide) rfl (Nat.le_of_ble_eq_true rfl) d_Md_cannot_28 (fun r9 σ10 => ?_)
    refine x_if_eq (tgt := 36) C d_Md_cannot_31 (by decide) (fun _ => ?_) (fun _ => ?_)
    · refine x_iconst (v := (1 : Int32)) C d_Md_cannot_36 (by decide) ?_
      refine x_istore_n (lv' := [(2, .int (1 : Int32)), (0, .ref v0R), (1, .int v1I)]) C d_Md_cannot_37 (by decide) rfl rfl ?_
      refine x_lv [1, 2, 0] rfl ?_
      exact IH.2.2.1 v0R v1I ((1 : Int32)) (σ10)
    · refine x_lv [] rfl ?_
      exact IH.2.1  (σ10)
set_option maxRecDepth 20000 in
theorem s_Md_cannot_1 {G : GX} {p : Program} {l : Launch} {e : Env} {s : State} {m : MethodId} {args : Array Value} {below : List Frame} {meth : Method} {c : Code} {z0 u0 n : Nat} (C : Cx G p s m args meth c prog_14_method_94_code 4 "BellPlateModel" ((some FieldType.int))) (IH : I_Md_cannot G p l e s m args below meth c z0 u0 n)  (σ : AM) : VX (QM eI G args s below z0 u0) G p l e s m args below meth c 82 z0 u0 4 (lpK (lpn F_Md_cannot n) (T_Md_cannot_1  σ)) 34 [] [] σ := by
  unfold T_Md_cannot_1
  refine x_iconst (v := ((-1) : Int32)) C d_Md_cannot_34 (by decide) ?_
  exact x_iret C d_Md_cannot_35
set_option maxRecDepth 20000 in
theorem s_Md_cannot_2 {G : GX} {p : Program} {l : Launch} {e : Env} {s : State} {m : MethodId} {args : Array Value} {below : List Frame} {meth : Method} {c : Code} {z0 u0 n : Nat} (C : Cx G p s m args meth c prog_14_method_94_code 4 "BellPlateModel" ((some FieldType.int))) (IH : I_Md_cannot G p l e s m args below meth c z0 u0 n) (v0R : Nat) (v1I : Int32) (v2I : Int32) (σ : AM) : VX (QM eI G args s below z0 u0) G p l e s m args below meth c 82 z0 u0 4 (lpK (lpn F_Md_cannot n) (T_Md_cannot_2 v0R v1I v2I σ)) 38 [(0, .ref v0R), (1, .int v1I), (2, .int v2I)] [] σ := by
  unfold T_Md_cannot_2
  refine x_iload_n C d_Md_cannot_38 2 rfl ?_
  refine x_iconst (v := (3 : Int32)) C d_Md_cannot_39 (by decide) ?_
  refine x_icmp_gt (tgt := 104) C d_Md_cannot_40 (by decide) (fun _ => ?_) (fun _ => ?_)
  · refine x_iconst (v := ((-1) : Int32)) C d_Md_cannot_104 (by decide) ?_
    exact x_iret C d_Md_cannot_105
  · refine x_aload_n C d_Md_cannot_43 0 rfl ?_
    refine x_iload_n C d_Md_cannot_44 2 rfl ?_
    refine x_iconst (v := (0 : Int32)) C d_Md_cannot_45 (by decide) ?_
    refine x_iconst (v := (0 : Int32)) C d_Md_cannot_46 (by decide) ?_
    refine x_iconst (v := (0 : Int32)) C d_Md_cannot_47 (by decide) ?_
    refine x_gd (fun h3 => ?_)
    refine x_callVI (As := [.int v2I, .int (0 : Int32), .int (0 : Int32), .int (0 : Int32)]) C (c_Md_pairs G l v0R v2I (0 : Int32) (0 : Int32) (0 : Int32) σ) (okO_iff.mp h3) rfl w2383 w109 w2381 w2384 w134 k_Md_pairs rfl (by decide) (by decide) rfl (Nat.le_of_ble_eq_true rfl) d_Md_cannot_48 (fun r1 σ2 => ?_)
    refine x_if_eq (tgt := 98) C d_Md_cannot_51 (by decide) (fun _ => ?_) (fun _ => ?_)
    · refine x_iinc (v := v2I + (1 : Int32)) (lv' := [(2, .int (v2I + (1 : Int32))), (0, .ref v0R), (1, .int v1I)]) C d_Md_cannot_98 2 rfl rfl (by decide) rfl ?_
      refine x_goto (tgt := 38) C d_Md_cannot_101 (by decide) ?_
      refine x_lv [1, 2, 0] rfl ?_
      exact IH.2.2.1 v0R v1I (v2I + (1 : Int32)) (σ2)
    · refine x_iload_n C d_Md_cannot_54 1 rfl ?_
      refine x_if_eq (tgt := 67) C d_Md_cannot_55 (by decide) (fun _ => ?_) (fun _ => ?_)
      · exact IH.2.2.2.1 v0R v1I v2I (σ2)
      · refine x_iload_n C d_Md_cannot_58 1 rfl ?_
        refine x_iconst (v := (1 : Int32)) C d_Md_cannot_59 (by decide) ?_
        refine x_isub C d_Md_cannot_60 ?_
        refine x_iconst (v := (3 : Int32)) C d_Md_cannot_61 (by decide) ?_
        refine x_irem C d_Md_cannot_62 (by decide) ?_
        refine x_iload_n C d_Md_cannot_63 2 rfl ?_
        refine x_icmp_ge (tgt := 71) C d_Md_cannot_64 (by decide) (fun _ => ?_) (fun _ => ?_)
        · exact IH.2.2.2.1 v0R v1I v2I (σ2)
        · refine x_iconst (v := (0 : Int32)) C d_Md_cannot_71 (by decide) ?_
          exact IH.2.2.2.2.1 v0R v1I v2I ((0 : Int32)) (σ2)
set_option maxRecDepth 20000 in
theorem s_Md_cannot_3 {G : GX} {p : Program} {l : Launch} {e : Env} {s : State} {m : MethodId} {args : Array Value} {below : List Frame} {meth : Method} {c : Code} {z0 u0 n : Nat} (C : Cx G p s m args meth c prog_14_method_94_code 4 "BellPlateModel" ((some FieldType.int))) (IH : I_Md_cannot G p l e s m args below meth c z0 u0 n) (v0R : Nat) (v1I : Int32) (v2I : Int32) (σ : AM) : VX (QM eI G args s below z0 u0) G p l e s m args below meth c 82 z0 u0 4 (lpK (lpn F_Md_cannot n) (T_Md_cannot_3 v0R v1I v2I σ)) 67 [(0, .ref v0R), (1, .int v1I), (2, .int v2I)] [] σ := by
  unfold T_Md_cannot_3
  refine x_iconst (v := (1 : Int32)) C d_Md_cannot_67 (by decide) ?_
  refine x_goto (tgt := 72) C d_Md_cannot_68 (by decide) ?_
  exact IH.2.2.2.2.1 v0R v1I v2I ((1 : Int32)) (σ)
set_option maxRecDepth 20000 in
theorem s_Md_cannot_4 {G : GX} {p : Program} {l : Launch} {e : Env} {s : State} {m : MethodId} {args : Array Value} {below : List Frame} {meth : Method} {c : Code} {z0 u0 n : Nat} (C : Cx G p s m args meth c prog_14_method_94_code 4 "BellPlateModel" ((some FieldType.int))) (IH : I_Md_cannot G p l e s m args below meth c z0 u0 n) (v0R : Nat) (v1I : Int32) (v2I : Int32) (s0I : Int32) (σ : AM) : VX (QM eI G args s below z0 u0) G p l e s m args below meth c 82 z0 u0 4 (lpK (lpn F_Md_cannot n) (T_Md_cannot_4 v0R v1I v2I s0I σ)) 72 [(0, .ref v0R), (1, .int v1I), (2, .int v2I)] [.int s0I] σ := by
  unfold T_Md_cannot_4
  refine x_istore_n (lv' := [(3, .int s0I), (0, .ref v0R), (1, .int v1I), (2, .int v2I)]) C d_Md_cannot_72 (by decide) rfl rfl ?_
  refine x_iload_n C d_Md_cannot_73 2 rfl ?_
  refine x_if_ne (tgt := 81) C d_Md_cannot_74 (by decide) (fun _ => ?_) (fun _ => ?_)
  · refine x_iload_n C d_Md_cannot_77 3 rfl ?_
    refine x_goto (tgt := 97) C d_Md_cannot_78 (by decide) ?_
    refine x_lv [] rfl ?_
    exact IH.2.2.2.2.2 v2I (σ)
  · refine x_iload_n C d_Md_cannot_81 0 rfl ?_
    refine x_if_eq (tgt := 96) C d_Md_cannot_82 (by decide) (fun _ => ?_) (fun _ => ?_)
    · refine x_iconst (v := ((-1) : Int32)) C d_Md_cannot_96 (by decide) ?_
      refine x_lv [] rfl ?_
      exact IH.2.2.2.2.2 (((-1) : Int32)) (σ)
    · refine x_aload_n C d_Md_cannot_85 1 rfl ?_
      refine x_gd (fun h1 => ?_)
      refine x_gd (fun h2 => ?_)
      refine x_getR (k := 63) (kv := 101) C (okO_iff.mp h1) rfl j11_ok (by decide) rfl (okO_iff.mp h2) (by decide) w1915 d_Md_cannot_86 ?_
      refine x_iload_n C d_Md_cannot_89 2 rfl ?_
      refine x_iconst (v := (1 : Int32)) C d_Md_cannot_90 (by decide) ?_
      refine x_isub C d_Md_cannot_91 ?_
      refine x_gd (fun h3 => ?_)
      refine x_aldI C (okO_iff.mp h2) (inB_iff.mp h3) d_Md_cannot_92 ?_
      refine x_goto (tgt := 97) C d_Md_cannot_93 (by decide) ?_
      refine x_lv [] rfl ?_
      exact IH.2.2.2.2.2 (aI σ (aR σ v0R 63) (v1I - (1 : Int32)).toNatClampNeg) (σ)
set_option maxRecDepth 20000 in
theorem s_Md_cannot_5 {G : GX} {p : Program} {l : Launch} {e : Env} {s : State} {m : MethodId} {args : Array Value} {below : List Frame} {meth : Method} {c : Code} {z0 u0 n : Nat} (C : Cx G p s m args meth c prog_14_method_94_code 4 "BellPlateModel" ((some FieldType.int))) (IH : I_Md_cannot G p l e s m args below meth c z0 u0 n) (s0I : Int32) (σ : AM) : VX (QM eI G args s below z0 u0) G p l e s m args below meth c 82 z0 u0 4 (lpK (lpn F_Md_cannot n) (T_Md_cannot_5 s0I σ)) 97 [] [.int s0I] σ := by
  unfold T_Md_cannot_5
  exact x_iret C d_Md_cannot_97
theorem i_Md_cannot {G : GX} {p : Program} {l : Launch} {e : Env} {s : State} {m : MethodId} {args : Array Value} {below : List Frame} {meth : Method} {c : Code} {z0 u0 : Nat} (C : Cx G p s m args meth c prog_14_method_94_code 4 "BellPlateModel" ((some FieldType.int))) (n : Nat) : I_Md_cannot G p l e s m args below meth c z0 u0 n := by
  induction n with
  | zero => exact ⟨fun _ _ _ => x_none, fun _ => x_none, fun _ _ _ _ => x_none, fun _ _ _ _ => x_none, fun _ _ _ _ _ => x_none, fun _ _ => x_none⟩
  | succ n IH => exact ⟨fun v0R v1I σ => s_Md_cannot_0 C IH v0R v1I σ, fun σ => s_Md_cannot_1 C IH σ, fun v0R v1I v2I σ => s_Md_cannot_2 C IH v0R v1I v2I σ, fun v0R v1I v2I σ => s_Md_cannot_3 C IH v0R v1I v2I σ, fun v0R v1I v2I s0I σ => s_Md_cannot_4 C IH v0R v1I v2I s0I σ, fun s0I σ => s_Md_cannot_5 C IH s0I σ⟩
theorem c_Md_cannot (G : GX) (l : Launch) (v0R : Nat) (v1I : Int32) (σ : AM) : CT eI G l 82 y_Md_cannot prog_14_method_94_code 4 ((some FieldType.int)) [.ref v0R, .int v1I] σ (M_Md_cannot v0R v1I σ) := by
  refine ct_of (by decide +kernel) (Nat.le_of_ble_eq_true rfl) (fun p e s m args below meth c C hin => ?_)
  refine x_lve (lv' := [(0, .ref v0R), (1, .int v1I)]) rfl ?_
  intro r σ' h
  obtain ⟨n, hn⟩ := (lp_iff _ _ _).mp h
  exact (i_Md_cannot C n).1 v0R v1I σ r σ' hn
/-! BellPlateModel.wrongOf(J)I -/
abbrev y_Md_wrongOf : MethodName := ⟨"BellPlateModel", "wrongOf", "(J)I"⟩
theorem k_Md_wrongOf : y_Md_wrongOf.cls ≠ "java/lang/invoke/MethodHandle" ∧ y_Md_wrongOf.cls ≠ "java/lang/invoke/VarHandle" ∧ (parseMethodDescriptor y_Md_wrongOf.desc).map (fun d => d.parameters.length) = some 1 := by decide +kernel
theorem d_Md_wrongOf_0 : decode prog_14_method_95_code 0 = .ok (.iconst 0, 1) := by decide +kernel
theorem d_Md_wrongOf_1 : decode prog_14_method_95_code 1 = .ok (.istore_n 3, 1) := by decide +kernel
theorem d_Md_wrongOf_2 : decode prog_14_method_95_code 2 = .ok (.iconst 0, 1) := by decide +kernel
theorem d_Md_wrongOf_3 : decode prog_14_method_95_code 3 = .ok (.istore 4, 2) := by decide +kernel
theorem d_Md_wrongOf_5 : decode prog_14_method_95_code 5 = .ok (.iload 4, 2) := by decide +kernel
theorem d_Md_wrongOf_7 : decode prog_14_method_95_code 7 = .ok (.aload_n 0, 1) := by decide +kernel
theorem d_Md_wrongOf_8 : decode prog_14_method_95_code 8 = .ok (.getfield 245, 3) := by decide +kernel
theorem d_Md_wrongOf_11 : decode prog_14_method_95_code 11 = .ok (.if_icmp .ge 38, 3) := by decide +kernel
theorem d_Md_wrongOf_14 : decode prog_14_method_95_code 14 = .ok (.iload_n 3, 1) := by decide +kernel
theorem d_Md_wrongOf_15 : decode prog_14_method_95_code 15 = .ok (.lload_n 1, 1) := by decide +kernel
theorem d_Md_wrongOf_16 : decode prog_14_method_95_code 16 = .ok (.aload_n 0, 1) := by decide +kernel
theorem d_Md_wrongOf_17 : decode prog_14_method_95_code 17 = .ok (.getfield 104, 3) := by decide +kernel
theorem d_Md_wrongOf_20 : decode prog_14_method_95_code 20 = .ok (.iload 4, 2) := by decide +kernel
theorem d_Md_wrongOf_22 : decode prog_14_method_95_code 22 = .ok (.iaload, 1) := by decide +kernel
theorem d_Md_wrongOf_23 : decode prog_14_method_95_code 23 = .ok (.invokestatic 357, 3) := by decide +kernel
theorem d_Md_wrongOf_26 : decode prog_14_method_95_code 26 = .ok (.aload_n 0, 1) := by decide +kernel
theorem d_Md_wrongOf_27 : decode prog_14_method_95_code 27 = .ok (.getfield 107, 3) := by decide +kernel
theorem d_Md_wrongOf_30 : decode prog_14_method_95_code 30 = .ok (.iload 4, 2) := by decide +kernel
theorem d_Md_wrongOf_32 : decode prog_14_method_95_code 32 = .ok (.baload, 1) := by decide +kernel
theorem d_Md_wrongOf_33 : decode prog_14_method_95_code 33 = .ok (.if_icmp .eq 7, 3) := by decide +kernel
theorem d_Md_wrongOf_36 : decode prog_14_method_95_code 36 = .ok (.iconst 1, 1) := by decide +kernel
theorem d_Md_wrongOf_37 : decode prog_14_method_95_code 37 = .ok (.goto 4, 3) := by decide +kernel
theorem d_Md_wrongOf_40 : decode prog_14_method_95_code 40 = .ok (.iconst 0, 1) := by decide +kernel
theorem d_Md_wrongOf_41 : decode prog_14_method_95_code 41 = .ok (.iadd, 1) := by decide +kernel
theorem d_Md_wrongOf_42 : decode prog_14_method_95_code 42 = .ok (.istore_n 3, 1) := by decide +kernel
theorem d_Md_wrongOf_43 : decode prog_14_method_95_code 43 = .ok (.iinc 4 1, 3) := by decide +kernel
theorem d_Md_wrongOf_46 : decode prog_14_method_95_code 46 = .ok (.goto (-41), 3) := by decide +kernel
theorem d_Md_wrongOf_49 : decode prog_14_method_95_code 49 = .ok (.iload_n 3, 1) := by decide +kernel
theorem d_Md_wrongOf_50 : decode prog_14_method_95_code 50 = .ok (.ireturn, 1) := by decide +kernel
abbrev S_Md_wrongOf : Type := Nat × Nat × Int64 × Int32 × Int32 × Int32 × Int32 × AM
noncomputable def T_Md_wrongOf_0 (v0R : Nat) (v1J : Int64) (σ : AM) : S_Md_wrongOf ⊕ Option (Int32 × AM) :=
  .inl (1, v0R, v1J, (0 : Int32), (0 : Int32), 0, 0, σ)
noncomputable def T_Md_wrongOf_1 (v0R : Nat) (v1J : Int64) (v3I : Int32) (v4I : Int32) (σ : AM) : S_Md_wrongOf ⊕ Option (Int32 × AM) :=
  gdT (okO σ v0R 12) <| if v4I < (aI σ v0R 37) then (gdT (okO σ (aR σ v0R 38) 101) <| gdT (inB v4I (aN σ (aR σ v0R 38))) <| bndT (M_Md_doesRing v1J (aI σ (aR σ v0R 38) v4I.toNatClampNeg) σ) fun r4 σ5 => gdT (okO σ5 v0R 12) <| gdT (okO σ5 (aR σ5 v0R 39) 103) <| gdT (inB v4I (aN σ5 (aR σ5 v0R 39))) <| if r4 = (aI σ5 (aR σ5 v0R 39) v4I.toNatClampNeg) then (.inl (2, v0R, v1J, 0, v4I, v3I, (0 : Int32), σ5)) else (.inl (2, v0R, v1J, 0, v4I, v3I, (1 : Int32), σ5))) else (.inr (some (v3I, σ)))
noncomputable def T_Md_wrongOf_2 (v0R : Nat) (v1J : Int64) (v4I : Int32) (s0I : Int32) (s1I : Int32) (σ : AM) : S_Md_wrongOf ⊕ Option (Int32 × AM) :=
  letT (s0I + s1I) fun x1 => .inl (1, v0R, v1J, x1, v4I + (1 : Int32), 0, 0, σ)
noncomputable def F_Md_wrongOf : S_Md_wrongOf → S_Md_wrongOf ⊕ Option (Int32 × AM) := fun s => match s.1 with
  | 0 => T_Md_wrongOf_0 (s.2.1) (s.2.2.1) (s.2.2.2.2.2.2.2)
  | 1 => T_Md_wrongOf_1 (s.2.1) (s.2.2.1) (s.2.2.2.1) (s.2.2.2.2.1) (s.2.2.2.2.2.2.2)
  | _ => T_Md_wrongOf_2 (s.2.1) (s.2.2.1) (s.2.2.2.2.1) (s.2.2.2.2.2.1) (s.2.2.2.2.2.2.1) (s.2.2.2.2.2.2.2)
noncomputable def L_Md_wrongOf_0 (v0R : Nat) (v1J : Int64) (σ : AM) : Option (Int32 × AM) := lp F_Md_wrongOf (0, v0R, v1J, 0, 0, 0, 0, σ)
noncomputable def L_Md_wrongOf_1 (v0R : Nat) (v1J : Int64) (v3I : Int32) (v4I : Int32) (σ : AM) : Option (Int32 × AM) := lp F_Md_wrongOf (1, v0R, v1J, v3I, v4I, 0, 0, σ)
noncomputable def L_Md_wrongOf_2 (v0R : Nat) (v1J : Int64) (v4I : Int32) (s0I : Int32) (s1I : Int32) (σ : AM) : Option (Int32 × AM) := lp F_Md_wrongOf (2, v0R, v1J, 0, v4I, s0I, s1I, σ)
set_option maxRecDepth 20000 in
theorem E_Md_wrongOf_0 (v0R : Nat) (v1J : Int64) (σ : AM) : L_Md_wrongOf_0 v0R v1J σ = (L_Md_wrongOf_1 v0R v1J ((0 : Int32)) ((0 : Int32)) σ) := by
  unfold L_Md_wrongOf_0
  rw [lp_eq]
  show lpK (lp F_Md_wrongOf) (T_Md_wrongOf_0 v0R v1J σ) = _
  unfold T_Md_wrongOf_0
  simp only [lpK_ite, lq_inl, lq_inr, lpK_bnd, lpK_gd, lq_let]
  try rfl
set_option maxRecDepth 20000 in
theorem E_Md_wrongOf_1 (v0R : Nat) (v1J : Int64) (v3I : Int32) (v4I : Int32) (σ : AM) : L_Md_wrongOf_1 v0R v1J v3I v4I σ = (gd (okO σ v0R 12) <| if v4I < (aI σ v0R 37) then (gd (okO σ (aR σ v0R 38) 101) <| gd (inB v4I (aN σ (aR σ v0R 38))) <| bnd (M_Md_doesRing v1J (aI σ (aR σ v0R 38) v4I.toNatClampNeg) σ) fun r4 σ5 => gd (okO σ5 v0R 12) <| gd (okO σ5 (aR σ5 v0R 39) 103) <| gd (inB v4I (aN σ5 (aR σ5 v0R 39))) <| if r4 = (aI σ5 (aR σ5 v0R 39) v4I.toNatClampNeg) then (L_Md_wrongOf_2 v0R v1J v4I v3I ((0 : Int32)) σ5) else (L_Md_wrongOf_2 v0R v1J v4I v3I ((1 : Int32)) σ5)) else ((some (v3I, σ)))) := by
  unfold L_Md_wrongOf_1
  rw [lp_eq]
  show lpK (lp F_Md_wrongOf) (T_Md_wrongOf_1 v0R v1J v3I v4I σ) = _
  unfold T_Md_wrongOf_1
  simp only [lpK_ite, lq_inl, lq_inr, lpK_bnd, lpK_gd, lq_let]
  try rfl
set_option maxRecDepth 20000 in
theorem E_Md_wrongOf_2 (v0R : Nat) (v1J : Int64) (v4I : Int32) (s0I : Int32) (s1I : Int32) (σ : AM) : L_Md_wrongOf_2 v0R v1J v4I s0I s1I σ = (letT (s0I + s1I) fun x1 => L_Md_wrongOf_1 v0R v1J x1 (v4I + (1 : Int32)) σ) := by
  unfold L_Md_wrongOf_2
  rw [lp_eq]
  show lpK (lp F_Md_wrongOf) (T_Md_wrongOf_2 v0R v1J v4I s0I s1I σ) = _
  unfold T_Md_wrongOf_2
  simp only [lpK_ite, lq_inl, lq_inr, lpK_bnd, lpK_gd, lq_let]
  try rfl
noncomputable def M_Md_wrongOf (v0R : Nat) (v1J : Int64) (σ : AM) : Option (Int32 × AM) := mw σ (L_Md_wrongOf_0 v0R v1J σ)
def I_Md_wrongOf (G : GX) (p : Program) (l : Launch) (e : Env) (s : State) (m : MethodId) (args : Array Value) (below : List Frame) (meth : Method) (c : Code) (z0 u0 n : Nat) : Prop :=
  (∀ (v0R : Nat) (v1J : Int64) (σ : AM), VX (QM eI G args s below z0 u0) G p l e s m args below meth c 1 z0 u0 5 (lpn F_Md_wrongOf n (0, v0R, v1J, 0, 0, 0, 0, σ)) 0 [(0, .ref v0R), (1, .long v1J)] [] σ) ∧
  (∀ (v0R : Nat) (v1J : Int64) (v3I : Int32) (v4I : Int32) (σ : AM), VX (QM eI G args s below z0 u0) G p l e s m args below meth c 1 z0 u0 5 (lpn F_Md_wrongOf n (1, v0R, v1J, v3I, v4I, 0, 0, σ)) 5 [(0, .ref v0R), (1, .long v1J), (3, .int v3I), (4, .int v4I)] [] σ) ∧
  (∀ (v0R : Nat) (v1J : Int64) (v4I : Int32) (s0I : Int32) (s1I : Int32) (σ : AM), VX (QM eI G args s below z0 u0) G p l e s m args below meth c 1 z0 u0 5 (lpn F_Md_wrongOf n (2, v0R, v1J, 0, v4I, s0I, s1I, σ)) 41 [(0, .ref v0R), (1, .long v1J), (4, .int v4I)] [.int s1I, .int s0I] σ)
set_option maxRecDepth 20000 in
theorem s_Md_wrongOf_0 {G : GX} {p : Program} {l : Launch} {e : Env} {s : State} {m : MethodId} {args : Array Value} {below : List Frame} {meth : Method} {c : Code} {z0 u0 n : Nat} (C : Cx G p s m args meth c prog_14_method_95_code 5 "BellPlateModel" ((some FieldType.int))) (IH : I_Md_wrongOf G p l e s m args below meth c z0 u0 n) (v0R : Nat) (v1J : Int64) (σ : AM) : VX (QM eI G args s below z0 u0) G p l e s m args below meth c 1 z0 u0 5 (lpK (lpn F_Md_wrongOf n) (T_Md_wrongOf_0 v0R v1J σ)) 0 [(0, .ref v0R), (1, .long v1J)] [] σ := by
  unfold T_Md_wrongOf_0
  refine x_iconst (v := (0 : Int32)) C d_Md_wrongOf_0 (by decide) ?_
  refine x_istore_n (lv' := [(3, .int (0 : Int32)), (0, .ref v0R), (1, .long v1J)]) C d_Md_wrongOf_1 (by decide) rfl rfl ?_
  refine x_iconst (v := (0 : Int32)) C d_Md_wrongOf_2 (by decide) ?_
  refine x_istore (lv' := [(4, .int (0 : Int32)), (3, .int (0 : Int32)), (0, .ref v0R), (1, .long v1J)]) C d_Md_wrongOf_3 (by decide) rfl ?_
  refine x_lv [2, 3, 1, 0] rfl ?_
  exact IH.2.1 v0R v1J ((0 : Int32)) ((0 : Int32)) (σ)
set_option maxRecDepth 20000 in
theorem s_Md_wrongOf_1 {G : GX} {p : Program} {l : Launch} {e : Env} {s : State} {m : MethodId} {args : Array Value} {below : List Frame} {meth : Method} {c : Code} {z0 u0 n : Nat} (C : Cx G p s m args meth c prog_14_method_95_code 5 "BellPlateModel" ((some FieldType.int))) (IH : I_Md_wrongOf G p l e s m args below meth c z0 u0 n) (v0R : Nat) (v1J : Int64) (v3I : Int32) (v4I : Int32) (σ : AM) : VX (QM eI G args s below z0 u0) G p l e s m args below meth c 1 z0 u0 5 (lpK (lpn F_Md_wrongOf n) (T_Md_wrongOf_1 v0R v1J v3I v4I σ)) 5 [(0, .ref v0R), (1, .long v1J), (3, .int v3I), (4, .int v4I)] [] σ := by
  unfold T_Md_wrongOf_1
  refine x_iload C d_Md_wrongOf_5 3 rfl ?_
  refine x_aload_n C d_Md_wrongOf_7 0 rfl ?_
  refine x_gd (fun h1 => ?_)
  refine x_getI (k := 37) C (okO_iff.mp h1) rfl j11_ok (by decide) rfl w1889 d_Md_wrongOf_8 ?_
  refine x_icmp_ge (tgt := 49) C d_Md_wrongOf_11 (by decide) (fun _ => ?_) (fun _ => ?_)
  · refine x_iload_n C d_Md_wrongOf_14 2 rfl ?_
    refine x_lload_n C d_Md_wrongOf_15 1 rfl ?_
    refine x_aload_n C d_Md_wrongOf_16 0 rfl ?_
    refine x_gd (fun h2 => ?_)
    refine x_getR (k := 38) (kv := 101) C (okO_iff.mp h1) rfl j11_ok (by decide) rfl (okO_iff.mp h2) (by decide) w1890 d_Md_wrongOf_17 ?_
    refine x_iload C d_Md_wrongOf_20 3 rfl ?_
    refine x_gd (fun h3 => ?_)
    refine x_aldI C (okO_iff.mp h2) (inB_iff.mp h3) d_Md_wrongOf_22 ?_
    refine x_callSI (As := [.long v1J, .int (aI σ (aR σ v0R 38) v4I.toNatClampNeg)]) C (c_Md_doesRing G l v1J (aI σ (aR σ v0R 38) v4I.toNatClampNeg) σ) w2235 w2234 w2236 w134 k_Md_doesRing rfl (by decide) (by decide) rfl (Nat.le_of_ble_eq_true rfl) d_Md_wrongOf_23 (fun r4 σ5 => ?_)
    refine x_aload_n C d_Md_wrongOf_26 0 rfl ?_
    refine x_gd (fun h6 => ?_)
    refine x_gd (fun h7 => ?_)
    refine x_getR (k := 39) (kv := 103) C (okO_iff.mp h6) rfl j11_ok (by decide) rfl (okO_iff.mp h7) (by decide) w1891 d_Md_wrongOf_27 ?_
    refine x_iload C d_Md_wrongOf_30 3 rfl ?_
    refine x_gd (fun h8 => ?_)
    refine x_aldZ C (okO_iff.mp h7) (inB_iff.mp h8) d_Md_wrongOf_32 ?_
    refine x_icmp_eq (tgt := 40) C d_Md_wrongOf_33 (by decide) (fun _ => ?_) (fun _ => ?_)
    · refine x_iconst (v := (0 : Int32)) C d_Md_wrongOf_40 (by decide) ?_
      refine x_lv [0, 1, 3] rfl ?_
      exact IH.2.2 v0R v1J v4I v3I ((0 : Int32)) (σ5)
    · refine x_iconst (v := (1 : Int32)) C d_Md_wrongOf_36 (by decide) ?_
      refine x_goto (tgt := 41) C d_Md_wrongOf_37 (by decide) ?_
      refine x_lv [0, 1, 3] rfl ?_
      exact IH.2.2 v0R v1J v4I v3I ((1 : Int32)) (σ5)
  · refine x_iload_n C d_Md_wrongOf_49 2 rfl ?_
    exact x_iret C d_Md_wrongOf_50
set_option maxRecDepth 20000 in
theorem s_Md_wrongOf_2 {G : GX} {p : Program} {l : Launch} {e : Env} {s : State} {m : MethodId} {args : Array Value} {below : List Frame} {meth : Method} {c : Code} {z0 u0 n : Nat} (C : Cx G p s m args meth c prog_14_method_95_code 5 "BellPlateModel" ((some FieldType.int))) (IH : I_Md_wrongOf G p l e s m args below meth c z0 u0 n) (v0R : Nat) (v1J : Int64) (v4I : Int32) (s0I : Int32) (s1I : Int32) (σ : AM) : VX (QM eI G args s below z0 u0) G p l e s m args below meth c 1 z0 u0 5 (lpK (lpn F_Md_wrongOf n) (T_Md_wrongOf_2 v0R v1J v4I s0I s1I σ)) 41 [(0, .ref v0R), (1, .long v1J), (4, .int v4I)] [.int s1I, .int s0I] σ := by
  unfold T_Md_wrongOf_2
  refine x_iadd C d_Md_wrongOf_41 ?_
  refine x_letI (fun x1 _ => ?_)
  refine x_istore_n (lv' := [(3, .int x1), (0, .ref v0R), (1, .long v1J), (4, .int v4I)]) C d_Md_wrongOf_42 (by decide) rfl rfl ?_
  refine x_iinc (v := v4I + (1 : Int32)) (lv' := [(4, .int (v4I + (1 : Int32))), (3, .int x1), (0, .ref v0R), (1, .long v1J)]) C d_Md_wrongOf_43 3 rfl rfl (by decide) rfl ?_
  refine x_goto (tgt := 5) C d_Md_wrongOf_46 (by decide) ?_
  refine x_lv [2, 3, 1, 0] rfl ?_
  exact IH.2.1 v0R v1J x1 (v4I + (1 : Int32)) (σ)
theorem i_Md_wrongOf {G : GX} {p : Program} {l : Launch} {e : Env} {s : State} {m : MethodId} {args : Array Value} {below : List Frame} {meth : Method} {c : Code} {z0 u0 : Nat} (C : Cx G p s m args meth c prog_14_method_95_code 5 "BellPlateModel" ((some FieldType.int))) (n : Nat) : I_Md_wrongOf G p l e s m args below meth c z0 u0 n := by
  induction n with
  | zero => exact ⟨fun _ _ _ => x_none, fun _ _ _ _ _ => x_none, fun _ _ _ _ _ _ => x_none⟩
  | succ n IH => exact ⟨fun v0R v1J σ => s_Md_wrongOf_0 C IH v0R v1J σ, fun v0R v1J v3I v4I σ => s_Md_wrongOf_1 C IH v0R v1J v3I v4I σ, fun v0R v1J v4I s0I s1I σ => s_Md_wrongOf_2 C IH v0R v1J v4I s0I s1I σ⟩
theorem c_Md_wrongOf (G : GX) (l : Launch) (v0R : Nat) (v1J : Int64) (σ : AM) : CT eI G l 1 y_Md_wrongOf prog_14_method_95_code 5 ((some FieldType.int)) [.ref v0R, .long v1J] σ (M_Md_wrongOf v0R v1J σ) := by
  refine ct_of (by decide +kernel) (Nat.le_of_ble_eq_true rfl) (fun p e s m args below meth c C hin => ?_)
  refine x_lve (lv' := [(0, .ref v0R), (1, .long v1J)]) rfl ?_
  intro r σ' h
  obtain ⟨n, hn⟩ := (lp_iff _ _ _).mp h
  exact (i_Md_wrongOf C n).1 v0R v1J σ r σ' hn
/-! BellPlateModel.fewestWrong()I -/
abbrev y_Md_fewestWrong : MethodName := ⟨"BellPlateModel", "fewestWrong", "()I"⟩
theorem k_Md_fewestWrong : y_Md_fewestWrong.cls ≠ "java/lang/invoke/MethodHandle" ∧ y_Md_fewestWrong.cls ≠ "java/lang/invoke/VarHandle" ∧ (parseMethodDescriptor y_Md_fewestWrong.desc).map (fun d => d.parameters.length) = some 0 := by decide +kernel
theorem d_Md_fewestWrong_0 : decode prog_14_method_96_code 0 = .ok (.iconst (-1), 1) := by decide +kernel
theorem d_Md_fewestWrong_1 : decode prog_14_method_96_code 1 = .ok (.istore_n 1, 1) := by decide +kernel
theorem d_Md_fewestWrong_2 : decode prog_14_method_96_code 2 = .ok (.iconst 0, 1) := by decide +kernel
theorem d_Md_fewestWrong_3 : decode prog_14_method_96_code 3 = .ok (.istore_n 2, 1) := by decide +kernel
theorem d_Md_fewestWrong_4 : decode prog_14_method_96_code 4 = .ok (.iload_n 2, 1) := by decide +kernel
theorem d_Md_fewestWrong_5 : decode prog_14_method_96_code 5 = .ok (.aload_n 0, 1) := by decide +kernel
theorem d_Md_fewestWrong_6 : decode prog_14_method_96_code 6 = .ok (.getfield 316, 3) := by decide +kernel
theorem d_Md_fewestWrong_9 : decode prog_14_method_96_code 9 = .ok (.if_icmp .ge 35, 3) := by decide +kernel
theorem d_Md_fewestWrong_12 : decode prog_14_method_96_code 12 = .ok (.aload_n 0, 1) := by decide +kernel
theorem d_Md_fewestWrong_13 : decode prog_14_method_96_code 13 = .ok (.aload_n 0, 1) := by decide +kernel
theorem d_Md_fewestWrong_14 : decode prog_14_method_96_code 14 = .ok (.getfield 82, 3) := by decide +kernel
theorem d_Md_fewestWrong_17 : decode prog_14_method_96_code 17 = .ok (.iload_n 2, 1) := by decide +kernel
theorem d_Md_fewestWrong_18 : decode prog_14_method_96_code 18 = .ok (.laload, 1) := by decide +kernel
theorem d_Md_fewestWrong_19 : decode prog_14_method_96_code 19 = .ok (.invokevirtual 498, 3) := by decide +kernel
theorem d_Md_fewestWrong_22 : decode prog_14_method_96_code 22 = .ok (.istore_n 3, 1) := by decide +kernel
theorem d_Md_fewestWrong_23 : decode prog_14_method_96_code 23 = .ok (.iload_n 1, 1) := by decide +kernel
theorem d_Md_fewestWrong_24 : decode prog_14_method_96_code 24 = .ok (.ifCond .lt 8, 3) := by decide +kernel
theorem d_Md_fewestWrong_27 : decode prog_14_method_96_code 27 = .ok (.iload_n 3, 1) := by decide +kernel
theorem d_Md_fewestWrong_28 : decode prog_14_method_96_code 28 = .ok (.iload_n 1, 1) := by decide +kernel
theorem d_Md_fewestWrong_29 : decode prog_14_method_96_code 29 = .ok (.if_icmp .ge 7, 3) := by decide +kernel
theorem d_Md_fewestWrong_32 : decode prog_14_method_96_code 32 = .ok (.iload_n 3, 1) := by decide +kernel
theorem d_Md_fewestWrong_33 : decode prog_14_method_96_code 33 = .ok (.goto 4, 3) := by decide +kernel
theorem d_Md_fewestWrong_36 : decode prog_14_method_96_code 36 = .ok (.iload_n 1, 1) := by decide +kernel
theorem d_Md_fewestWrong_37 : decode prog_14_method_96_code 37 = .ok (.istore_n 1, 1) := by decide +kernel
theorem d_Md_fewestWrong_38 : decode prog_14_method_96_code 38 = .ok (.iinc 2 1, 3) := by decide +kernel
theorem d_Md_fewestWrong_41 : decode prog_14_method_96_code 41 = .ok (.goto (-37), 3) := by decide +kernel
theorem d_Md_fewestWrong_44 : decode prog_14_method_96_code 44 = .ok (.iload_n 1, 1) := by decide +kernel
theorem d_Md_fewestWrong_45 : decode prog_14_method_96_code 45 = .ok (.ireturn, 1) := by decide +kernel
abbrev S_Md_fewestWrong : Type := Nat × Nat × Int32 × Int32 × Int32 × Int32 × AM
noncomputable def T_Md_fewestWrong_0 (v0R : Nat) (σ : AM) : S_Md_fewestWrong ⊕ Option (Int32 × AM) :=
  .inl (1, v0R, ((-1) : Int32), (0 : Int32), 0, 0, σ)
noncomputable def T_Md_fewestWrong_1 (v0R : Nat) (v1I : Int32) (v2I : Int32) (σ : AM) : S_Md_fewestWrong ⊕ Option (Int32 × AM) :=
  gdT (okO σ v0R 12) <| if v2I < (aI σ v0R 29) then (gdT (okO σ (aR σ v0R 30) 102) <| gdT (inB v2I (aN σ (aR σ v0R 30))) <| bndT (M_Md_wrongOf v0R (aL σ (aR σ v0R 30) v2I.toNatClampNeg) σ) fun r4 σ5 => if v1I < 0 then (.inl (2, v0R, 0, v2I, r4, 0, σ5)) else (if r4 < v1I then (.inl (2, v0R, 0, v2I, r4, 0, σ5)) else (.inl (3, v0R, 0, v2I, 0, v1I, σ5)))) else (.inr (some (v1I, σ)))
noncomputable def T_Md_fewestWrong_2 (v0R : Nat) (v2I : Int32) (v3I : Int32) (σ : AM) : S_Md_fewestWrong ⊕ Option (Int32 × AM) :=
  .inl (3, v0R, 0, v2I, 0, v3I, σ)
noncomputable def T_Md_fewestWrong_3 (v0R : Nat) (v2I : Int32) (s0I : Int32) (σ : AM) : S_Md_fewestWrong ⊕ Option (Int32 × AM) :=
  .inl (1, v0R, s0I, v2I + (1 : Int32), 0, 0, σ)
noncomputable def F_Md_fewestWrong : S_Md_fewestWrong → S_Md_fewestWrong ⊕ Option (Int32 × AM) := fun s => match s.1 with
  | 0 => T_Md_fewestWrong_0 (s.2.1) (s.2.2.2.2.2.2)
  | 1 => T_Md_fewestWrong_1 (s.2.1) (s.2.2.1) (s.2.2.2.1) (s.2.2.2.2.2.2)
  | 2 => T_Md_fewestWrong_2 (s.2.1) (s.2.2.2.1) (s.2.2.2.2.1) (s.2.2.2.2.2.2)
  | _ => T_Md_fewestWrong_3 (s.2.1) (s.2.2.2.1) (s.2.2.2.2.2.1) (s.2.2.2.2.2.2)
noncomputable def L_Md_fewestWrong_0 (v0R : Nat) (σ : AM) : Option (Int32 × AM) := lp F_Md_fewestWrong (0, v0R, 0, 0, 0, 0, σ)
noncomputable def L_Md_fewestWrong_1 (v0R : Nat) (v1I : Int32) (v2I : Int32) (σ : AM) : Option (Int32 × AM) := lp F_Md_fewestWrong (1, v0R, v1I, v2I, 0, 0, σ)
noncomputable def L_Md_fewestWrong_2 (v0R : Nat) (v2I : Int32) (v3I : Int32) (σ : AM) : Option (Int32 × AM) := lp F_Md_fewestWrong (2, v0R, 0, v2I, v3I, 0, σ)
noncomputable def L_Md_fewestWrong_3 (v0R : Nat) (v2I : Int32) (s0I : Int32) (σ : AM) : Option (Int32 × AM) := lp F_Md_fewestWrong (3, v0R, 0, v2I, 0, s0I, σ)
set_option maxRecDepth 20000 in
theorem E_Md_fewestWrong_0 (v0R : Nat) (σ : AM) : L_Md_fewestWrong_0 v0R σ = (L_Md_fewestWrong_1 v0R (((-1) : Int32)) ((0 : Int32)) σ) := by
  unfold L_Md_fewestWrong_0
  rw [lp_eq]
  show lpK (lp F_Md_fewestWrong) (T_Md_fewestWrong_0 v0R σ) = _
  unfold T_Md_fewestWrong_0
  simp only [lpK_ite, lq_inl, lq_inr, lpK_bnd, lpK_gd, lq_let]
  try rfl
set_option maxRecDepth 20000 in
theorem E_Md_fewestWrong_1 (v0R : Nat) (v1I : Int32) (v2I : Int32) (σ : AM) : L_Md_fewestWrong_1 v0R v1I v2I σ = (gd (okO σ v0R 12) <| if v2I < (aI σ v0R 29) then (gd (okO σ (aR σ v0R 30) 102) <| gd (inB v2I (aN σ (aR σ v0R 30))) <| bnd (M_Md_wrongOf v0R (aL σ (aR σ v0R 30) v2I.toNatClampNeg) σ) fun r4 σ5 => if v1I < 0 then (L_Md_fewestWrong_2 v0R v2I r4 σ5) else (if r4 < v1I then (L_Md_fewestWrong_2 v0R v2I r4 σ5) else (L_Md_fewestWrong_3 v0R v2I v1I σ5))) else ((some (v1I, σ)))) := by
  unfold L_Md_fewestWrong_1
  rw [lp_eq]
  show lpK (lp F_Md_fewestWrong) (T_Md_fewestWrong_1 v0R v1I v2I σ) = _
  unfold T_Md_fewestWrong_1
  simp only [lpK_ite, lq_inl, lq_inr, lpK_bnd, lpK_gd, lq_let]
  try rfl
set_option maxRecDepth 20000 in
theorem E_Md_fewestWrong_2 (v0R : Nat) (v2I : Int32) (v3I : Int32) (σ : AM) : L_Md_fewestWrong_2 v0R v2I v3I σ = (L_Md_fewestWrong_3 v0R v2I v3I σ) := by
  unfold L_Md_fewestWrong_2
  rw [lp_eq]
  show lpK (lp F_Md_fewestWrong) (T_Md_fewestWrong_2 v0R v2I v3I σ) = _
  unfold T_Md_fewestWrong_2
  simp only [lpK_ite, lq_inl, lq_inr, lpK_bnd, lpK_gd, lq_let]
  try rfl
set_option maxRecDepth 20000 in
theorem E_Md_fewestWrong_3 (v0R : Nat) (v2I : Int32) (s0I : Int32) (σ : AM) : L_Md_fewestWrong_3 v0R v2I s0I σ = (L_Md_fewestWrong_1 v0R s0I (v2I + (1 : Int32)) σ) := by
  unfold L_Md_fewestWrong_3
  rw [lp_eq]
  show lpK (lp F_Md_fewestWrong) (T_Md_fewestWrong_3 v0R v2I s0I σ) = _
  unfold T_Md_fewestWrong_3
  simp only [lpK_ite, lq_inl, lq_inr, lpK_bnd, lpK_gd, lq_let]
  try rfl
noncomputable def M_Md_fewestWrong (v0R : Nat) (σ : AM) : Option (Int32 × AM) := mw σ (L_Md_fewestWrong_0 v0R σ)
def I_Md_fewestWrong (G : GX) (p : Program) (l : Launch) (e : Env) (s : State) (m : MethodId) (args : Array Value) (below : List Frame) (meth : Method) (c : Code) (z0 u0 n : Nat) : Prop :=
  (∀ (v0R : Nat) (σ : AM), VX (QM eI G args s below z0 u0) G p l e s m args below meth c 2 z0 u0 4 (lpn F_Md_fewestWrong n (0, v0R, 0, 0, 0, 0, σ)) 0 [(0, .ref v0R)] [] σ) ∧
  (∀ (v0R : Nat) (v1I : Int32) (v2I : Int32) (σ : AM), VX (QM eI G args s below z0 u0) G p l e s m args below meth c 2 z0 u0 4 (lpn F_Md_fewestWrong n (1, v0R, v1I, v2I, 0, 0, σ)) 4 [(0, .ref v0R), (1, .int v1I), (2, .int v2I)] [] σ) ∧
  (∀ (v0R : Nat) (v2I : Int32) (v3I : Int32) (σ : AM), VX (QM eI G args s below z0 u0) G p l e s m args below meth c 2 z0 u0 4 (lpn F_Md_fewestWrong n (2, v0R, 0, v2I, v3I, 0, σ)) 32 [(0, .ref v0R), (2, .int v2I), (3, .int v3I)] [] σ) ∧
  (∀ (v0R : Nat) (v2I : Int32) (s0I : Int32) (σ : AM), VX (QM eI G args s below z0 u0) G p l e s m args below meth c 2 z0 u0 4 (lpn F_Md_fewestWrong n (3, v0R, 0, v2I, 0, s0I, σ)) 37 [(0, .ref v0R), (2, .int v2I)] [.int s0I] σ)
set_option maxRecDepth 20000 in
theorem s_Md_fewestWrong_0 {G : GX} {p : Program} {l : Launch} {e : Env} {s : State} {m : MethodId} {args : Array Value} {below : List Frame} {meth : Method} {c : Code} {z0 u0 n : Nat} (C : Cx G p s m args meth c prog_14_method_96_code 4 "BellPlateModel" ((some FieldType.int))) (IH : I_Md_fewestWrong G p l e s m args below meth c z0 u0 n) (v0R : Nat) (σ : AM) : VX (QM eI G args s below z0 u0) G p l e s m args below meth c 2 z0 u0 4 (lpK (lpn F_Md_fewestWrong n) (T_Md_fewestWrong_0 v0R σ)) 0 [(0, .ref v0R)] [] σ := by
  unfold T_Md_fewestWrong_0
  refine x_iconst (v := ((-1) : Int32)) C d_Md_fewestWrong_0 (by decide) ?_
  refine x_istore_n (lv' := [(1, .int ((-1) : Int32)), (0, .ref v0R)]) C d_Md_fewestWrong_1 (by decide) rfl rfl ?_
  refine x_iconst (v := (0 : Int32)) C d_Md_fewestWrong_2 (by decide) ?_
  refine x_istore_n (lv' := [(2, .int (0 : Int32)), (1, .int ((-1) : Int32)), (0, .ref v0R)]) C d_Md_fewestWrong_3 (by decide) rfl rfl ?_
  refine x_lv [2, 1, 0] rfl ?_
  exact IH.2.1 v0R (((-1) : Int32)) ((0 : Int32)) (σ)
set_option maxRecDepth 20000 in
theorem s_Md_fewestWrong_1 {G : GX} {p : Program} {l : Launch} {e : Env} {s : State} {m : MethodId} {args : Array Value} {below : List Frame} {meth : Method} {c : Code} {z0 u0 n : Nat} (C : Cx G p s m args meth c prog_14_method_96_code 4 "BellPlateModel" ((some FieldType.int))) (IH : I_Md_fewestWrong G p l e s m args below meth c z0 u0 n) (v0R : Nat) (v1I : Int32) (v2I : Int32) (σ : AM) : VX (QM eI G args s below z0 u0) G p l e s m args below meth c 2 z0 u0 4 (lpK (lpn F_Md_fewestWrong n) (T_Md_fewestWrong_1 v0R v1I v2I σ)) 4 [(0, .ref v0R), (1, .int v1I), (2, .int v2I)] [] σ := by
  unfold T_Md_fewestWrong_1
  refine x_iload_n C d_Md_fewestWrong_4 2 rfl ?_
  refine x_aload_n C d_Md_fewestWrong_5 0 rfl ?_
  refine x_gd (fun h1 => ?_)
  refine x_getI (k := 29) C (okO_iff.mp h1) rfl j11_ok (by decide) rfl w1881 d_Md_fewestWrong_6 ?_
  refine x_icmp_ge (tgt := 44) C d_Md_fewestWrong_9 (by decide) (fun _ => ?_) (fun _ => ?_)
  · refine x_aload_n C d_Md_fewestWrong_12 0 rfl ?_
    refine x_aload_n C d_Md_fewestWrong_13 0 rfl ?_
    refine x_gd (fun h2 => ?_)
    refine x_getR (k := 30) (kv := 102) C (okO_iff.mp h1) rfl j11_ok (by decide) rfl (okO_iff.mp h2) (by decide) w1882 d_Md_fewestWrong_14 ?_
    refine x_iload_n C d_Md_fewestWrong_17 2 rfl ?_
    refine x_gd (fun h3 => ?_)
    refine x_aldJ C (okO_iff.mp h2) (inB_iff.mp h3) d_Md_fewestWrong_18 ?_
    refine x_callVI (As := [.long (aL σ (aR σ v0R 30) v2I.toNatClampNeg)]) C (c_Md_wrongOf G l v0R (aL σ (aR σ v0R 30) v2I.toNatClampNeg) σ) (okO_iff.mp h1) rfl w2399 w111 w2397 w2400 w134 k_Md_wrongOf rfl (by decide) (by decide) rfl (Nat.le_of_ble_eq_true rfl) d_Md_fewestWrong_19 (fun r4 σ5 => ?_)
    refine x_istore_n (lv' := [(3, .int r4), (0, .ref v0R), (1, .int v1I), (2, .int v2I)]) C d_Md_fewestWrong_22 (by decide) rfl rfl ?_
    refine x_iload_n C d_Md_fewestWrong_23 2 rfl ?_
    refine x_if_lt (tgt := 32) C d_Md_fewestWrong_24 (by decide) (fun _ => ?_) (fun _ => ?_)
    · refine x_lv [1, 3, 0] rfl ?_
      exact IH.2.2.1 v0R v2I r4 (σ5)
    · refine x_iload_n C d_Md_fewestWrong_27 0 rfl ?_
      refine x_iload_n C d_Md_fewestWrong_28 2 rfl ?_
      refine x_icmp_ge (tgt := 36) C d_Md_fewestWrong_29 (by decide) (fun _ => ?_) (fun _ => ?_)
      · refine x_lv [1, 3, 0] rfl ?_
        exact IH.2.2.1 v0R v2I r4 (σ5)
      · refine x_iload_n C d_Md_fewestWrong_36 2 rfl ?_
        refine x_lv [1, 3] rfl ?_
        exact IH.2.2.2 v0R v2I v1I (σ5)
  · refine x_iload_n C d_Md_fewestWrong_44 1 rfl ?_
    exact x_iret C d_Md_fewestWrong_45
set_option maxRecDepth 20000 in
theorem s_Md_fewestWrong_2 {G : GX} {p : Program} {l : Launch} {e : Env} {s : State} {m : MethodId} {args : Array Value} {below : List Frame} {meth : Method} {c : Code} {z0 u0 n : Nat} (C : Cx G p s m args meth c prog_14_method_96_code 4 "BellPlateModel" ((some FieldType.int))) (IH : I_Md_fewestWrong G p l e s m args below meth c z0 u0 n) (v0R : Nat) (v2I : Int32) (v3I : Int32) (σ : AM) : VX (QM eI G args s below z0 u0) G p l e s m args below meth c 2 z0 u0 4 (lpK (lpn F_Md_fewestWrong n) (T_Md_fewestWrong_2 v0R v2I v3I σ)) 32 [(0, .ref v0R), (2, .int v2I), (3, .int v3I)] [] σ := by
  unfold T_Md_fewestWrong_2
  refine x_iload_n C d_Md_fewestWrong_32 2 rfl ?_
  refine x_goto (tgt := 37) C d_Md_fewestWrong_33 (by decide) ?_
  refine x_lv [0, 1] rfl ?_
  exact IH.2.2.2 v0R v2I v3I (σ)
set_option maxRecDepth 20000 in
theorem s_Md_fewestWrong_3 {G : GX} {p : Program} {l : Launch} {e : Env} {s : State} {m : MethodId} {args : Array Value} {below : List Frame} {meth : Method} {c : Code} {z0 u0 n : Nat} (C : Cx G p s m args meth c prog_14_method_96_code 4 "BellPlateModel" ((some FieldType.int))) (IH : I_Md_fewestWrong G p l e s m args below meth c z0 u0 n) (v0R : Nat) (v2I : Int32) (s0I : Int32) (σ : AM) : VX (QM eI G args s below z0 u0) G p l e s m args below meth c 2 z0 u0 4 (lpK (lpn F_Md_fewestWrong n) (T_Md_fewestWrong_3 v0R v2I s0I σ)) 37 [(0, .ref v0R), (2, .int v2I)] [.int s0I] σ := by
  unfold T_Md_fewestWrong_3
  refine x_istore_n (lv' := [(1, .int s0I), (0, .ref v0R), (2, .int v2I)]) C d_Md_fewestWrong_37 (by decide) rfl rfl ?_
  refine x_iinc (v := v2I + (1 : Int32)) (lv' := [(2, .int (v2I + (1 : Int32))), (1, .int s0I), (0, .ref v0R)]) C d_Md_fewestWrong_38 2 rfl rfl (by decide) rfl ?_
  refine x_goto (tgt := 4) C d_Md_fewestWrong_41 (by decide) ?_
  refine x_lv [2, 1, 0] rfl ?_
  exact IH.2.1 v0R s0I (v2I + (1 : Int32)) (σ)
theorem i_Md_fewestWrong {G : GX} {p : Program} {l : Launch} {e : Env} {s : State} {m : MethodId} {args : Array Value} {below : List Frame} {meth : Method} {c : Code} {z0 u0 : Nat} (C : Cx G p s m args meth c prog_14_method_96_code 4 "BellPlateModel" ((some FieldType.int))) (n : Nat) : I_Md_fewestWrong G p l e s m args below meth c z0 u0 n := by
  induction n with
  | zero => exact ⟨fun _ _ => x_none, fun _ _ _ _ => x_none, fun _ _ _ _ => x_none, fun _ _ _ _ => x_none⟩
  | succ n IH => exact ⟨fun v0R σ => s_Md_fewestWrong_0 C IH v0R σ, fun v0R v1I v2I σ => s_Md_fewestWrong_1 C IH v0R v1I v2I σ, fun v0R v2I v3I σ => s_Md_fewestWrong_2 C IH v0R v2I v3I σ, fun v0R v2I s0I σ => s_Md_fewestWrong_3 C IH v0R v2I s0I σ⟩
theorem c_Md_fewestWrong (G : GX) (l : Launch) (v0R : Nat) (σ : AM) : CT eI G l 2 y_Md_fewestWrong prog_14_method_96_code 4 ((some FieldType.int)) [.ref v0R] σ (M_Md_fewestWrong v0R σ) := by
  refine ct_of (by decide +kernel) (Nat.le_of_ble_eq_true rfl) (fun p e s m args below meth c C hin => ?_)
  refine x_lve (lv' := [(0, .ref v0R)]) rfl ?_
  intro r σ' h
  obtain ⟨n, hn⟩ := (lp_iff _ _ _).mp h
  exact (i_Md_fewestWrong C n).1 v0R σ r σ' hn
/-! BellPlateModel.withWrong(I)I -/
abbrev y_Md_withWrong : MethodName := ⟨"BellPlateModel", "withWrong", "(I)I"⟩
theorem k_Md_withWrong : y_Md_withWrong.cls ≠ "java/lang/invoke/MethodHandle" ∧ y_Md_withWrong.cls ≠ "java/lang/invoke/VarHandle" ∧ (parseMethodDescriptor y_Md_withWrong.desc).map (fun d => d.parameters.length) = some 1 := by decide +kernel
theorem d_Md_withWrong_0 : decode prog_14_method_98_code 0 = .ok (.iconst 0, 1) := by decide +kernel
theorem d_Md_withWrong_1 : decode prog_14_method_98_code 1 = .ok (.istore_n 2, 1) := by decide +kernel
theorem d_Md_withWrong_2 : decode prog_14_method_98_code 2 = .ok (.iconst 0, 1) := by decide +kernel
theorem d_Md_withWrong_3 : decode prog_14_method_98_code 3 = .ok (.istore_n 3, 1) := by decide +kernel
theorem d_Md_withWrong_4 : decode prog_14_method_98_code 4 = .ok (.iload_n 3, 1) := by decide +kernel
theorem d_Md_withWrong_5 : decode prog_14_method_98_code 5 = .ok (.aload_n 0, 1) := by decide +kernel
theorem d_Md_withWrong_6 : decode prog_14_method_98_code 6 = .ok (.getfield 316, 3) := by decide +kernel
theorem d_Md_withWrong_9 : decode prog_14_method_98_code 9 = .ok (.if_icmp .ge 36, 3) := by decide +kernel
theorem d_Md_withWrong_12 : decode prog_14_method_98_code 12 = .ok (.iload_n 2, 1) := by decide +kernel
theorem d_Md_withWrong_13 : decode prog_14_method_98_code 13 = .ok (.aload_n 0, 1) := by decide +kernel
theorem d_Md_withWrong_14 : decode prog_14_method_98_code 14 = .ok (.aload_n 0, 1) := by decide +kernel
theorem d_Md_withWrong_15 : decode prog_14_method_98_code 15 = .ok (.getfield 82, 3) := by decide +kernel
theorem d_Md_withWrong_18 : decode prog_14_method_98_code 18 = .ok (.iload_n 3, 1) := by decide +kernel
theorem d_Md_withWrong_19 : decode prog_14_method_98_code 19 = .ok (.laload, 1) := by decide +kernel
theorem d_Md_withWrong_20 : decode prog_14_method_98_code 20 = .ok (.invokevirtual 498, 3) := by decide +kernel
theorem d_Md_withWrong_23 : decode prog_14_method_98_code 23 = .ok (.iload_n 1, 1) := by decide +kernel
theorem d_Md_withWrong_24 : decode prog_14_method_98_code 24 = .ok (.if_icmp .gt 12, 3) := by decide +kernel
theorem d_Md_withWrong_27 : decode prog_14_method_98_code 27 = .ok (.aload_n 0, 1) := by decide +kernel
theorem d_Md_withWrong_28 : decode prog_14_method_98_code 28 = .ok (.getfield 85, 3) := by decide +kernel
theorem d_Md_withWrong_31 : decode prog_14_method_98_code 31 = .ok (.iload_n 3, 1) := by decide +kernel
theorem d_Md_withWrong_32 : decode prog_14_method_98_code 32 = .ok (.iaload, 1) := by decide +kernel
theorem d_Md_withWrong_33 : decode prog_14_method_98_code 33 = .ok (.goto 4, 3) := by decide +kernel
theorem d_Md_withWrong_36 : decode prog_14_method_98_code 36 = .ok (.iconst 0, 1) := by decide +kernel
theorem d_Md_withWrong_37 : decode prog_14_method_98_code 37 = .ok (.iadd, 1) := by decide +kernel
theorem d_Md_withWrong_38 : decode prog_14_method_98_code 38 = .ok (.istore_n 2, 1) := by decide +kernel
theorem d_Md_withWrong_39 : decode prog_14_method_98_code 39 = .ok (.iinc 3 1, 3) := by decide +kernel
theorem d_Md_withWrong_42 : decode prog_14_method_98_code 42 = .ok (.goto (-38), 3) := by decide +kernel
theorem d_Md_withWrong_45 : decode prog_14_method_98_code 45 = .ok (.iload_n 2, 1) := by decide +kernel
theorem d_Md_withWrong_46 : decode prog_14_method_98_code 46 = .ok (.ireturn, 1) := by decide +kernel
abbrev S_Md_withWrong : Type := Nat × Nat × Int32 × Int32 × Int32 × Int32 × Int32 × AM
noncomputable def T_Md_withWrong_0 (v0R : Nat) (v1I : Int32) (σ : AM) : S_Md_withWrong ⊕ Option (Int32 × AM) :=
  .inl (1, v0R, v1I, (0 : Int32), (0 : Int32), 0, 0, σ)
noncomputable def T_Md_withWrong_1 (v0R : Nat) (v1I : Int32) (v2I : Int32) (v3I : Int32) (σ : AM) : S_Md_withWrong ⊕ Option (Int32 × AM) :=
  gdT (okO σ v0R 12) <| if v3I < (aI σ v0R 29) then (gdT (okO σ (aR σ v0R 30) 102) <| gdT (inB v3I (aN σ (aR σ v0R 30))) <| bndT (M_Md_wrongOf v0R (aL σ (aR σ v0R 30) v3I.toNatClampNeg) σ) fun r4 σ5 => if v1I < r4 then (.inl (2, v0R, v1I, 0, v3I, v2I, (0 : Int32), σ5)) else (gdT (okO σ5 v0R 12) <| gdT (okO σ5 (aR σ5 v0R 31) 101) <| gdT (inB v3I (aN σ5 (aR σ5 v0R 31))) <| .inl (2, v0R, v1I, 0, v3I, v2I, aI σ5 (aR σ5 v0R 31) v3I.toNatClampNeg, σ5))) else (.inr (some (v2I, σ)))
noncomputable def T_Md_withWrong_2 (v0R : Nat) (v1I : Int32) (v3I : Int32) (s0I : Int32) (s1I : Int32) (σ : AM) : S_Md_withWrong ⊕ Option (Int32 × AM) :=
  letT (s0I + s1I) fun x1 => .inl (1, v0R, v1I, x1, v3I + (1 : Int32), 0, 0, σ)
noncomputable def F_Md_withWrong : S_Md_withWrong → S_Md_withWrong ⊕ Option (Int32 × AM) := fun s => match s.1 with
  | 0 => T_Md_withWrong_0 (s.2.1) (s.2.2.1) (s.2.2.2.2.2.2.2)
  | 1 => T_Md_withWrong_1 (s.2.1) (s.2.2.1) (s.2.2.2.1) (s.2.2.2.2.1) (s.2.2.2.2.2.2.2)
  | _ => T_Md_withWrong_2 (s.2.1) (s.2.2.1) (s.2.2.2.2.1) (s.2.2.2.2.2.1) (s.2.2.2.2.2.2.1) (s.2.2.2.2.2.2.2)
noncomputable def L_Md_withWrong_0 (v0R : Nat) (v1I : Int32) (σ : AM) : Option (Int32 × AM) := lp F_Md_withWrong (0, v0R, v1I, 0, 0, 0, 0, σ)
noncomputable def L_Md_withWrong_1 (v0R : Nat) (v1I : Int32) (v2I : Int32) (v3I : Int32) (σ : AM) : Option (Int32 × AM) := lp F_Md_withWrong (1, v0R, v1I, v2I, v3I, 0, 0, σ)
noncomputable def L_Md_withWrong_2 (v0R : Nat) (v1I : Int32) (v3I : Int32) (s0I : Int32) (s1I : Int32) (σ : AM) : Option (Int32 × AM) := lp F_Md_withWrong (2, v0R, v1I, 0, v3I, s0I, s1I, σ)
set_option maxRecDepth 20000 in
theorem E_Md_withWrong_0 (v0R : Nat) (v1I : Int32) (σ : AM) : L_Md_withWrong_0 v0R v1I σ = (L_Md_withWrong_1 v0R v1I ((0 : Int32)) ((0 : Int32)) σ) := by
  unfold L_Md_withWrong_0
  rw [lp_eq]
  show lpK (lp F_Md_withWrong) (T_Md_withWrong_0 v0R v1I σ) = _
  unfold T_Md_withWrong_0
  simp only [lpK_ite, lq_inl, lq_inr, lpK_bnd, lpK_gd, lq_let]
  try rfl
set_option maxRecDepth 20000 in
theorem E_Md_withWrong_1 (v0R : Nat) (v1I : Int32) (v2I : Int32) (v3I : Int32) (σ : AM) : L_Md_withWrong_1 v0R v1I v2I v3I σ = (gd (okO σ v0R 12) <| if v3I < (aI σ v0R 29) then (gd (okO σ (aR σ v0R 30) 102) <| gd (inB v3I (aN σ (aR σ v0R 30))) <| bnd (M_Md_wrongOf v0R (aL σ (aR σ v0R 30) v3I.toNatClampNeg) σ) fun r4 σ5 => if v1I < r4 then (L_Md_withWrong_2 v0R v1I v3I v2I ((0 : Int32)) σ5) else (gd (okO σ5 v0R 12) <| gd (okO σ5 (aR σ5 v0R 31) 101) <| gd (inB v3I (aN σ5 (aR σ5 v0R 31))) <| L_Md_withWrong_2 v0R v1I v3I v2I (aI σ5 (aR σ5 v0R 31) v3I.toNatClampNeg) σ5)) else ((some (v2I, σ)))) := by
  unfold L_Md_withWrong_1
  rw [lp_eq]
  show lpK (lp F_Md_withWrong) (T_Md_withWrong_1 v0R v1I v2I v3I σ) = _
  unfold T_Md_withWrong_1
  simp only [lpK_ite, lq_inl, lq_inr, lpK_bnd, lpK_gd, lq_let]
  try rfl
set_option maxRecDepth 20000 in
theorem E_Md_withWrong_2 (v0R : Nat) (v1I : Int32) (v3I : Int32) (s0I : Int32) (s1I : Int32) (σ : AM) : L_Md_withWrong_2 v0R v1I v3I s0I s1I σ = (letT (s0I + s1I) fun x1 => L_Md_withWrong_1 v0R v1I x1 (v3I + (1 : Int32)) σ) := by
  unfold L_Md_withWrong_2
  rw [lp_eq]
  show lpK (lp F_Md_withWrong) (T_Md_withWrong_2 v0R v1I v3I s0I s1I σ) = _
  unfold T_Md_withWrong_2
  simp only [lpK_ite, lq_inl, lq_inr, lpK_bnd, lpK_gd, lq_let]
  try rfl
noncomputable def M_Md_withWrong (v0R : Nat) (v1I : Int32) (σ : AM) : Option (Int32 × AM) := mw σ (L_Md_withWrong_0 v0R v1I σ)
def I_Md_withWrong (G : GX) (p : Program) (l : Launch) (e : Env) (s : State) (m : MethodId) (args : Array Value) (below : List Frame) (meth : Method) (c : Code) (z0 u0 n : Nat) : Prop :=
  (∀ (v0R : Nat) (v1I : Int32) (σ : AM), VX (QM eI G args s below z0 u0) G p l e s m args below meth c 2 z0 u0 4 (lpn F_Md_withWrong n (0, v0R, v1I, 0, 0, 0, 0, σ)) 0 [(0, .ref v0R), (1, .int v1I)] [] σ) ∧
  (∀ (v0R : Nat) (v1I : Int32) (v2I : Int32) (v3I : Int32) (σ : AM), VX (QM eI G args s below z0 u0) G p l e s m args below meth c 2 z0 u0 4 (lpn F_Md_withWrong n (1, v0R, v1I, v2I, v3I, 0, 0, σ)) 4 [(0, .ref v0R), (1, .int v1I), (2, .int v2I), (3, .int v3I)] [] σ) ∧
  (∀ (v0R : Nat) (v1I : Int32) (v3I : Int32) (s0I : Int32) (s1I : Int32) (σ : AM), VX (QM eI G args s below z0 u0) G p l e s m args below meth c 2 z0 u0 4 (lpn F_Md_withWrong n (2, v0R, v1I, 0, v3I, s0I, s1I, σ)) 37 [(0, .ref v0R), (1, .int v1I), (3, .int v3I)] [.int s1I, .int s0I] σ)
set_option maxRecDepth 20000 in
theorem s_Md_withWrong_0 {G : GX} {p : Program} {l : Launch} {e : Env} {s : State} {m : MethodId} {args : Array Value} {below : List Frame} {meth : Method} {c : Code} {z0 u0 n : Nat} (C : Cx G p s m args meth c prog_14_method_98_code 4 "BellPlateModel" ((some FieldType.int))) (IH : I_Md_withWrong G p l e s m args below meth c z0 u0 n) (v0R : Nat) (v1I : Int32) (σ : AM) : VX (QM eI G args s below z0 u0) G p l e s m args below meth c 2 z0 u0 4 (lpK (lpn F_Md_withWrong n) (T_Md_withWrong_0 v0R v1I σ)) 0 [(0, .ref v0R), (1, .int v1I)] [] σ := by
  unfold T_Md_withWrong_0
  refine x_iconst (v := (0 : Int32)) C d_Md_withWrong_0 (by decide) ?_
  refine x_istore_n (lv' := [(2, .int (0 : Int32)), (0, .ref v0R), (1, .int v1I)]) C d_Md_withWrong_1 (by decide) rfl rfl ?_
  refine x_iconst (v := (0 : Int32)) C d_Md_withWrong_2 (by decide) ?_
  refine x_istore_n (lv' := [(3, .int (0 : Int32)), (2, .int (0 : Int32)), (0, .ref v0R), (1, .int v1I)]) C d_Md_withWrong_3 (by decide) rfl rfl ?_
  refine x_lv [2, 3, 1, 0] rfl ?_
  exact IH.2.1 v0R v1I ((0 : Int32)) ((0 : Int32)) (σ)
set_option maxRecDepth 20000 in
theorem s_Md_withWrong_1 {G : GX} {p : Program} {l : Launch} {e : Env} {s : State} {m : MethodId} {args : Array Value} {below : List Frame} {meth : Method} {c : Code} {z0 u0 n : Nat} (C : Cx G p s m args meth c prog_14_method_98_code 4 "BellPlateModel" ((some FieldType.int))) (IH : I_Md_withWrong G p l e s m args below meth c z0 u0 n) (v0R : Nat) (v1I : Int32) (v2I : Int32) (v3I : Int32) (σ : AM) : VX (QM eI G args s below z0 u0) G p l e s m args below meth c 2 z0 u0 4 (lpK (lpn F_Md_withWrong n) (T_Md_withWrong_1 v0R v1I v2I v3I σ)) 4 [(0, .ref v0R), (1, .int v1I), (2, .int v2I), (3, .int v3I)] [] σ := by
  unfold T_Md_withWrong_1
  refine x_iload_n C d_Md_withWrong_4 3 rfl ?_
  refine x_aload_n C d_Md_withWrong_5 0 rfl ?_
  refine x_gd (fun h1 => ?_)
  refine x_getI (k := 29) C (okO_iff.mp h1) rfl j11_ok (by decide) rfl w1881 d_Md_withWrong_6 ?_
  refine x_icmp_ge (tgt := 45) C d_Md_withWrong_9 (by decide) (fun _ => ?_) (fun _ => ?_)
  · refine x_iload_n C d_Md_withWrong_12 2 rfl ?_
    refine x_aload_n C d_Md_withWrong_13 0 rfl ?_
    refine x_aload_n C d_Md_withWrong_14 0 rfl ?_
    refine x_gd (fun h2 => ?_)
    refine x_getR (k := 30) (kv := 102) C (okO_iff.mp h1) rfl j11_ok (by decide) rfl (okO_iff.mp h2) (by decide) w1882 d_Md_withWrong_15 ?_
    refine x_iload_n C d_Md_withWrong_18 3 rfl ?_
    refine x_gd (fun h3 => ?_)
    refine x_aldJ C (okO_iff.mp h2) (inB_iff.mp h3) d_Md_withWrong_19 ?_
    refine x_callVI (As := [.long (aL σ (aR σ v0R 30) v3I.toNatClampNeg)]) C (c_Md_wrongOf G l v0R (aL σ (aR σ v0R 30) v3I.toNatClampNeg) σ) (okO_iff.mp h1) rfl w2399 w111 w2397 w2400 w134 k_Md_wrongOf rfl (by decide) (by decide) rfl (Nat.le_of_ble_eq_true rfl) d_Md_withWrong_20 (fun r4 σ5 => ?_)
    refine x_iload_n C d_Md_withWrong_23 1 rfl ?_
    refine x_icmp_gt (tgt := 36) C d_Md_withWrong_24 (by decide) (fun _ => ?_) (fun _ => ?_)
    · refine x_iconst (v := (0 : Int32)) C d_Md_withWrong_36 (by decide) ?_
      refine x_lv [0, 1, 3] rfl ?_
      exact IH.2.2 v0R v1I v3I v2I ((0 : Int32)) (σ5)
    · refine x_aload_n C d_Md_withWrong_27 0 rfl ?_
      refine x_gd (fun h6 => ?_)
      refine x_gd (fun h7 => ?_)
      refine x_getR (k := 31) (kv := 101) C (okO_iff.mp h6) rfl j11_ok (by decide) rfl (okO_iff.mp h7) (by decide) w1883 d_Md_withWrong_28 ?_
      refine x_iload_n C d_Md_withWrong_31 3 rfl ?_
      refine x_gd (fun h8 => ?_)
      refine x_aldI C (okO_iff.mp h7) (inB_iff.mp h8) d_Md_withWrong_32 ?_
      refine x_goto (tgt := 37) C d_Md_withWrong_33 (by decide) ?_
      refine x_lv [0, 1, 3] rfl ?_
      exact IH.2.2 v0R v1I v3I v2I (aI σ5 (aR σ5 v0R 31) v3I.toNatClampNeg) (σ5)
  · refine x_iload_n C d_Md_withWrong_45 2 rfl ?_
    exact x_iret C d_Md_withWrong_46
set_option maxRecDepth 20000 in
theorem s_Md_withWrong_2 {G : GX} {p : Program} {l : Launch} {e : Env} {s : State} {m : MethodId} {args : Array Value} {below : List Frame} {meth : Method} {c : Code} {z0 u0 n : Nat} (C : Cx G p s m args meth c prog_14_method_98_code 4 "BellPlateModel" ((some FieldType.int))) (IH : I_Md_withWrong G p l e s m args below meth c z0 u0 n) (v0R : Nat) (v1I : Int32) (v3I : Int32) (s0I : Int32) (s1I : Int32) (σ : AM) : VX (QM eI G args s below z0 u0) G p l e s m args below meth c 2 z0 u0 4 (lpK (lpn F_Md_withWrong n) (T_Md_withWrong_2 v0R v1I v3I s0I s1I σ)) 37 [(0, .ref v0R), (1, .int v1I), (3, .int v3I)] [.int s1I, .int s0I] σ := by
  unfold T_Md_withWrong_2
  refine x_iadd C d_Md_withWrong_37 ?_
  refine x_letI (fun x1 _ => ?_)
  refine x_istore_n (lv' := [(2, .int x1), (0, .ref v0R), (1, .int v1I), (3, .int v3I)]) C d_Md_withWrong_38 (by decide) rfl rfl ?_
  refine x_iinc (v := v3I + (1 : Int32)) (lv' := [(3, .int (v3I + (1 : Int32))), (2, .int x1), (0, .ref v0R), (1, .int v1I)]) C d_Md_withWrong_39 3 rfl rfl (by decide) rfl ?_
  refine x_goto (tgt := 4) C d_Md_withWrong_42 (by decide) ?_
  refine x_lv [2, 3, 1, 0] rfl ?_
  exact IH.2.1 v0R v1I x1 (v3I + (1 : Int32)) (σ)
theorem i_Md_withWrong {G : GX} {p : Program} {l : Launch} {e : Env} {s : State} {m : MethodId} {args : Array Value} {below : List Frame} {meth : Method} {c : Code} {z0 u0 : Nat} (C : Cx G p s m args meth c prog_14_method_98_code 4 "BellPlateModel" ((some FieldType.int))) (n : Nat) : I_Md_withWrong G p l e s m args below meth c z0 u0 n := by
  induction n with
  | zero => exact ⟨fun _ _ _ => x_none, fun _ _ _ _ _ => x_none, fun _ _ _ _ _ _ => x_none⟩
  | succ n IH => exact ⟨fun v0R v1I σ => s_Md_withWrong_0 C IH v0R v1I σ, fun v0R v1I v2I v3I σ => s_Md_withWrong_1 C IH v0R v1I v2I v3I σ, fun v0R v1I v3I s0I s1I σ => s_Md_withWrong_2 C IH v0R v1I v3I s0I s1I σ⟩
theorem c_Md_withWrong (G : GX) (l : Launch) (v0R : Nat) (v1I : Int32) (σ : AM) : CT eI G l 2 y_Md_withWrong prog_14_method_98_code 4 ((some FieldType.int)) [.ref v0R, .int v1I] σ (M_Md_withWrong v0R v1I σ) := by
  refine ct_of (by decide +kernel) (Nat.le_of_ble_eq_true rfl) (fun p e s m args below meth c C hin => ?_)
  refine x_lve (lv' := [(0, .ref v0R), (1, .int v1I)]) rfl ?_
  intro r σ' h
  obtain ⟨n, hn⟩ := (lp_iff _ _ _).mp h
  exact (i_Md_withWrong C n).1 v0R v1I σ r σ' hn
/-! BellPlateModel.wrong(I)I -/
abbrev y_Md_wrong : MethodName := ⟨"BellPlateModel", "wrong", "(I)I"⟩
theorem k_Md_wrong : y_Md_wrong.cls ≠ "java/lang/invoke/MethodHandle" ∧ y_Md_wrong.cls ≠ "java/lang/invoke/VarHandle" ∧ (parseMethodDescriptor y_Md_wrong.desc).map (fun d => d.parameters.length) = some 1 := by decide +kernel
theorem d_Md_wrong_0 : decode prog_14_method_97_code 0 = .ok (.aload_n 0, 1) := by decide +kernel
theorem d_Md_wrong_1 : decode prog_14_method_97_code 1 = .ok (.iconst 0, 1) := by decide +kernel
theorem d_Md_wrong_2 : decode prog_14_method_97_code 2 = .ok (.putfield 1, 3) := by decide +kernel
theorem d_Md_wrong_5 : decode prog_14_method_97_code 5 = .ok (.aload_n 0, 1) := by decide +kernel
theorem d_Md_wrong_6 : decode prog_14_method_97_code 6 = .ok (.invokevirtual 501, 3) := by decide +kernel
theorem d_Md_wrong_9 : decode prog_14_method_97_code 9 = .ok (.istore_n 2, 1) := by decide +kernel
theorem d_Md_wrong_10 : decode prog_14_method_97_code 10 = .ok (.iload_n 1, 1) := by decide +kernel
theorem d_Md_wrong_11 : decode prog_14_method_97_code 11 = .ok (.invokestatic 453, 3) := by decide +kernel
theorem d_Md_wrong_14 : decode prog_14_method_97_code 14 = .ok (.ifCond .eq 7, 3) := by decide +kernel
theorem d_Md_wrong_17 : decode prog_14_method_97_code 17 = .ok (.iload_n 2, 1) := by decide +kernel
theorem d_Md_wrong_18 : decode prog_14_method_97_code 18 = .ok (.ifCond .ge 5, 3) := by decide +kernel
theorem d_Md_wrong_21 : decode prog_14_method_97_code 21 = .ok (.iconst (-1), 1) := by decide +kernel
theorem d_Md_wrong_22 : decode prog_14_method_97_code 22 = .ok (.ireturn, 1) := by decide +kernel
theorem d_Md_wrong_23 : decode prog_14_method_97_code 23 = .ok (.iload_n 1, 1) := by decide +kernel
theorem d_Md_wrong_24 : decode prog_14_method_97_code 24 = .ok (.ifCond .ne 7, 3) := by decide +kernel
theorem d_Md_wrong_27 : decode prog_14_method_97_code 27 = .ok (.iload_n 2, 1) := by decide +kernel
theorem d_Md_wrong_28 : decode prog_14_method_97_code 28 = .ok (.goto 8, 3) := by decide +kernel
theorem d_Md_wrong_31 : decode prog_14_method_97_code 31 = .ok (.aload_n 0, 1) := by decide +kernel
theorem d_Md_wrong_32 : decode prog_14_method_97_code 32 = .ok (.iload_n 2, 1) := by decide +kernel
theorem d_Md_wrong_33 : decode prog_14_method_97_code 33 = .ok (.invokevirtual 504, 3) := by decide +kernel
theorem d_Md_wrong_36 : decode prog_14_method_97_code 36 = .ok (.ireturn, 1) := by decide +kernel
abbrev S_Md_wrong : Type := Nat × Nat × Int32 × Int32 × AM
noncomputable def T_Md_wrong_0 (v0R : Nat) (v1I : Int32) (σ : AM) : S_Md_wrong ⊕ Option (Int32 × AM) :=
  gdT (okO σ v0R 12) <| letT (sI σ v0R 0 (0 : Int32)) fun σ2 => bndT (M_Md_fewestWrong v0R σ2) fun r4 σ5 => bndT (M_Md_isWhat v1I σ5) fun r6 σ7 => if r6 = 0 then (.inl (1, 0, 0, 0, σ7)) else (if r4 < 0 then (.inl (1, 0, 0, 0, σ7)) else (if v1I = 0 then (.inl (2, 0, 0, r4, σ7)) else (gdT (okO σ7 v0R 12) <| bndT (M_Md_withWrong v0R r4 σ7) fun r8 σ9 => .inl (2, 0, 0, r8, σ9))))
noncomputable def T_Md_wrong_1  (σ : AM) : S_Md_wrong ⊕ Option (Int32 × AM) :=
  .inr (some (((-1) : Int32), σ))
noncomputable def T_Md_wrong_2 (s0I : Int32) (σ : AM) : S_Md_wrong ⊕ Option (Int32 × AM) :=
  .inr (some (s0I, σ))
noncomputable def F_Md_wrong : S_Md_wrong → S_Md_wrong ⊕ Option (Int32 × AM) := fun s => match s.1 with
  | 0 => T_Md_wrong_0 (s.2.1) (s.2.2.1) (s.2.2.2.2)
  | 1 => T_Md_wrong_1  (s.2.2.2.2)
  | _ => T_Md_wrong_2 (s.2.2.2.1) (s.2.2.2.2)
noncomputable def L_Md_wrong_0 (v0R : Nat) (v1I : Int32) (σ : AM) : Option (Int32 × AM) := lp F_Md_wrong (0, v0R, v1I, 0, σ)
noncomputable def L_Md_wrong_1  (σ : AM) : Option (Int32 × AM) := lp F_Md_wrong (1, 0, 0, 0, σ)
noncomputable def L_Md_wrong_2 (s0I : Int32) (σ : AM) : Option (Int32 × AM) := lp F_Md_wrong (2, 0, 0, s0I, σ)
set_option maxRecDepth 20000 in
theorem E_Md_wrong_0 (v0R : Nat) (v1I : Int32) (σ : AM) : L_Md_wrong_0 v0R v1I σ = (gd (okO σ v0R 12) <| letT (sI σ v0R 0 (0 : Int32)) fun σ2 => bnd (M_Md_fewestWrong v0R σ2) fun r4 σ5 => bnd (M_Md_isWhat v1I σ5) fun r6 σ7 => if r6 = 0 then (L_Md_wrong_1 σ7) else (if r4 < 0 then (L_Md_wrong_1 σ7) else (if v1I = 0 then (L_Md_wrong_2 r4 σ7) else (gd (okO σ7 v0R 12) <| bnd (M_Md_withWrong v0R r4 σ7) fun r8 σ9 => L_Md_wrong_2 r8 σ9)))) := by
  unfold L_Md_wrong_0
  rw [lp_eq]
  show lpK (lp F_Md_wrong) (T_Md_wrong_0 v0R v1I σ) = _
  unfold T_Md_wrong_0
  simp only [lpK_ite, lq_inl, lq_inr, lpK_bnd, lpK_gd, lq_let]
  try rfl
set_option maxRecDepth 20000 in
theorem E_Md_wrong_1  (σ : AM) : L_Md_wrong_1  σ = ((some (((-1) : Int32), σ))) := by
  unfold L_Md_wrong_1
  rw [lp_eq]
  show lpK (lp F_Md_wrong) (T_Md_wrong_1  σ) = _
  unfold T_Md_wrong_1
  simp only [lpK_ite, lq_inl, lq_inr, lpK_bnd, lpK_gd, lq_let]
  try rfl
set_option maxRecDepth 20000 in
theorem E_Md_wrong_2 (s0I : Int32) (σ : AM) : L_Md_wrong_2 s0I σ = ((some (s0I, σ))) := by
  unfold L_Md_wrong_2
  rw [lp_eq]
  show lpK (lp F_Md_wrong) (T_Md_wrong_2 s0I σ) = _
  unfold T_Md_wrong_2
  simp only [lpK_ite, lq_inl, lq_inr, lpK_bnd, lpK_gd, lq_let]
  try rfl
noncomputable def M_Md_wrong (v0R : Nat) (v1I : Int32) (σ : AM) : Option (Int32 × AM) := mw σ (L_Md_wrong_0 v0R v1I σ)
def I_Md_wrong (G : GX) (p : Program) (l : Launch) (e : Env) (s : State) (m : MethodId) (args : Array Value) (below : List Frame) (meth : Method) (c : Code) (z0 u0 n : Nat) : Prop :=
  (∀ (v0R : Nat) (v1I : Int32) (σ : AM), VX (QM eI G args s below z0 u0) G p l e s m args below meth c 3 z0 u0 3 (lpn F_Md_wrong n (0, v0R, v1I, 0, σ)) 0 [(0, .ref v0R), (1, .int v1I)] [] σ) ∧
  (∀ (σ : AM), VX (QM eI G args s below z0 u0) G p l e s m args below meth c 3 z0 u0 3 (lpn F_Md_wrong n (1, 0, 0, 0, σ)) 21 [] [] σ) ∧
  (∀ (s0I : Int32) (σ : AM), VX (QM eI G args s below z0 u0) G p l e s m args below meth c 3 z0 u0 3 (lpn F_Md_wrong n (2, 0, 0, s0I, σ)) 36 [] [.int s0I] σ)
set_option maxRecDepth 20000 in
theorem s_Md_wrong_0 {G : GX} {p : Program} {l : Launch} {e : Env} {s : State} {m : MethodId} {args : Array Value} {below : List Frame} {meth : Method} {c : Code} {z0 u0 n : Nat} (C : Cx G p s m args meth c prog_14_method_97_code 3 "BellPlateModel" ((some FieldType.int))) (IH : I_Md_wrong G p l e s m args below meth c z0 u0 n) (v0R : Nat) (v1I : Int32) (σ : AM) : VX (QM eI G args s below z0 u0) G p l e s m args below meth c 3 z0 u0 3 (lpK (lpn F_Md_wrong n) (T_Md_wrong_0 v0R v1I σ)) 0 [(0, .ref v0R), (1, .int v1I)] [] σ := by
  unfold T_Md_wrong_0
  refine x_aload_n C d_Md_wrong_0 0 rfl ?_
  refine x_iconst (v := (0 : Int32)) C d_Md_wrong_1 (by decide) ?_
  refine x_gd (fun h1 => ?_)
  refine x_putI (k := 0) C (okO_iff.mp h1) rfl j11_ok y11_ok n11_ok (by decide) rfl rfl rfl rfl w1852 d_Md_wrong_2 ?_
  refine x_letS (fun σ2 e3 => ?_)
  refine x_aload_n C d_Md_wrong_5 0 rfl ?_
  refine x_callVI (As := []) C (c_Md_fewestWrong G l v0R  σ2) (by first | exact (okO_iff.mp h1) | (rw [e3]; exact (okO_iff.mp h1))) rfl w2395 w110 w2393 w2396 w134 k_Md_fewestWrong rfl (by decide) (by decide) rfl (Nat.le_of_ble_eq_true rfl) d_Md_wrong_6 (fun r4 σ5 => ?_)
  refine x_istore_n (lv' := [(2, .int r4), (0, .ref v0R), (1, .int v1I)]) C d_Md_wrong_9 (by decide) rfl rfl ?_
  refine x_iload_n C d_Md_wrong_10 2 rfl ?_
  refine x_callSI (As := [.int v1I]) C (c_Md_isWhat G l v1I σ5) w2328 w2327 w2329 w134 k_Md_isWhat rfl (by decide) (by decide) rfl (Nat.le_of_ble_eq_true rfl) d_Md_wrong_11 (fun r6 σ7 => ?_)
  refine x_if_eq (tgt := 21) C d_Md_wrong_14 (by decide) (fun _ => ?_) (fun _ => ?_)
  · refine x_lv [] rfl ?_
    exact IH.2.1  (σ7)
  · refine x_iload_n C d_Md_wrong_17 0 rfl ?_
    refine x_if_ge (tgt := 23) C d_Md_wrong_18 (by decide) (fun _ => ?_) (fun _ => ?_)
    · refine x_lv [] rfl ?_
      exact IH.2.1  (σ7)
    · refine x_iload_n C d_Md_wrong_23 2 rfl ?_
      refine x_if_ne (tgt := 31) C d_Md_wrong_24 (by decide) (fun _ => ?_) (fun _ => ?_)
      · refine x_iload_n C d_Md_wrong_27 0 rfl ?_
        refine x_goto (tgt := 36) C d_Md_wrong_28 (by decide) ?_
        refine x_lv [] rfl ?_
        exact IH.2.2 r4 (σ7)
      · refine x_aload_n C d_Md_wrong_31 1 rfl ?_
        refine x_iload_n C d_Md_wrong_32 0 rfl ?_
        refine x_gd (fun h10 => ?_)
        refine x_callVI (As := [.int r4]) C (c_Md_withWrong G l v0R r4 σ7) (okO_iff.mp h10) rfl w2403 w112 w2401 w2404 w134 k_Md_withWrong rfl (by decide) (by decide) rfl (Nat.le_of_ble_eq_true rfl) d_Md_wrong_33 (fun r8 σ9 => ?_)
        refine x_lv [] rfl ?_
        exact IH.2.2 r8 (σ9)
set_option maxRecDepth 20000 in
theorem s_Md_wrong_1 {G : GX} {p : Program} {l : Launch} {e : Env} {s : State} {m : MethodId} {args : Array Value} {below : List Frame} {meth : Method} {c : Code} {z0 u0 n : Nat} (C : Cx G p s m args meth c prog_14_method_97_code 3 "BellPlateModel" ((some FieldType.int))) (IH : I_Md_wrong G p l e s m args below meth c z0 u0 n)  (σ : AM) : VX (QM eI G args s below z0 u0) G p l e s m args below meth c 3 z0 u0 3 (lpK (lpn F_Md_wrong n) (T_Md_wrong_1  σ)) 21 [] [] σ := by
  unfold T_Md_wrong_1
  refine x_iconst (v := ((-1) : Int32)) C d_Md_wrong_21 (by decide) ?_
  exact x_iret C d_Md_wrong_22
set_option maxRecDepth 20000 in
theorem s_Md_wrong_2 {G : GX} {p : Program} {l : Launch} {e : Env} {s : State} {m : MethodId} {args : Array Value} {below : List Frame} {meth : Method} {c : Code} {z0 u0 n : Nat} (C : Cx G p s m args meth c prog_14_method_97_code 3 "BellPlateModel" ((some FieldType.int))) (IH : I_Md_wrong G p l e s m args below meth c z0 u0 n) (s0I : Int32) (σ : AM) : VX (QM eI G args s below z0 u0) G p l e s m args below meth c 3 z0 u0 3 (lpK (lpn F_Md_wrong n) (T_Md_wrong_2 s0I σ)) 36 [] [.int s0I] σ := by
  unfold T_Md_wrong_2
  exact x_iret C d_Md_wrong_36
theorem i_Md_wrong {G : GX} {p : Program} {l : Launch} {e : Env} {s : State} {m : MethodId} {args : Array Value} {below : List Frame} {meth : Method} {c : Code} {z0 u0 : Nat} (C : Cx G p s m args meth c prog_14_method_97_code 3 "BellPlateModel" ((some FieldType.int))) (n : Nat) : I_Md_wrong G p l e s m args below meth c z0 u0 n := by
  induction n with
  | zero => exact ⟨fun _ _ _ => x_none, fun _ => x_none, fun _ _ => x_none⟩
  | succ n IH => exact ⟨fun v0R v1I σ => s_Md_wrong_0 C IH v0R v1I σ, fun σ => s_Md_wrong_1 C IH σ, fun s0I σ => s_Md_wrong_2 C IH s0I σ⟩
theorem c_Md_wrong (G : GX) (l : Launch) (v0R : Nat) (v1I : Int32) (σ : AM) : CT eI G l 3 y_Md_wrong prog_14_method_97_code 3 ((some FieldType.int)) [.ref v0R, .int v1I] σ (M_Md_wrong v0R v1I σ) := by
  refine ct_of (by decide +kernel) (Nat.le_of_ble_eq_true rfl) (fun p e s m args below meth c C hin => ?_)
  refine x_lve (lv' := [(0, .ref v0R), (1, .int v1I)]) rfl ?_
  intro r σ' h
  obtain ⟨n, hn⟩ := (lp_iff _ _ _).mp h
  exact (i_Md_wrong C n).1 v0R v1I σ r σ' hn
/-! BellPlateModel.with(I)I -/
abbrev y_Md_with : MethodName := ⟨"BellPlateModel", "with", "(I)I"⟩
theorem k_Md_with : y_Md_with.cls ≠ "java/lang/invoke/MethodHandle" ∧ y_Md_with.cls ≠ "java/lang/invoke/VarHandle" ∧ (parseMethodDescriptor y_Md_with.desc).map (fun d => d.parameters.length) = some 1 := by decide +kernel
theorem d_Md_with_0 : decode prog_14_method_99_code 0 = .ok (.aload_n 0, 1) := by decide +kernel
theorem d_Md_with_1 : decode prog_14_method_99_code 1 = .ok (.iconst 0, 1) := by decide +kernel
theorem d_Md_with_2 : decode prog_14_method_99_code 2 = .ok (.putfield 1, 3) := by decide +kernel
theorem d_Md_with_5 : decode prog_14_method_99_code 5 = .ok (.iload_n 1, 1) := by decide +kernel
theorem d_Md_with_6 : decode prog_14_method_99_code 6 = .ok (.iconst 0, 1) := by decide +kernel
theorem d_Md_with_7 : decode prog_14_method_99_code 7 = .ok (.bipush 60, 2) := by decide +kernel
theorem d_Md_with_9 : decode prog_14_method_99_code 9 = .ok (.invokestatic 350, 3) := by decide +kernel
theorem d_Md_with_12 : decode prog_14_method_99_code 12 = .ok (.ifCond .eq 11, 3) := by decide +kernel
theorem d_Md_with_15 : decode prog_14_method_99_code 15 = .ok (.aload_n 0, 1) := by decide +kernel
theorem d_Md_with_16 : decode prog_14_method_99_code 16 = .ok (.iload_n 1, 1) := by decide +kernel
theorem d_Md_with_17 : decode prog_14_method_99_code 17 = .ok (.invokevirtual 504, 3) := by decide +kernel
theorem d_Md_with_20 : decode prog_14_method_99_code 20 = .ok (.goto 4, 3) := by decide +kernel
theorem d_Md_with_23 : decode prog_14_method_99_code 23 = .ok (.iconst (-1), 1) := by decide +kernel
theorem d_Md_with_24 : decode prog_14_method_99_code 24 = .ok (.ireturn, 1) := by decide +kernel
abbrev S_Md_with : Type := Nat × Nat × Int32 × Int32 × AM
noncomputable def T_Md_with_0 (v0R : Nat) (v1I : Int32) (σ : AM) : S_Md_with ⊕ Option (Int32 × AM) :=
  gdT (okO σ v0R 12) <| letT (sI σ v0R 0 (0 : Int32)) fun σ2 => bndT (M_Md_within v1I (0 : Int32) (60 : Int32) σ2) fun r4 σ5 => if r4 = 0 then (.inl (1, 0, 0, ((-1) : Int32), σ5)) else (gdT (okO σ5 v0R 12) <| bndT (M_Md_withWrong v0R v1I σ5) fun r6 σ7 => .inl (1, 0, 0, r6, σ7))
noncomputable def T_Md_with_1 (s0I : Int32) (σ : AM) : S_Md_with ⊕ Option (Int32 × AM) :=
  .inr (some (s0I, σ))
noncomputable def F_Md_with : S_Md_with → S_Md_with ⊕ Option (Int32 × AM) := fun s => match s.1 with
  | 0 => T_Md_with_0 (s.2.1) (s.2.2.1) (s.2.2.2.2)
  | _ => T_Md_with_1 (s.2.2.2.1) (s.2.2.2.2)
noncomputable def L_Md_with_0 (v0R : Nat) (v1I : Int32) (σ : AM) : Option (Int32 × AM) := lp F_Md_with (0, v0R, v1I, 0, σ)
noncomputable def L_Md_with_1 (s0I : Int32) (σ : AM) : Option (Int32 × AM) := lp F_Md_with (1, 0, 0, s0I, σ)
set_option maxRecDepth 20000 in
theorem E_Md_with_0 (v0R : Nat) (v1I : Int32) (σ : AM) : L_Md_with_0 v0R v1I σ = (gd (okO σ v0R 12) <| letT (sI σ v0R 0 (0 : Int32)) fun σ2 => bnd (M_Md_within v1I (0 : Int32) (60 : Int32) σ2) fun r4 σ5 => if r4 = 0 then (L_Md_with_1 (((-1) : Int32)) σ5) else (gd (okO σ5 v0R 12) <| bnd (M_Md_withWrong v0R v1I σ5) fun r6 σ7 => L_Md_with_1 r6 σ7)) := by
  unfold L_Md_with_0
  rw [lp_eq]
  show lpK (lp F_Md_with) (T_Md_with_0 v0R v1I σ) = _
  unfold T_Md_with_0
  simp only [lpK_ite, lq_inl, lq_inr, lpK_bnd, lpK_gd, lq_let]
  try rfl
set_option maxRecDepth 20000 in
theorem E_Md_with_1 (s0I : Int32) (σ : AM) : L_Md_with_1 s0I σ = ((some (s0I, σ))) := by
  unfold L_Md_with_1
  rw [lp_eq]
  show lpK (lp F_Md_with) (T_Md_with_1 s0I σ) = _
  unfold T_Md_with_1
  simp only [lpK_ite, lq_inl, lq_inr, lpK_bnd, lpK_gd, lq_let]
  try rfl
noncomputable def M_Md_with (v0R : Nat) (v1I : Int32) (σ : AM) : Option (Int32 × AM) := mw σ (L_Md_with_0 v0R v1I σ)
def I_Md_with (G : GX) (p : Program) (l : Launch) (e : Env) (s : State) (m : MethodId) (args : Array Value) (below : List Frame) (meth : Method) (c : Code) (z0 u0 n : Nat) : Prop :=
  (∀ (v0R : Nat) (v1I : Int32) (σ : AM), VX (QM eI G args s below z0 u0) G p l e s m args below meth c 3 z0 u0 2 (lpn F_Md_with n (0, v0R, v1I, 0, σ)) 0 [(0, .ref v0R), (1, .int v1I)] [] σ) ∧
  (∀ (s0I : Int32) (σ : AM), VX (QM eI G args s below z0 u0) G p l e s m args below meth c 3 z0 u0 2 (lpn F_Md_with n (1, 0, 0, s0I, σ)) 24 [] [.int s0I] σ)
set_option maxRecDepth 20000 in
theorem s_Md_with_0 {G : GX} {p : Program} {l : Launch} {e : Env} {s : State} {m : MethodId} {args : Array Value} {below : List Frame} {meth : Method} {c : Code} {z0 u0 n : Nat} (C : Cx G p s m args meth c prog_14_method_99_code 2 "BellPlateModel" ((some FieldType.int))) (IH : I_Md_with G p l e s m args below meth c z0 u0 n) (v0R : Nat) (v1I : Int32) (σ : AM) : VX (QM eI G args s below z0 u0) G p l e s m args below meth c 3 z0 u0 2 (lpK (lpn F_Md_with n) (T_Md_with_0 v0R v1I σ)) 0 [(0, .ref v0R), (1, .int v1I)] [] σ := by
  unfold T_Md_with_0
  refine x_aload_n C d_Md_with_0 0 rfl ?_
  refine x_iconst (v := (0 : Int32)) C d_Md_with_1 (by decide) ?_
  refine x_gd (fun h1 => ?_)
  refine x_putI (k := 0) C (okO_iff.mp h1) rfl j11_ok y11_ok n11_ok (by decide) rfl rfl rfl rfl w1852 d_Md_with_2 ?_
  refine x_letS (fun σ2 e3 => ?_)
  refine x_iload_n C d_Md_with_5 1 rfl ?_
  refine x_iconst (v := (0 : Int32)) C d_Md_with_6 (by decide) ?_
  refine x_bipush (v := (60 : Int32)) C d_Md_with_7 (by decide) ?_
  refine x_callSI (As := [.int v1I, .int (0 : Int32), .int (60 : Int32)]) C (c_Md_within G l v1I (0 : Int32) (60 : Int32) σ2) w2205 w2204 w2206 w134 k_Md_within rfl (by decide) (by decide) rfl (Nat.le_of_ble_eq_true rfl) d_Md_with_9 (fun r4 σ5 => ?_)
  refine x_if_eq (tgt := 23) C d_Md_with_12 (by decide) (fun _ => ?_) (fun _ => ?_)
  · refine x_iconst (v := ((-1) : Int32)) C d_Md_with_23 (by decide) ?_
    refine x_lv [] rfl ?_
    exact IH.2 (((-1) : Int32)) (σ5)
  · refine x_aload_n C d_Md_with_15 0 rfl ?_
    refine x_iload_n C d_Md_with_16 1 rfl ?_
    refine x_gd (fun h8 => ?_)
    refine x_callVI (As := [.int v1I]) C (c_Md_withWrong G l v0R v1I σ5) (okO_iff.mp h8) rfl w2403 w112 w2401 w2404 w134 k_Md_withWrong rfl (by decide) (by decide) rfl (Nat.le_of_ble_eq_true rfl) d_Md_with_17 (fun r6 σ7 => ?_)
    refine x_goto (tgt := 24) C d_Md_with_20 (by decide) ?_
    refine x_lv [] rfl ?_
    exact IH.2 r6 (σ7)
set_option maxRecDepth 20000 in
theorem s_Md_with_1 {G : GX} {p : Program} {l : Launch} {e : Env} {s : State} {m : MethodId} {args : Array Value} {below : List Frame} {meth : Method} {c : Code} {z0 u0 n : Nat} (C : Cx G p s m args meth c prog_14_method_99_code 2 "BellPlateModel" ((some FieldType.int))) (IH : I_Md_with G p l e s m args below meth c z0 u0 n) (s0I : Int32) (σ : AM) : VX (QM eI G args s below z0 u0) G p l e s m args below meth c 3 z0 u0 2 (lpK (lpn F_Md_with n) (T_Md_with_1 s0I σ)) 24 [] [.int s0I] σ := by
  unfold T_Md_with_1
  exact x_iret C d_Md_with_24
theorem i_Md_with {G : GX} {p : Program} {l : Launch} {e : Env} {s : State} {m : MethodId} {args : Array Value} {below : List Frame} {meth : Method} {c : Code} {z0 u0 : Nat} (C : Cx G p s m args meth c prog_14_method_99_code 2 "BellPlateModel" ((some FieldType.int))) (n : Nat) : I_Md_with G p l e s m args below meth c z0 u0 n := by
  induction n with
  | zero => exact ⟨fun _ _ _ => x_none, fun _ _ => x_none⟩
  | succ n IH => exact ⟨fun v0R v1I σ => s_Md_with_0 C IH v0R v1I σ, fun s0I σ => s_Md_with_1 C IH s0I σ⟩
theorem c_Md_with (G : GX) (l : Launch) (v0R : Nat) (v1I : Int32) (σ : AM) : CT eI G l 3 y_Md_with prog_14_method_99_code 2 ((some FieldType.int)) [.ref v0R, .int v1I] σ (M_Md_with v0R v1I σ) := by
  refine ct_of (by decide +kernel) (Nat.le_of_ble_eq_true rfl) (fun p e s m args below meth c C hin => ?_)
  refine x_lve (lv' := [(0, .ref v0R), (1, .int v1I)]) rfl ?_
  intro r σ' h
  obtain ⟨n, hn⟩ := (lp_iff _ _ _).mp h
  exact (i_Md_with C n).1 v0R v1I σ r σ' hn
/-! BellPlateModel.suspect(I)I -/
abbrev y_Md_suspect : MethodName := ⟨"BellPlateModel", "suspect", "(I)I"⟩
theorem k_Md_suspect : y_Md_suspect.cls ≠ "java/lang/invoke/MethodHandle" ∧ y_Md_suspect.cls ≠ "java/lang/invoke/VarHandle" ∧ (parseMethodDescriptor y_Md_suspect.desc).map (fun d => d.parameters.length) = some 1 := by decide +kernel
theorem d_Md_suspect_0 : decode prog_14_method_100_code 0 = .ok (.aload_n 0, 1) := by decide +kernel
theorem d_Md_suspect_1 : decode prog_14_method_100_code 1 = .ok (.iconst 0, 1) := by decide +kernel
theorem d_Md_suspect_2 : decode prog_14_method_100_code 2 = .ok (.putfield 1, 3) := by decide +kernel
theorem d_Md_suspect_5 : decode prog_14_method_100_code 5 = .ok (.aload_n 0, 1) := by decide +kernel
theorem d_Md_suspect_6 : decode prog_14_method_100_code 6 = .ok (.invokevirtual 501, 3) := by decide +kernel
theorem d_Md_suspect_9 : decode prog_14_method_100_code 9 = .ok (.istore_n 2, 1) := by decide +kernel
theorem d_Md_suspect_10 : decode prog_14_method_100_code 10 = .ok (.iload_n 1, 1) := by decide +kernel
theorem d_Md_suspect_11 : decode prog_14_method_100_code 11 = .ok (.ifCond .lt 15, 3) := by decide +kernel
theorem d_Md_suspect_14 : decode prog_14_method_100_code 14 = .ok (.iload_n 1, 1) := by decide +kernel
theorem d_Md_suspect_15 : decode prog_14_method_100_code 15 = .ok (.aload_n 0, 1) := by decide +kernel
theorem d_Md_suspect_16 : decode prog_14_method_100_code 16 = .ok (.getfield 245, 3) := by decide +kernel
theorem d_Md_suspect_19 : decode prog_14_method_100_code 19 = .ok (.if_icmp .ge 7, 3) := by decide +kernel
theorem d_Md_suspect_22 : decode prog_14_method_100_code 22 = .ok (.iload_n 2, 1) := by decide +kernel
theorem d_Md_suspect_23 : decode prog_14_method_100_code 23 = .ok (.ifCond .ge 5, 3) := by decide +kernel
theorem d_Md_suspect_26 : decode prog_14_method_100_code 26 = .ok (.iconst (-1), 1) := by decide +kernel
theorem d_Md_suspect_27 : decode prog_14_method_100_code 27 = .ok (.ireturn, 1) := by decide +kernel
theorem d_Md_suspect_28 : decode prog_14_method_100_code 28 = .ok (.iconst 1, 1) := by decide +kernel
theorem d_Md_suspect_29 : decode prog_14_method_100_code 29 = .ok (.istore_n 3, 1) := by decide +kernel
theorem d_Md_suspect_30 : decode prog_14_method_100_code 30 = .ok (.iconst 0, 1) := by decide +kernel
theorem d_Md_suspect_31 : decode prog_14_method_100_code 31 = .ok (.istore 4, 2) := by decide +kernel
theorem d_Md_suspect_33 : decode prog_14_method_100_code 33 = .ok (.iload 4, 2) := by decide +kernel
theorem d_Md_suspect_35 : decode prog_14_method_100_code 35 = .ok (.aload_n 0, 1) := by decide +kernel
theorem d_Md_suspect_36 : decode prog_14_method_100_code 36 = .ok (.getfield 316, 3) := by decide +kernel
theorem d_Md_suspect_39 : decode prog_14_method_100_code 39 = .ok (.if_icmp .ge 59, 3) := by decide +kernel
theorem d_Md_suspect_42 : decode prog_14_method_100_code 42 = .ok (.iload_n 3, 1) := by decide +kernel
theorem d_Md_suspect_43 : decode prog_14_method_100_code 43 = .ok (.ifCond .eq 47, 3) := by decide +kernel
theorem d_Md_suspect_46 : decode prog_14_method_100_code 46 = .ok (.aload_n 0, 1) := by decide +kernel
theorem d_Md_suspect_47 : decode prog_14_method_100_code 47 = .ok (.aload_n 0, 1) := by decide +kernel
theorem d_Md_suspect_48 : decode prog_14_method_100_code 48 = .ok (.getfield 82, 3) := by decide +kernel
theorem d_Md_suspect_51 : decode prog_14_method_100_code 51 = .ok (.iload 4, 2) := by decide +kernel
theorem d_Md_suspect_53 : decode prog_14_method_100_code 53 = .ok (.laload, 1) := by decide +kernel
theorem d_Md_suspect_54 : decode prog_14_method_100_code 54 = .ok (.invokevirtual 498, 3) := by decide +kernel
theorem d_Md_suspect_57 : decode prog_14_method_100_code 57 = .ok (.iload_n 2, 1) := by decide +kernel
theorem d_Md_suspect_58 : decode prog_14_method_100_code 58 = .ok (.if_icmp .gt 28, 3) := by decide +kernel
theorem d_Md_suspect_61 : decode prog_14_method_100_code 61 = .ok (.aload_n 0, 1) := by decide +kernel
theorem d_Md_suspect_62 : decode prog_14_method_100_code 62 = .ok (.getfield 82, 3) := by decide +kernel
theorem d_Md_suspect_65 : decode prog_14_method_100_code 65 = .ok (.iload 4, 2) := by decide +kernel
theorem d_Md_suspect_67 : decode prog_14_method_100_code 67 = .ok (.laload, 1) := by decide +kernel
theorem d_Md_suspect_68 : decode prog_14_method_100_code 68 = .ok (.aload_n 0, 1) := by decide +kernel
theorem d_Md_suspect_69 : decode prog_14_method_100_code 69 = .ok (.getfield 104, 3) := by decide +kernel
theorem d_Md_suspect_72 : decode prog_14_method_100_code 72 = .ok (.iload_n 1, 1) := by decide +kernel
theorem d_Md_suspect_73 : decode prog_14_method_100_code 73 = .ok (.iaload, 1) := by decide +kernel
theorem d_Md_suspect_74 : decode prog_14_method_100_code 74 = .ok (.invokestatic 357, 3) := by decide +kernel
theorem d_Md_suspect_77 : decode prog_14_method_100_code 77 = .ok (.aload_n 0, 1) := by decide +kernel
theorem d_Md_suspect_78 : decode prog_14_method_100_code 78 = .ok (.getfield 107, 3) := by decide +kernel
theorem d_Md_suspect_81 : decode prog_14_method_100_code 81 = .ok (.iload_n 1, 1) := by decide +kernel
theorem d_Md_suspect_82 : decode prog_14_method_100_code 82 = .ok (.baload, 1) := by decide +kernel
theorem d_Md_suspect_83 : decode prog_14_method_100_code 83 = .ok (.if_icmp .eq 7, 3) := by decide +kernel
theorem d_Md_suspect_86 : decode prog_14_method_100_code 86 = .ok (.iconst 1, 1) := by decide +kernel
theorem d_Md_suspect_87 : decode prog_14_method_100_code 87 = .ok (.goto 4, 3) := by decide +kernel
theorem d_Md_suspect_90 : decode prog_14_method_100_code 90 = .ok (.iconst 0, 1) := by decide +kernel
theorem d_Md_suspect_91 : decode prog_14_method_100_code 91 = .ok (.istore_n 3, 1) := by decide +kernel
theorem d_Md_suspect_92 : decode prog_14_method_100_code 92 = .ok (.iinc 4 1, 3) := by decide +kernel
theorem d_Md_suspect_95 : decode prog_14_method_100_code 95 = .ok (.goto (-62), 3) := by decide +kernel
theorem d_Md_suspect_98 : decode prog_14_method_100_code 98 = .ok (.iload_n 3, 1) := by decide +kernel
theorem d_Md_suspect_99 : decode prog_14_method_100_code 99 = .ok (.ifCond .eq 7, 3) := by decide +kernel
theorem d_Md_suspect_102 : decode prog_14_method_100_code 102 = .ok (.iconst 1, 1) := by decide +kernel
theorem d_Md_suspect_103 : decode prog_14_method_100_code 103 = .ok (.goto 4, 3) := by decide +kernel
theorem d_Md_suspect_106 : decode prog_14_method_100_code 106 = .ok (.iconst 0, 1) := by decide +kernel
theorem d_Md_suspect_107 : decode prog_14_method_100_code 107 = .ok (.ireturn, 1) := by decide +kernel
abbrev S_Md_suspect : Type := Nat × Nat × Int32 × Int32 × Int32 × Int32 × Int32 × AM
noncomputable def T_Md_suspect_0 (v0R : Nat) (v1I : Int32) (σ : AM) : S_Md_suspect ⊕ Option (Int32 × AM) :=
  gdT (okO σ v0R 12) <| letT (sI σ v0R 0 (0 : Int32)) fun σ2 => bndT (M_Md_fewestWrong v0R σ2) fun r4 σ5 => if v1I < 0 then (.inl (1, 0, 0, 0, 0, 0, 0, σ5)) else (gdT (okO σ5 v0R 12) <| if v1I < (aI σ5 v0R 37) then (if r4 < 0 then (.inl (1, 0, 0, 0, 0, 0, 0, σ5)) else (.inl (2, v0R, v1I, r4, (1 : Int32), (0 : Int32), 0, σ5))) else (.inl (1, 0, 0, 0, 0, 0, 0, σ5)))
noncomputable def T_Md_suspect_1  (σ : AM) : S_Md_suspect ⊕ Option (Int32 × AM) :=
  .inr (some (((-1) : Int32), σ))
noncomputable def T_Md_suspect_2 (v0R : Nat) (v1I : Int32) (v2I : Int32) (v3I : Int32) (v4I : Int32) (σ : AM) : S_Md_suspect ⊕ Option (Int32 × AM) :=
  gdT (okO σ v0R 12) <| if v4I < (aI σ v0R 29) then (if v3I = 0 then (.inl (4, v0R, v1I, v2I, 0, v4I, 0, σ)) else (gdT (okO σ (aR σ v0R 30) 102) <| gdT (inB v4I (aN σ (aR σ v0R 30))) <| bndT (M_Md_wrongOf v0R (aL σ (aR σ v0R 30) v4I.toNatClampNeg) σ) fun r4 σ5 => if v2I < r4 then (.inl (3, v0R, v1I, v2I, 0, v4I, 0, σ5)) else (gdT (okO σ5 v0R 12) <| gdT (okO σ5 (aR σ5 v0R 30) 102) <| gdT (inB v4I (aN σ5 (aR σ5 v0R 30))) <| gdT (okO σ5 (aR σ5 v0R 38) 101) <| gdT (inB v1I (aN σ5 (aR σ5 v0R 38))) <| bndT (M_Md_doesRing (aL σ5 (aR σ5 v0R 30) v4I.toNatClampNeg) (aI σ5 (aR σ5 v0R 38) v1I.toNatClampNeg) σ5) fun r11 σ12 => gdT (okO σ12 v0R 12) <| gdT (okO σ12 (aR σ12 v0R 39) 103) <| gdT (inB v1I (aN σ12 (aR σ12 v0R 39))) <| if r11 = (aI σ12 (aR σ12 v0R 39) v1I.toNatClampNeg) then (.inl (4, v0R, v1I, v2I, 0, v4I, 0, σ12)) else (.inl (3, v0R, v1I, v2I, 0, v4I, 0, σ12))))) else (if v3I = 0 then (.inl (6, 0, 0, 0, 0, 0, (0 : Int32), σ)) else (.inl (6, 0, 0, 0, 0, 0, (1 : Int32), σ)))
noncomputable def T_Md_suspect_3 (v0R : Nat) (v1I : Int32) (v2I : Int32) (v4I : Int32) (σ : AM) : S_Md_suspect ⊕ Option (Int32 × AM) :=
  .inl (5, v0R, v1I, v2I, 0, v4I, (1 : Int32), σ)
noncomputable def T_Md_suspect_4 (v0R : Nat) (v1I : Int32) (v2I : Int32) (v4I : Int32) (σ : AM) : S_Md_suspect ⊕ Option (Int32 × AM) :=
  .inl (5, v0R, v1I, v2I, 0, v4I, (0 : Int32), σ)
noncomputable def T_Md_suspect_5 (v0R : Nat) (v1I : Int32) (v2I : Int32) (v4I : Int32) (s0I : Int32) (σ : AM) : S_Md_suspect ⊕ Option (Int32 × AM) :=
  .inl (2, v0R, v1I, v2I, s0I, v4I + (1 : Int32), 0, σ)
noncomputable def T_Md_suspect_6 (s0I : Int32) (σ : AM) : S_Md_suspect ⊕ Option (Int32 × AM) :=
  .inr (some (s0I, σ))
noncomputable def F_Md_suspect : S_Md_suspect → S_Md_suspect ⊕ Option (Int32 × AM) := fun s => match s.1 with
  | 0 => T_Md_suspect_0 (s.2.1) (s.2.2.1) (s.2.2.2.2.2.2.2)
  | 1 => T_Md_suspect_1  (s.2.2.2.2.2.2.2)
  | 2 => T_Md_suspect_2 (s.2.1) (s.2.2.1) (s.2.2.2.1) (s.2.2.2.2.1) (s.2.2.2.2.2.1) (s.2.2.2.2.2.2.2)
  | 3 => T_Md_suspect_3 (s.2.1) (s.2.2.1) (s.2.2.2.1) (s.2.2.2.2.2.1) (s.2.2.2.2.2.2.2)
  | 4 => T_Md_suspect_4 (s.2.1) (s.2.2.1) (s.2.2.2.1) (s.2.2.2.2.2.1) (s.2.2.2.2.2.2.2)
  | 5 => T_Md_suspect_5 (s.2.1) (s.2.2.1) (s.2.2.2.1) (s.2.2.2.2.2.1) (s.2.2.2.2.2.2.1) (s.2.2.2.2.2.2.2)
  | _ => T_Md_suspect_6 (s.2.2.2.2.2.2.1) (s.2.2.2.2.2.2.2)
noncomputable def L_Md_suspect_0 (v0R : Nat) (v1I : Int32) (σ : AM) : Option (Int32 × AM) := lp F_Md_suspect (0, v0R, v1I, 0, 0, 0, 0, σ)
noncomputable def L_Md_suspect_1  (σ : AM) : Option (Int32 × AM) := lp F_Md_suspect (1, 0, 0, 0, 0, 0, 0, σ)
noncomputable def L_Md_suspect_2 (v0R : Nat) (v1I : Int32) (v2I : Int32) (v3I : Int32) (v4I : Int32) (σ : AM) : Option (Int32 × AM) := lp F_Md_suspect (2, v0R, v1I, v2I, v3I, v4I, 0, σ)
noncomputable def L_Md_suspect_3 (v0R : Nat) (v1I : Int32) (v2I : Int32) (v4I : Int32) (σ : AM) : Option (Int32 × AM) := lp F_Md_suspect (3, v0R, v1I, v2I, 0, v4I, 0, σ)
noncomputable def L_Md_suspect_4 (v0R : Nat) (v1I : Int32) (v2I : Int32) (v4I : Int32) (σ : AM) : Option (Int32 × AM) := lp F_Md_suspect (4, v0R, v1I, v2I, 0, v4I, 0, σ)
noncomputable def L_Md_suspect_5 (v0R : Nat) (v1I : Int32) (v2I : Int32) (v4I : Int32) (s0I : Int32) (σ : AM) : Option (Int32 × AM) := lp F_Md_suspect (5, v0R, v1I, v2I, 0, v4I, s0I, σ)
noncomputable def L_Md_suspect_6 (s0I : Int32) (σ : AM) : Option (Int32 × AM) := lp F_Md_suspect (6, 0, 0, 0, 0, 0, s0I, σ)
set_option maxRecDepth 20000 in
theorem E_Md_suspect_0 (v0R : Nat) (v1I : Int32) (σ : AM) : L_Md_suspect_0 v0R v1I σ = (gd (okO σ v0R 12) <| letT (sI σ v0R 0 (0 : Int32)) fun σ2 => bnd (M_Md_fewestWrong v0R σ2) fun r4 σ5 => if v1I < 0 then (L_Md_suspect_1 σ5) else (gd (okO σ5 v0R 12) <| if v1I < (aI σ5 v0R 37) then (if r4 < 0 then (L_Md_suspect_1 σ5) else (L_Md_suspect_2 v0R v1I r4 ((1 : Int32)) ((0 : Int32)) σ5)) else (L_Md_suspect_1 σ5))) := by
  unfold L_Md_suspect_0
  rw [lp_eq]
  show lpK (lp F_Md_suspect) (T_Md_suspect_0 v0R v1I σ) = _
  unfold T_Md_suspect_0
  simp only [lpK_ite, lq_inl, lq_inr, lpK_bnd, lpK_gd, lq_let]
  try rfl
set_option maxRecDepth 20000 in
theorem E_Md_suspect_1  (σ : AM) : L_Md_suspect_1  σ = ((some (((-1) : Int32), σ))) := by
  unfold L_Md_suspect_1
  rw [lp_eq]
  show lpK (lp F_Md_suspect) (T_Md_suspect_1  σ) = _
  unfold T_Md_suspect_1
  simp only [lpK_ite, lq_inl, lq_inr, lpK_bnd, lpK_gd, lq_let]
  try rfl
set_option maxRecDepth 20000 in
theorem E_Md_suspect_2 (v0R : Nat) (v1I : Int32) (v2I : Int32) (v3I : Int32) (v4I : Int32) (σ : AM) : L_Md_suspect_2 v0R v1I v2I v3I v4I σ = (gd (okO σ v0R 12) <| if v4I < (aI σ v0R 29) then (if v3I = 0 then (L_Md_suspect_4 v0R v1I v2I v4I σ) else (gd (okO σ (aR σ v0R 30) 102) <| gd (inB v4I (aN σ (aR σ v0R 30))) <| bnd (M_Md_wrongOf v0R (aL σ (aR σ v0R 30) v4I.toNatClampNeg) σ) fun r4 σ5 => if v2I < r4 then (L_Md_suspect_3 v0R v1I v2I v4I σ5) else (gd (okO σ5 v0R 12) <| gd (okO σ5 (aR σ5 v0R 30) 102) <| gd (inB v4I (aN σ5 (aR σ5 v0R 30))) <| gd (okO σ5 (aR σ5 v0R 38) 101) <| gd (inB v1I (aN σ5 (aR σ5 v0R 38))) <| bnd (M_Md_doesRing (aL σ5 (aR σ5 v0R 30) v4I.toNatClampNeg) (aI σ5 (aR σ5 v0R 38) v1I.toNatClampNeg) σ5) fun r11 σ12 => gd (okO σ12 v0R 12) <| gd (okO σ12 (aR σ12 v0R 39) 103) <| gd (inB v1I (aN σ12 (aR σ12 v0R 39))) <| if r11 = (aI σ12 (aR σ12 v0R 39) v1I.toNatClampNeg) then (L_Md_suspect_4 v0R v1I v2I v4I σ12) else (L_Md_suspect_3 v0R v1I v2I v4I σ12)))) else (if v3I = 0 then (L_Md_suspect_6 ((0 : Int32)) σ) else (L_Md_suspect_6 ((1 : Int32)) σ))) := by
  unfold L_Md_suspect_2
  rw [lp_eq]
  show lpK (lp F_Md_suspect) (T_Md_suspect_2 v0R v1I v2I v3I v4I σ) = _
  unfold T_Md_suspect_2
  simp only [lpK_ite, lq_inl, lq_inr, lpK_bnd, lpK_gd, lq_let]
  try rfl
set_option maxRecDepth 20000 in
theorem E_Md_suspect_3 (v0R : Nat) (v1I : Int32) (v2I : Int32) (v4I : Int32) (σ : AM) : L_Md_suspect_3 v0R v1I v2I v4I σ = (L_Md_suspect_5 v0R v1I v2I v4I ((1 : Int32)) σ) := by
  unfold L_Md_suspect_3
  rw [lp_eq]
  show lpK (lp F_Md_suspect) (T_Md_suspect_3 v0R v1I v2I v4I σ) = _
  unfold T_Md_suspect_3
  simp only [lpK_ite, lq_inl, lq_inr, lpK_bnd, lpK_gd, lq_let]
  try rfl
set_option maxRecDepth 20000 in
theorem E_Md_suspect_4 (v0R : Nat) (v1I : Int32) (v2I : Int32) (v4I : Int32) (σ : AM) : L_Md_suspect_4 v0R v1I v2I v4I σ = (L_Md_suspect_5 v0R v1I v2I v4I ((0 : Int32)) σ) := by
  unfold L_Md_suspect_4
  rw [lp_eq]
  show lpK (lp F_Md_suspect) (T_Md_suspect_4 v0R v1I v2I v4I σ) = _
  unfold T_Md_suspect_4
  simp only [lpK_ite, lq_inl, lq_inr, lpK_bnd, lpK_gd, lq_let]
  try rfl
set_option maxRecDepth 20000 in
theorem E_Md_suspect_5 (v0R : Nat) (v1I : Int32) (v2I : Int32) (v4I : Int32) (s0I : Int32) (σ : AM) : L_Md_suspect_5 v0R v1I v2I v4I s0I σ = (L_Md_suspect_2 v0R v1I v2I s0I (v4I + (1 : Int32)) σ) := by
  unfold L_Md_suspect_5
  rw [lp_eq]
  show lpK (lp F_Md_suspect) (T_Md_suspect_5 v0R v1I v2I v4I s0I σ) = _
  unfold T_Md_suspect_5
  simp only [lpK_ite, lq_inl, lq_inr, lpK_bnd, lpK_gd, lq_let]
  try rfl
set_option maxRecDepth 20000 in
theorem E_Md_suspect_6 (s0I : Int32) (σ : AM) : L_Md_suspect_6 s0I σ = ((some (s0I, σ))) := by
  unfold L_Md_suspect_6
  rw [lp_eq]
  show lpK (lp F_Md_suspect) (T_Md_suspect_6 s0I σ) = _
  unfold T_Md_suspect_6
  simp only [lpK_ite, lq_inl, lq_inr, lpK_bnd, lpK_gd, lq_let]
  try rfl
noncomputable def M_Md_suspect (v0R : Nat) (v1I : Int32) (σ : AM) : Option (Int32 × AM) := mw σ (L_Md_suspect_0 v0R v1I σ)
def I_Md_suspect (G : GX) (p : Program) (l : Launch) (e : Env) (s : State) (m : MethodId) (args : Array Value) (below : List Frame) (meth : Method) (c : Code) (z0 u0 n : Nat) : Prop :=
  (∀ (v0R : Nat) (v1I : Int32) (σ : AM), VX (QM eI G args s below z0 u0) G p l e s m args below meth c 3 z0 u0 5 (lpn F_Md_suspect n (0, v0R, v1I, 0, 0, 0, 0, σ)) 0 [(0, .ref v0R), (1, .int v1I)] [] σ) ∧
  (∀ (σ : AM), VX (QM eI G args s below z0 u0) G p l e s m args below meth c 3 z0 u0 5 (lpn F_Md_suspect n (1, 0, 0, 0, 0, 0, 0, σ)) 26 [] [] σ) ∧
  (∀ (v0R : Nat) (v1I : Int32) (v2I : Int32) (v3I : Int32) (v4I : Int32) (σ : AM), VX (QM eI G args s below z0 u0) G p l e s m args below meth c 3 z0 u0 5 (lpn F_Md_suspect n (2, v0R, v1I, v2I, v3I, v4I, 0, σ)) 33 [(0, .ref v0R), (1, .int v1I), (2, .int v2I), (3, .int v3I), (4, .int v4I)] [] σ) ∧
  (∀ (v0R : Nat) (v1I : Int32) (v2I : Int32) (v4I : Int32) (σ : AM), VX (QM eI G args s below z0 u0) G p l e s m args below meth c 3 z0 u0 5 (lpn F_Md_suspect n (3, v0R, v1I, v2I, 0, v4I, 0, σ)) 86 [(0, .ref v0R), (1, .int v1I), (2, .int v2I), (4, .int v4I)] [] σ) ∧
  (∀ (v0R : Nat) (v1I : Int32) (v2I : Int32) (v4I : Int32) (σ : AM), VX (QM eI G args s below z0 u0) G p l e s m args below meth c 3 z0 u0 5 (lpn F_Md_suspect n (4, v0R, v1I, v2I, 0, v4I, 0, σ)) 90 [(0, .ref v0R), (1, .int v1I), (2, .int v2I), (4, .int v4I)] [] σ) ∧
  (∀ (v0R : Nat) (v1I : Int32) (v2I : Int32) (v4I : Int32) (s0I : Int32) (σ : AM), VX (QM eI G args s below z0 u0) G p l e s m args below meth c 3 z0 u0 5 (lpn F_Md_suspect n (5, v0R, v1I, v2I, 0, v4I, s0I, σ)) 91 [(0, .ref v0R), (1, .int v1I), (2, .int v2I), (4, .int v4I)] [.int s0I] σ) ∧
  (∀ (s0I : Int32) (σ : AM), VX (QM eI G args s below z0 u0) G p l e s m args below meth c 3 z0 u0 5 (lpn F_Md_suspect n (6, 0, 0, 0, 0, 0, s0I, σ)) 107 [] [.int s0I] σ)
set_option maxRecDepth 20000 in
theorem s_Md_suspect_0 {G : GX} {p : Program} {l : Launch} {e : Env} {s : State} {m : MethodId} {args : Array Value} {below : List Frame} {meth : Method} {c : Code} {z0 u0 n : Nat} (C : Cx G p s m args meth c prog_14_method_100_code 5 "BellPlateModel" ((some FieldType.int))) (IH : I_Md_suspect G p l e s m args below meth c z0 u0 n) (v0R : Nat) (v1I : Int32) (σ : AM) : VX (QM eI G args s below z0 u0) G p l e s m args below meth c 3 z0 u0 5 (lpK (lpn F_Md_suspect n) (T_Md_suspect_0 v0R v1I σ)) 0 [(0, .ref v0R), (1, .int v1I)] [] σ := by
  unfold T_Md_suspect_0
  refine x_aload_n C d_Md_suspect_0 0 rfl ?_
  refine x_iconst (v := (0 : Int32)) C d_Md_suspect_1 (by decide) ?_
  refine x_gd (fun h1 => ?_)
  refine x_putI (k := 0) C (okO_iff.mp h1) rfl j11_ok y11_ok n11_ok (by decide) rfl rfl rfl rfl w1852 d_Md_suspect_2 ?_
  refine x_letS (fun σ2 e3 => ?_)
  refine x_aload_n C d_Md_suspect_5 0 rfl ?_
  refine x_callVI (As := []) C (c_Md_fewestWrong G l v0R  σ2) (by first | exact (okO_iff.mp h1) | (rw [e3]; exact (okO_iff.mp h1))) rfl w2395 w110 w2393 w2396 w134 k_Md_fewestWrong rfl (by decide) (by decide) rfl (Nat.le_of_ble_eq_true rfl) d_Md_suspect_6 (fun r4 σ5 => ?_)
  refine x_istore_n (lv' := [(2, .int r4), (0, .ref v0R), (1, .int v1I)]) C d_Md_suspect_9 (by decide) rfl rfl ?_
  refine x_iload_n C d_Md_suspect_10 2 rfl ?_
  refine x_if_lt (tgt := 26) C d_Md_suspect_11 (by decide) (fun _ => ?_) (fun _ => ?_)
  · refine x_lv [] rfl ?_
    exact IH.2.1  (σ5)
  · refine x_iload_n C d_Md_suspect_14 2 rfl ?_
    refine x_aload_n C d_Md_suspect_15 1 rfl ?_
    refine x_gd (fun h6 => ?_)
    refine x_getI (k := 37) C (okO_iff.mp h6) rfl j11_ok (by decide) rfl w1889 d_Md_suspect_16 ?_
    refine x_icmp_ge (tgt := 26) C d_Md_suspect_19 (by decide) (fun _ => ?_) (fun _ => ?_)
    · refine x_iload_n C d_Md_suspect_22 0 rfl ?_
      refine x_if_ge (tgt := 28) C d_Md_suspect_23 (by decide) (fun _ => ?_) (fun _ => ?_)
      · refine x_lv [] rfl ?_
        exact IH.2.1  (σ5)
      · refine x_iconst (v := (1 : Int32)) C d_Md_suspect_28 (by decide) ?_
        refine x_istore_n (lv' := [(3, .int (1 : Int32)), (2, .int r4), (0, .ref v0R), (1, .int v1I)]) C d_Md_suspect_29 (by decide) rfl rfl ?_
        refine x_iconst (v := (0 : Int32)) C d_Md_suspect_30 (by decide) ?_
        refine x_istore (lv' := [(4, .int (0 : Int32)), (3, .int (1 : Int32)), (2, .int r4), (0, .ref v0R), (1, .int v1I)]) C d_Md_suspect_31 (by decide) rfl ?_
        refine x_lv [3, 4, 2, 1, 0] rfl ?_
        exact IH.2.2.1 v0R v1I r4 ((1 : Int32)) ((0 : Int32)) (σ5)
    · refine x_lv [] rfl ?_
      exact IH.2.1  (σ5)
set_option maxRecDepth 20000 in
theorem s_Md_suspect_1 {G : GX} {p : Program} {l : Launch} {e : Env} {s : State} {m : MethodId} {args : Array Value} {below : List Frame} {meth : Method} {c : Code} {z0 u0 n : Nat} (C : Cx G p s m args meth c prog_14_method_100_code 5 "BellPlateModel" ((some FieldType.int))) (IH : I_Md_suspect G p l e s m args below meth c z0 u0 n)  (σ : AM) : VX (QM eI G args s below z0 u0) G p l e s m args below meth c 3 z0 u0 5 (lpK (lpn F_Md_suspect n) (T_Md_suspect_1  σ)) 26 [] [] σ := by
  unfold T_Md_suspect_1
  refine x_iconst (v := ((-1) : Int32)) C d_Md_suspect_26 (by decide) ?_
  exact x_iret C d_Md_suspect_27
set_option maxRecDepth 20000 in
theorem s_Md_suspect_2 {G : GX} {p : Program} {l : Launch} {e : Env} {s : State} {m : MethodId} {args : Array Value} {below : List Frame} {meth : Method} {c : Code} {z0 u0 n : Nat} (C : Cx G p s m args meth c prog_14_method_100_code 5 "BellPlateModel" ((some FieldType.int))) (IH : I_Md_suspect G p l e s m args below meth c z0 u0 n) (v0R : Nat) (v1I : Int32) (v2I : Int32) (v3I : Int32) (v4I : Int32) (σ : AM) : VX (QM eI G args s below z0 u0) G p l e s m args below meth c 3 z0 u0 5 (lpK (lpn F_Md_suspect n) (T_Md_suspect_2 v0R v1I v2I v3I v4I σ)) 33 [(0, .ref v0R), (1, .int v1I), (2, .int v2I), (3, .int v3I), (4, .int v4I)] [] σ := by
  unfold T_Md_suspect_2
  refine x_iload C d_Md_suspect_33 4 rfl ?_
  refine x_aload_n C d_Md_suspect_35 0 rfl ?_
  refine x_gd (fun h1 => ?_)
  refine x_getI (k := 29) C (okO_iff.mp h1) rfl j11_ok (by decide) rfl w1881 d_Md_suspect_36 ?_
  refine x_icmp_ge (tgt := 98) C d_Md_suspect_39 (by decide) (fun _ => ?_) (fun _ => ?_)
  · refine x_iload_n C d_Md_suspect_42 3 rfl ?_
    refine x_if_eq (tgt := 90) C d_Md_suspect_43 (by decide) (fun _ => ?_) (fun _ => ?_)
    · refine x_lv [0, 1, 2, 4] rfl ?_
      exact IH.2.2.2.2.1 v0R v1I v2I v4I (σ)
    · refine x_aload_n C d_Md_suspect_46 0 rfl ?_
      refine x_aload_n C d_Md_suspect_47 0 rfl ?_
      refine x_gd (fun h2 => ?_)
      refine x_getR (k := 30) (kv := 102) C (okO_iff.mp h1) rfl j11_ok (by decide) rfl (okO_iff.mp h2) (by decide) w1882 d_Md_suspect_48 ?_
      refine x_iload C d_Md_suspect_51 4 rfl ?_
      refine x_gd (fun h3 => ?_)
      refine x_aldJ C (okO_iff.mp h2) (inB_iff.mp h3) d_Md_suspect_53 ?_
      refine x_callVI (As := [.long (aL σ (aR σ v0R 30) v4I.toNatClampNeg)]) C (c_Md_wrongOf G l v0R (aL σ (aR σ v0R 30) v4I.toNatClampNeg) σ) (okO_iff.mp h1) rfl w2399 w111 w2397 w2400 w134 k_Md_wrongOf rfl (by decide) (by decide) rfl (Nat.le_of_ble_eq_true rfl) d_Md_suspect_54 (fun r4 σ5 => ?_)
      refine x_iload_n C d_Md_suspect_57 2 rfl ?_
      refine x_icmp_gt (tgt := 86) C d_Md_suspect_58 (by decide) (fun _ => ?_) (fun _ => ?_)
      · refine x_lv [0, 1, 2, 4] rfl ?_
        exact IH.2.2.2.1 v0R v1I v2I v4I (σ5)
      · refine x_aload_n C d_Md_suspect_61 0 rfl ?_
        refine x_gd (fun h6 => ?_)
        refine x_gd (fun h7 => ?_)
        refine x_getR (k := 30) (kv := 102) C (okO_iff.mp h6) rfl j11_ok (by decide) rfl (okO_iff.mp h7) (by decide) w1882 d_Md_suspect_62 ?_
        refine x_iload C d_Md_suspect_65 4 rfl ?_
        refine x_gd (fun h8 => ?_)
        refine x_aldJ C (okO_iff.mp h7) (inB_iff.mp h8) d_Md_suspect_67 ?_
        refine x_aload_n C d_Md_suspect_68 0 rfl ?_
        refine x_gd (fun h9 => ?_)
        refine x_getR (k := 38) (kv := 101) C (okO_iff.mp h6) rfl j11_ok (by decide) rfl (okO_iff.mp h9) (by decide) w1890 d_Md_suspect_69 ?_
        refine x_iload_n C d_Md_suspect_72 1 rfl ?_
        refine x_gd (fun h10 => ?_)
        refine x_aldI C (okO_iff.mp h9) (inB_iff.mp h10) d_Md_suspect_73 ?_
        refine x_callSI (As := [.long (aL σ5 (aR σ5 v0R 30) v4I.toNatClampNeg), .int (aI σ5 (aR σ5 v0R 38) v1I.toNatClampNeg)]) C (c_Md_doesRing G l (aL σ5 (aR σ5 v0R 30) v4I.toNatClampNeg) (aI σ5 (aR σ5 v0R 38) v1I.toNatClampNeg) σ5) w2235 w2234 w2236 w134 k_Md_doesRing rfl (by decide) (by decide) rfl (Nat.le_of_ble_eq_true rfl) d_Md_suspect_74 (fun r11 σ12 => ?_)
        refine x_aload_n C d_Md_suspect_77 0 rfl ?_
        refine x_gd (fun h13 => ?_)
        refine x_gd (fun h14 => ?_)
        refine x_getR (k := 39) (kv := 103) C (okO_iff.mp h13) rfl j11_ok (by decide) rfl (okO_iff.mp h14) (by decide) w1891 d_Md_suspect_78 ?_
        refine x_iload_n C d_Md_suspect_81 1 rfl ?_
        refine x_gd (fun h15 => ?_)
        refine x_aldZ C (okO_iff.mp h14) (inB_iff.mp h15) d_Md_suspect_82 ?_
        refine x_icmp_eq (tgt := 90) C d_Md_suspect_83 (by decide) (fun _ => ?_) (fun _ => ?_)
        · refine x_lv [0, 1, 2, 4] rfl ?_
          exact IH.2.2.2.2.1 v0R v1I v2I v4I (σ12)
        · refine x_lv [0, 1, 2, 4] rfl ?_
          exact IH.2.2.2.1 v0R v1I v2I v4I (σ12)
  · refine x_iload_n C d_Md_suspect_98 3 rfl ?_
    refine x_if_eq (tgt := 106) C d_Md_suspect_99 (by decide) (fun _ => ?_) (fun _ => ?_)
    · refine x_iconst (v := (0 : Int32)) C d_Md_suspect_106 (by decide) ?_
      refine x_lv [] rfl ?_
      exact IH.2.2.2.2.2.2 ((0 : Int32)) (σ)
    · refine x_iconst (v := (1 : Int32)) C d_Md_suspect_102 (by decide) ?_
      refine x_goto (tgt := 107) C d_Md_suspect_103 (by decide) ?_
      refine x_lv [] rfl ?_
      exact IH.2.2.2.2.2.2 ((1 : Int32)) (σ)
set_option maxRecDepth 20000 in
theorem s_Md_suspect_3 {G : GX} {p : Program} {l : Launch} {e : Env} {s : State} {m : MethodId} {args : Array Value} {below : List Frame} {meth : Method} {c : Code} {z0 u0 n : Nat} (C : Cx G p s m args meth c prog_14_method_100_code 5 "BellPlateModel" ((some FieldType.int))) (IH : I_Md_suspect G p l e s m args below meth c z0 u0 n) (v0R : Nat) (v1I : Int32) (v2I : Int32) (v4I : Int32) (σ : AM) : VX (QM eI G args s below z0 u0) G p l e s m args below meth c 3 z0 u0 5 (lpK (lpn F_Md_suspect n) (T_Md_suspect_3 v0R v1I v2I v4I σ)) 86 [(0, .ref v0R), (1, .int v1I), (2, .int v2I), (4, .int v4I)] [] σ := by
  unfold T_Md_suspect_3
  refine x_iconst (v := (1 : Int32)) C d_Md_suspect_86 (by decide) ?_
  refine x_goto (tgt := 91) C d_Md_suspect_87 (by decide) ?_
  exact IH.2.2.2.2.2.1 v0R v1I v2I v4I ((1 : Int32)) (σ)
set_option maxRecDepth 20000 in
theorem s_Md_suspect_4 {G : GX} {p : Program} {l : Launch} {e : Env} {s : State} {m : MethodId} {args : Array Value} {below : List Frame} {meth : Method} {c : Code} {z0 u0 n : Nat} (C : Cx G p s m args meth c prog_14_method_100_code 5 "BellPlateModel" ((some FieldType.int))) (IH : I_Md_suspect G p l e s m args below meth c z0 u0 n) (v0R : Nat) (v1I : Int32) (v2I : Int32) (v4I : Int32) (σ : AM) : VX (QM eI G args s below z0 u0) G p l e s m args below meth c 3 z0 u0 5 (lpK (lpn F_Md_suspect n) (T_Md_suspect_4 v0R v1I v2I v4I σ)) 90 [(0, .ref v0R), (1, .int v1I), (2, .int v2I), (4, .int v4I)] [] σ := by
  unfold T_Md_suspect_4
  refine x_iconst (v := (0 : Int32)) C d_Md_suspect_90 (by decide) ?_
  exact IH.2.2.2.2.2.1 v0R v1I v2I v4I ((0 : Int32)) (σ)
set_option maxRecDepth 20000 in
theorem s_Md_suspect_5 {G : GX} {p : Program} {l : Launch} {e : Env} {s : State} {m : MethodId} {args : Array Value} {below : List Frame} {meth : Method} {c : Code} {z0 u0 n : Nat} (C : Cx G p s m args meth c prog_14_method_100_code 5 "BellPlateModel" ((some FieldType.int))) (IH : I_Md_suspect G p l e s m args below meth c z0 u0 n) (v0R : Nat) (v1I : Int32) (v2I : Int32) (v4I : Int32) (s0I : Int32) (σ : AM) : VX (QM eI G args s below z0 u0) G p l e s m args below meth c 3 z0 u0 5 (lpK (lpn F_Md_suspect n) (T_Md_suspect_5 v0R v1I v2I v4I s0I σ)) 91 [(0, .ref v0R), (1, .int v1I), (2, .int v2I), (4, .int v4I)] [.int s0I] σ := by
  unfold T_Md_suspect_5
  refine x_istore_n (lv' := [(3, .int s0I), (0, .ref v0R), (1, .int v1I), (2, .int v2I), (4, .int v4I)]) C d_Md_suspect_91 (by decide) rfl rfl ?_
  refine x_iinc (v := v4I + (1 : Int32)) (lv' := [(4, .int (v4I + (1 : Int32))), (3, .int s0I), (0, .ref v0R), (1, .int v1I), (2, .int v2I)]) C d_Md_suspect_92 4 rfl rfl (by decide) rfl ?_
  refine x_goto (tgt := 33) C d_Md_suspect_95 (by decide) ?_
  refine x_lv [2, 3, 4, 1, 0] rfl ?_
  exact IH.2.2.1 v0R v1I v2I s0I (v4I + (1 : Int32)) (σ)
set_option maxRecDepth 20000 in
theorem s_Md_suspect_6 {G : GX} {p : Program} {l : Launch} {e : Env} {s : State} {m : MethodId} {args : Array Value} {below : List Frame} {meth : Method} {c : Code} {z0 u0 n : Nat} (C : Cx G p s m args meth c prog_14_method_100_code 5 "BellPlateModel" ((some FieldType.int))) (IH : I_Md_suspect G p l e s m args below meth c z0 u0 n) (s0I : Int32) (σ : AM) : VX (QM eI G args s below z0 u0) G p l e s m args below meth c 3 z0 u0 5 (lpK (lpn F_Md_suspect n) (T_Md_suspect_6 s0I σ)) 107 [] [.int s0I] σ := by
  unfold T_Md_suspect_6
  exact x_iret C d_Md_suspect_107
theorem i_Md_suspect {G : GX} {p : Program} {l : Launch} {e : Env} {s : State} {m : MethodId} {args : Array Value} {below : List Frame} {meth : Method} {c : Code} {z0 u0 : Nat} (C : Cx G p s m args meth c prog_14_method_100_code 5 "BellPlateModel" ((some FieldType.int))) (n : Nat) : I_Md_suspect G p l e s m args below meth c z0 u0 n := by
  induction n with
  | zero => exact ⟨fun _ _ _ => x_none, fun _ => x_none, fun _ _ _ _ _ _ => x_none, fun _ _ _ _ _ => x_none, fun _ _ _ _ _ => x_none, fun _ _ _ _ _ _ => x_none, fun _ _ => x_none⟩
  | succ n IH => exact ⟨fun v0R v1I σ => s_Md_suspect_0 C IH v0R v1I σ, fun σ => s_Md_suspect_1 C IH σ, fun v0R v1I v2I v3I v4I σ => s_Md_suspect_2 C IH v0R v1I v2I v3I v4I σ, fun v0R v1I v2I v4I σ => s_Md_suspect_3 C IH v0R v1I v2I v4I σ, fun v0R v1I v2I v4I σ => s_Md_suspect_4 C IH v0R v1I v2I v4I σ, fun v0R v1I v2I v4I s0I σ => s_Md_suspect_5 C IH v0R v1I v2I v4I s0I σ, fun s0I σ => s_Md_suspect_6 C IH s0I σ⟩
theorem c_Md_suspect (G : GX) (l : Launch) (v0R : Nat) (v1I : Int32) (σ : AM) : CT eI G l 3 y_Md_suspect prog_14_method_100_code 5 ((some FieldType.int)) [.ref v0R, .int v1I] σ (M_Md_suspect v0R v1I σ) := by
  refine ct_of (by decide +kernel) (Nat.le_of_ble_eq_true rfl) (fun p e s m args below meth c C hin => ?_)
  refine x_lve (lv' := [(0, .ref v0R), (1, .int v1I)]) rfl ?_
  intro r σ' h
  obtain ⟨n, hn⟩ := (lp_iff _ _ _).mp h
  exact (i_Md_suspect C n).1 v0R v1I σ r σ' hn
/-! BellPlateModel.firstWrong(J)I -/
abbrev y_Md_firstWrong : MethodName := ⟨"BellPlateModel", "firstWrong", "(J)I"⟩
theorem k_Md_firstWrong : y_Md_firstWrong.cls ≠ "java/lang/invoke/MethodHandle" ∧ y_Md_firstWrong.cls ≠ "java/lang/invoke/VarHandle" ∧ (parseMethodDescriptor y_Md_firstWrong.desc).map (fun d => d.parameters.length) = some 1 := by decide +kernel
theorem d_Md_firstWrong_0 : decode prog_14_method_101_code 0 = .ok (.iconst 0, 1) := by decide +kernel
theorem d_Md_firstWrong_1 : decode prog_14_method_101_code 1 = .ok (.istore_n 3, 1) := by decide +kernel
theorem d_Md_firstWrong_2 : decode prog_14_method_101_code 2 = .ok (.iload_n 3, 1) := by decide +kernel
theorem d_Md_firstWrong_3 : decode prog_14_method_101_code 3 = .ok (.aload_n 0, 1) := by decide +kernel
theorem d_Md_firstWrong_4 : decode prog_14_method_101_code 4 = .ok (.getfield 245, 3) := by decide +kernel
theorem d_Md_firstWrong_7 : decode prog_14_method_101_code 7 = .ok (.if_icmp .ge 28, 3) := by decide +kernel
theorem d_Md_firstWrong_10 : decode prog_14_method_101_code 10 = .ok (.lload_n 1, 1) := by decide +kernel
theorem d_Md_firstWrong_11 : decode prog_14_method_101_code 11 = .ok (.aload_n 0, 1) := by decide +kernel
theorem d_Md_firstWrong_12 : decode prog_14_method_101_code 12 = .ok (.getfield 104, 3) := by decide +kernel
theorem d_Md_firstWrong_15 : decode prog_14_method_101_code 15 = .ok (.iload_n 3, 1) := by decide +kernel
theorem d_Md_firstWrong_16 : decode prog_14_method_101_code 16 = .ok (.iaload, 1) := by decide +kernel
theorem d_Md_firstWrong_17 : decode prog_14_method_101_code 17 = .ok (.invokestatic 357, 3) := by decide +kernel
theorem d_Md_firstWrong_20 : decode prog_14_method_101_code 20 = .ok (.aload_n 0, 1) := by decide +kernel
theorem d_Md_firstWrong_21 : decode prog_14_method_101_code 21 = .ok (.getfield 107, 3) := by decide +kernel
theorem d_Md_firstWrong_24 : decode prog_14_method_101_code 24 = .ok (.iload_n 3, 1) := by decide +kernel
theorem d_Md_firstWrong_25 : decode prog_14_method_101_code 25 = .ok (.baload, 1) := by decide +kernel
theorem d_Md_firstWrong_26 : decode prog_14_method_101_code 26 = .ok (.if_icmp .ne 9, 3) := by decide +kernel
theorem d_Md_firstWrong_29 : decode prog_14_method_101_code 29 = .ok (.iinc 3 1, 3) := by decide +kernel
theorem d_Md_firstWrong_32 : decode prog_14_method_101_code 32 = .ok (.goto (-30), 3) := by decide +kernel
theorem d_Md_firstWrong_35 : decode prog_14_method_101_code 35 = .ok (.iload_n 3, 1) := by decide +kernel
theorem d_Md_firstWrong_36 : decode prog_14_method_101_code 36 = .ok (.ireturn, 1) := by decide +kernel
abbrev S_Md_firstWrong : Type := Nat × Nat × Int64 × Int32 × AM
noncomputable def T_Md_firstWrong_0 (v0R : Nat) (v1J : Int64) (σ : AM) : S_Md_firstWrong ⊕ Option (Int32 × AM) :=
  .inl (1, v0R, v1J, (0 : Int32), σ)
noncomputable def T_Md_firstWrong_1 (v0R : Nat) (v1J : Int64) (v3I : Int32) (σ : AM) : S_Md_firstWrong ⊕ Option (Int32 × AM) :=
  gdT (okO σ v0R 12) <| if v3I < (aI σ v0R 37) then (gdT (okO σ (aR σ v0R 38) 101) <| gdT (inB v3I (aN σ (aR σ v0R 38))) <| bndT (M_Md_doesRing v1J (aI σ (aR σ v0R 38) v3I.toNatClampNeg) σ) fun r4 σ5 => gdT (okO σ5 v0R 12) <| gdT (okO σ5 (aR σ5 v0R 39) 103) <| gdT (inB v3I (aN σ5 (aR σ5 v0R 39))) <| if r4 = (aI σ5 (aR σ5 v0R 39) v3I.toNatClampNeg) then (.inl (1, v0R, v1J, v3I + (1 : Int32), σ5)) else (.inl (2, 0, 0, v3I, σ5))) else (.inl (2, 0, 0, v3I, σ))
noncomputable def T_Md_firstWrong_2 (v3I : Int32) (σ : AM) : S_Md_firstWrong ⊕ Option (Int32 × AM) :=
  .inr (some (v3I, σ))
noncomputable def F_Md_firstWrong : S_Md_firstWrong → S_Md_firstWrong ⊕ Option (Int32 × AM) := fun s => match s.1 with
  | 0 => T_Md_firstWrong_0 (s.2.1) (s.2.2.1) (s.2.2.2.2)
  | 1 => T_Md_firstWrong_1 (s.2.1) (s.2.2.1) (s.2.2.2.1) (s.2.2.2.2)
  | _ => T_Md_firstWrong_2 (s.2.2.2.1) (s.2.2.2.2)
noncomputable def L_Md_firstWrong_0 (v0R : Nat) (v1J : Int64) (σ : AM) : Option (Int32 × AM) := lp F_Md_firstWrong (0, v0R, v1J, 0, σ)
noncomputable def L_Md_firstWrong_1 (v0R : Nat) (v1J : Int64) (v3I : Int32) (σ : AM) : Option (Int32 × AM) := lp F_Md_firstWrong (1, v0R, v1J, v3I, σ)
noncomputable def L_Md_firstWrong_2 (v3I : Int32) (σ : AM) : Option (Int32 × AM) := lp F_Md_firstWrong (2, 0, 0, v3I, σ)
set_option maxRecDepth 20000 in
theorem E_Md_firstWrong_0 (v0R : Nat) (v1J : Int64) (σ : AM) : L_Md_firstWrong_0 v0R v1J σ = (L_Md_firstWrong_1 v0R v1J ((0 : Int32)) σ) := by
  unfold L_Md_firstWrong_0
  rw [lp_eq]
  show lpK (lp F_Md_firstWrong) (T_Md_firstWrong_0 v0R v1J σ) = _
  unfold T_Md_firstWrong_0
  simp only [lpK_ite, lq_inl, lq_inr, lpK_bnd, lpK_gd, lq_let]
  try rfl
set_option maxRecDepth 20000 in
theorem E_Md_firstWrong_1 (v0R : Nat) (v1J : Int64) (v3I : Int32) (σ : AM) : L_Md_firstWrong_1 v0R v1J v3I σ = (gd (okO σ v0R 12) <| if v3I < (aI σ v0R 37) then (gd (okO σ (aR σ v0R 38) 101) <| gd (inB v3I (aN σ (aR σ v0R 38))) <| bnd (M_Md_doesRing v1J (aI σ (aR σ v0R 38) v3I.toNatClampNeg) σ) fun r4 σ5 => gd (okO σ5 v0R 12) <| gd (okO σ5 (aR σ5 v0R 39) 103) <| gd (inB v3I (aN σ5 (aR σ5 v0R 39))) <| if r4 = (aI σ5 (aR σ5 v0R 39) v3I.toNatClampNeg) then (L_Md_firstWrong_1 v0R v1J (v3I + (1 : Int32)) σ5) else (L_Md_firstWrong_2 v3I σ5)) else (L_Md_firstWrong_2 v3I σ)) := by
  unfold L_Md_firstWrong_1
  rw [lp_eq]
  show lpK (lp F_Md_firstWrong) (T_Md_firstWrong_1 v0R v1J v3I σ) = _
  unfold T_Md_firstWrong_1
  simp only [lpK_ite, lq_inl, lq_inr, lpK_bnd, lpK_gd, lq_let]
  try rfl
set_option maxRecDepth 20000 in
theorem E_Md_firstWrong_2 (v3I : Int32) (σ : AM) : L_Md_firstWrong_2 v3I σ = ((some (v3I, σ))) := by
  unfold L_Md_firstWrong_2
  rw [lp_eq]
  show lpK (lp F_Md_firstWrong) (T_Md_firstWrong_2 v3I σ) = _
  unfold T_Md_firstWrong_2
  simp only [lpK_ite, lq_inl, lq_inr, lpK_bnd, lpK_gd, lq_let]
  try rfl
noncomputable def M_Md_firstWrong (v0R : Nat) (v1J : Int64) (σ : AM) : Option (Int32 × AM) := mw σ (L_Md_firstWrong_0 v0R v1J σ)
def I_Md_firstWrong (G : GX) (p : Program) (l : Launch) (e : Env) (s : State) (m : MethodId) (args : Array Value) (below : List Frame) (meth : Method) (c : Code) (z0 u0 n : Nat) : Prop :=
  (∀ (v0R : Nat) (v1J : Int64) (σ : AM), VX (QM eI G args s below z0 u0) G p l e s m args below meth c 1 z0 u0 4 (lpn F_Md_firstWrong n (0, v0R, v1J, 0, σ)) 0 [(0, .ref v0R), (1, .long v1J)] [] σ) ∧
  (∀ (v0R : Nat) (v1J : Int64) (v3I : Int32) (σ : AM), VX (QM eI G args s below z0 u0) G p l e s m args below meth c 1 z0 u0 4 (lpn F_Md_firstWrong n (1, v0R, v1J, v3I, σ)) 2 [(0, .ref v0R), (1, .long v1J), (3, .int v3I)] [] σ) ∧
  (∀ (v3I : Int32) (σ : AM), VX (QM eI G args s below z0 u0) G p l e s m args below meth c 1 z0 u0 4 (lpn F_Md_firstWrong n (2, 0, 0, v3I, σ)) 35 [(3, .int v3I)] [] σ)
set_option maxRecDepth 20000 in
theorem s_Md_firstWrong_0 {G : GX} {p : Program} {l : Launch} {e : Env} {s : State} {m : MethodId} {args : Array Value} {below : List Frame} {meth : Method} {c : Code} {z0 u0 n : Nat} (C : Cx G p s m args meth c prog_14_method_101_code 4 "BellPlateModel" ((some FieldType.int))) (IH : I_Md_firstWrong G p l e s m args below meth c z0 u0 n) (v0R : Nat) (v1J : Int64) (σ : AM) : VX (QM eI G args s below z0 u0) G p l e s m args below meth c 1 z0 u0 4 (lpK (lpn F_Md_firstWrong n) (T_Md_firstWrong_0 v0R v1J σ)) 0 [(0, .ref v0R), (1, .long v1J)] [] σ := by
  unfold T_Md_firstWrong_0
  refine x_iconst (v := (0 : Int32)) C d_Md_firstWrong_0 (by decide) ?_
  refine x_istore_n (lv' := [(3, .int (0 : Int32)), (0, .ref v0R), (1, .long v1J)]) C d_Md_firstWrong_1 (by decide) rfl rfl ?_
  refine x_lv [1, 2, 0] rfl ?_
  exact IH.2.1 v0R v1J ((0 : Int32)) (σ)
set_option maxRecDepth 20000 in
theorem s_Md_firstWrong_1 {G : GX} {p : Program} {l : Launch} {e : Env} {s : State} {m : MethodId} {args : Array Value} {below : List Frame} {meth : Method} {c : Code} {z0 u0 n : Nat} (C : Cx G p s m args meth c prog_14_method_101_code 4 "BellPlateModel" ((some FieldType.int))) (IH : I_Md_firstWrong G p l e s m args below meth c z0 u0 n) (v0R : Nat) (v1J : Int64) (v3I : Int32) (σ : AM) : VX (QM eI G args s below z0 u0) G p l e s m args below meth c 1 z0 u0 4 (lpK (lpn F_Md_firstWrong n) (T_Md_firstWrong_1 v0R v1J v3I σ)) 2 [(0, .ref v0R), (1, .long v1J), (3, .int v3I)] [] σ := by
  unfold T_Md_firstWrong_1
  refine x_iload_n C d_Md_firstWrong_2 2 rfl ?_
  refine x_aload_n C d_Md_firstWrong_3 0 rfl ?_
  refine x_gd (fun h1 => ?_)
  refine x_getI (k := 37) C (okO_iff.mp h1) rfl j11_ok (by decide) rfl w1889 d_Md_firstWrong_4 ?_
  refine x_icmp_ge (tgt := 35) C d_Md_firstWrong_7 (by decide) (fun _ => ?_) (fun _ => ?_)
  · refine x_lload_n C d_Md_firstWrong_10 1 rfl ?_
    refine x_aload_n C d_Md_firstWrong_11 0 rfl ?_
    refine x_gd (fun h2 => ?_)
    refine x_getR (k := 38) (kv := 101) C (okO_iff.mp h1) rfl j11_ok (by decide) rfl (okO_iff.mp h2) (by decide) w1890 d_Md_firstWrong_12 ?_
    refine x_iload_n C d_Md_firstWrong_15 2 rfl ?_
    refine x_gd (fun h3 => ?_)
    refine x_aldI C (okO_iff.mp h2) (inB_iff.mp h3) d_Md_firstWrong_16 ?_
    refine x_callSI (As := [.long v1J, .int (aI σ (aR σ v0R 38) v3I.toNatClampNeg)]) C (c_Md_doesRing G l v1J (aI σ (aR σ v0R 38) v3I.toNatClampNeg) σ) w2235 w2234 w2236 w134 k_Md_doesRing rfl (by decide) (by decide) rfl (Nat.le_of_ble_eq_true rfl) d_Md_firstWrong_17 (fun r4 σ5 => ?_)
    refine x_aload_n C d_Md_firstWrong_20 0 rfl ?_
    refine x_gd (fun h6 => ?_)
    refine x_gd (fun h7 => ?_)
    refine x_getR (k := 39) (kv := 103) C (okO_iff.mp h6) rfl j11_ok (by decide) rfl (okO_iff.mp h7) (by decide) w1891 d_Md_firstWrong_21 ?_
    refine x_iload_n C d_Md_firstWrong_24 2 rfl ?_
    refine x_gd (fun h8 => ?_)
    refine x_aldZ C (okO_iff.mp h7) (inB_iff.mp h8) d_Md_firstWrong_25 ?_
    refine x_icmp_ne (tgt := 35) C d_Md_firstWrong_26 (by decide) (fun _ => ?_) (fun _ => ?_)
    · refine x_iinc (v := v3I + (1 : Int32)) (lv' := [(3, .int (v3I + (1 : Int32))), (0, .ref v0R), (1, .long v1J)]) C d_Md_firstWrong_29 2 rfl rfl (by decide) rfl ?_
      refine x_goto (tgt := 2) C d_Md_firstWrong_32 (by decide) ?_
      refine x_lv [1, 2, 0] rfl ?_
      exact IH.2.1 v0R v1J (v3I + (1 : Int32)) (σ5)
    · refine x_lv [2] rfl ?_
      exact IH.2.2 v3I (σ5)
  · refine x_lv [2] rfl ?_
    exact IH.2.2 v3I (σ)
set_option maxRecDepth 20000 in
theorem s_Md_firstWrong_2 {G : GX} {p : Program} {l : Launch} {e : Env} {s : State} {m : MethodId} {args : Array Value} {below : List Frame} {meth : Method} {c : Code} {z0 u0 n : Nat} (C : Cx G p s m args meth c prog_14_method_101_code 4 "BellPlateModel" ((some FieldType.int))) (IH : I_Md_firstWrong G p l e s m args below meth c z0 u0 n) (v3I : Int32) (σ : AM) : VX (QM eI G args s below z0 u0) G p l e s m args below meth c 1 z0 u0 4 (lpK (lpn F_Md_firstWrong n) (T_Md_firstWrong_2 v3I σ)) 35 [(3, .int v3I)] [] σ := by
  unfold T_Md_firstWrong_2
  refine x_iload_n C d_Md_firstWrong_35 0 rfl ?_
  exact x_iret C d_Md_firstWrong_36
theorem i_Md_firstWrong {G : GX} {p : Program} {l : Launch} {e : Env} {s : State} {m : MethodId} {args : Array Value} {below : List Frame} {meth : Method} {c : Code} {z0 u0 : Nat} (C : Cx G p s m args meth c prog_14_method_101_code 4 "BellPlateModel" ((some FieldType.int))) (n : Nat) : I_Md_firstWrong G p l e s m args below meth c z0 u0 n := by
  induction n with
  | zero => exact ⟨fun _ _ _ => x_none, fun _ _ _ _ => x_none, fun _ _ => x_none⟩
  | succ n IH => exact ⟨fun v0R v1J σ => s_Md_firstWrong_0 C IH v0R v1J σ, fun v0R v1J v3I σ => s_Md_firstWrong_1 C IH v0R v1J v3I σ, fun v3I σ => s_Md_firstWrong_2 C IH v3I σ⟩
theorem c_Md_firstWrong (G : GX) (l : Launch) (v0R : Nat) (v1J : Int64) (σ : AM) : CT eI G l 1 y_Md_firstWrong prog_14_method_101_code 4 ((some FieldType.int)) [.ref v0R, .long v1J] σ (M_Md_firstWrong v0R v1J σ) := by
  refine ct_of (by decide +kernel) (Nat.le_of_ble_eq_true rfl) (fun p e s m args below meth c C hin => ?_)
  refine x_lve (lv' := [(0, .ref v0R), (1, .long v1J)]) rfl ?_
  intro r σ' h
  obtain ⟨n, hn⟩ := (lp_iff _ _ _).mp h
  exact (i_Md_firstWrong C n).1 v0R v1J σ r σ' hn
/-! BellPlateModel.lastWrong(J)I -/
abbrev y_Md_lastWrong : MethodName := ⟨"BellPlateModel", "lastWrong", "(J)I"⟩
theorem k_Md_lastWrong : y_Md_lastWrong.cls ≠ "java/lang/invoke/MethodHandle" ∧ y_Md_lastWrong.cls ≠ "java/lang/invoke/VarHandle" ∧ (parseMethodDescriptor y_Md_lastWrong.desc).map (fun d => d.parameters.length) = some 1 := by decide +kernel
theorem d_Md_lastWrong_0 : decode prog_14_method_102_code 0 = .ok (.aload_n 0, 1) := by decide +kernel
theorem d_Md_lastWrong_1 : decode prog_14_method_102_code 1 = .ok (.getfield 245, 3) := by decide +kernel
theorem d_Md_lastWrong_4 : decode prog_14_method_102_code 4 = .ok (.iconst 1, 1) := by decide +kernel
theorem d_Md_lastWrong_5 : decode prog_14_method_102_code 5 = .ok (.isub, 1) := by decide +kernel
theorem d_Md_lastWrong_6 : decode prog_14_method_102_code 6 = .ok (.istore_n 3, 1) := by decide +kernel
theorem d_Md_lastWrong_7 : decode prog_14_method_102_code 7 = .ok (.iload_n 3, 1) := by decide +kernel
theorem d_Md_lastWrong_8 : decode prog_14_method_102_code 8 = .ok (.ifCond .lt 28, 3) := by decide +kernel
theorem d_Md_lastWrong_11 : decode prog_14_method_102_code 11 = .ok (.lload_n 1, 1) := by decide +kernel
theorem d_Md_lastWrong_12 : decode prog_14_method_102_code 12 = .ok (.aload_n 0, 1) := by decide +kernel
theorem d_Md_lastWrong_13 : decode prog_14_method_102_code 13 = .ok (.getfield 104, 3) := by decide +kernel
theorem d_Md_lastWrong_16 : decode prog_14_method_102_code 16 = .ok (.iload_n 3, 1) := by decide +kernel
theorem d_Md_lastWrong_17 : decode prog_14_method_102_code 17 = .ok (.iaload, 1) := by decide +kernel
theorem d_Md_lastWrong_18 : decode prog_14_method_102_code 18 = .ok (.invokestatic 357, 3) := by decide +kernel
theorem d_Md_lastWrong_21 : decode prog_14_method_102_code 21 = .ok (.aload_n 0, 1) := by decide +kernel
theorem d_Md_lastWrong_22 : decode prog_14_method_102_code 22 = .ok (.getfield 107, 3) := by decide +kernel
theorem d_Md_lastWrong_25 : decode prog_14_method_102_code 25 = .ok (.iload_n 3, 1) := by decide +kernel
theorem d_Md_lastWrong_26 : decode prog_14_method_102_code 26 = .ok (.baload, 1) := by decide +kernel
theorem d_Md_lastWrong_27 : decode prog_14_method_102_code 27 = .ok (.if_icmp .ne 9, 3) := by decide +kernel
theorem d_Md_lastWrong_30 : decode prog_14_method_102_code 30 = .ok (.iinc 3 (-1), 3) := by decide +kernel
theorem d_Md_lastWrong_33 : decode prog_14_method_102_code 33 = .ok (.goto (-26), 3) := by decide +kernel
theorem d_Md_lastWrong_36 : decode prog_14_method_102_code 36 = .ok (.iload_n 3, 1) := by decide +kernel
theorem d_Md_lastWrong_37 : decode prog_14_method_102_code 37 = .ok (.ireturn, 1) := by decide +kernel
abbrev S_Md_lastWrong : Type := Nat × Nat × Int64 × Int32 × AM
noncomputable def T_Md_lastWrong_0 (v0R : Nat) (v1J : Int64) (σ : AM) : S_Md_lastWrong ⊕ Option (Int32 × AM) :=
  gdT (okO σ v0R 12) <| letT ((aI σ v0R 37) - (1 : Int32)) fun x2 => .inl (1, v0R, v1J, x2, σ)
noncomputable def T_Md_lastWrong_1 (v0R : Nat) (v1J : Int64) (v3I : Int32) (σ : AM) : S_Md_lastWrong ⊕ Option (Int32 × AM) :=
  if v3I < 0 then (.inl (2, 0, 0, v3I, σ)) else (gdT (okO σ v0R 12) <| gdT (okO σ (aR σ v0R 38) 101) <| gdT (inB v3I (aN σ (aR σ v0R 38))) <| bndT (M_Md_doesRing v1J (aI σ (aR σ v0R 38) v3I.toNatClampNeg) σ) fun r4 σ5 => gdT (okO σ5 v0R 12) <| gdT (okO σ5 (aR σ5 v0R 39) 103) <| gdT (inB v3I (aN σ5 (aR σ5 v0R 39))) <| if r4 = (aI σ5 (aR σ5 v0R 39) v3I.toNatClampNeg) then (.inl (1, v0R, v1J, v3I + ((-1) : Int32), σ5)) else (.inl (2, 0, 0, v3I, σ5)))
noncomputable def T_Md_lastWrong_2 (v3I : Int32) (σ : AM) : S_Md_lastWrong ⊕ Option (Int32 × AM) :=
  .inr (some (v3I, σ))
noncomputable def F_Md_lastWrong : S_Md_lastWrong → S_Md_lastWrong ⊕ Option (Int32 × AM) := fun s => match s.1 with
  | 0 => T_Md_lastWrong_0 (s.2.1) (s.2.2.1) (s.2.2.2.2)
  | 1 => T_Md_lastWrong_1 (s.2.1) (s.2.2.1) (s.2.2.2.1) (s.2.2.2.2)
  | _ => T_Md_lastWrong_2 (s.2.2.2.1) (s.2.2.2.2)
noncomputable def L_Md_lastWrong_0 (v0R : Nat) (v1J : Int64) (σ : AM) : Option (Int32 × AM) := lp F_Md_lastWrong (0, v0R, v1J, 0, σ)
noncomputable def L_Md_lastWrong_1 (v0R : Nat) (v1J : Int64) (v3I : Int32) (σ : AM) : Option (Int32 × AM) := lp F_Md_lastWrong (1, v0R, v1J, v3I, σ)
noncomputable def L_Md_lastWrong_2 (v3I : Int32) (σ : AM) : Option (Int32 × AM) := lp F_Md_lastWrong (2, 0, 0, v3I, σ)
set_option maxRecDepth 20000 in
theorem E_Md_lastWrong_0 (v0R : Nat) (v1J : Int64) (σ : AM) : L_Md_lastWrong_0 v0R v1J σ = (gd (okO σ v0R 12) <| letT ((aI σ v0R 37) - (1 : Int32)) fun x2 => L_Md_lastWrong_1 v0R v1J x2 σ) := by
  unfold L_Md_lastWrong_0
  rw [lp_eq]
  show lpK (lp F_Md_lastWrong) (T_Md_lastWrong_0 v0R v1J σ) = _
  unfold T_Md_lastWrong_0
  simp only [lpK_ite, lq_inl, lq_inr, lpK_bnd, lpK_gd, lq_let]
  try rfl
set_option maxRecDepth 20000 in
theorem E_Md_lastWrong_1 (v0R : Nat) (v1J : Int64) (v3I : Int32) (σ : AM) : L_Md_lastWrong_1 v0R v1J v3I σ = (if v3I < 0 then (L_Md_lastWrong_2 v3I σ) else (gd (okO σ v0R 12) <| gd (okO σ (aR σ v0R 38) 101) <| gd (inB v3I (aN σ (aR σ v0R 38))) <| bnd (M_Md_doesRing v1J (aI σ (aR σ v0R 38) v3I.toNatClampNeg) σ) fun r4 σ5 => gd (okO σ5 v0R 12) <| gd (okO σ5 (aR σ5 v0R 39) 103) <| gd (inB v3I (aN σ5 (aR σ5 v0R 39))) <| if r4 = (aI σ5 (aR σ5 v0R 39) v3I.toNatClampNeg) then (L_Md_lastWrong_1 v0R v1J (v3I + ((-1) : Int32)) σ5) else (L_Md_lastWrong_2 v3I σ5))) := by
  unfold L_Md_lastWrong_1
  rw [lp_eq]
  show lpK (lp F_Md_lastWrong) (T_Md_lastWrong_1 v0R v1J v3I σ) = _
  unfold T_Md_lastWrong_1
  simp only [lpK_ite, lq_inl, lq_inr, lpK_bnd, lpK_gd, lq_let]
  try rfl
set_option maxRecDepth 20000 in
theorem E_Md_lastWrong_2 (v3I : Int32) (σ : AM) : L_Md_lastWrong_2 v3I σ = ((some (v3I, σ))) := by
  unfold L_Md_lastWrong_2
  rw [lp_eq]
  show lpK (lp F_Md_lastWrong) (T_Md_lastWrong_2 v3I σ) = _
  unfold T_Md_lastWrong_2
  simp only [lpK_ite, lq_inl, lq_inr, lpK_bnd, lpK_gd, lq_let]
  try rfl
noncomputable def M_Md_lastWrong (v0R : Nat) (v1J : Int64) (σ : AM) : Option (Int32 × AM) := mw σ (L_Md_lastWrong_0 v0R v1J σ)
def I_Md_lastWrong (G : GX) (p : Program) (l : Launch) (e : Env) (s : State) (m : MethodId) (args : Array Value) (below : List Frame) (meth : Method) (c : Code) (z0 u0 n : Nat) : Prop :=
  (∀ (v0R : Nat) (v1J : Int64) (σ : AM), VX (QM eI G args s below z0 u0) G p l e s m args below meth c 1 z0 u0 4 (lpn F_Md_lastWrong n (0, v0R, v1J, 0, σ)) 0 [(0, .ref v0R), (1, .long v1J)] [] σ) ∧
  (∀ (v0R : Nat) (v1J : Int64) (v3I : Int32) (σ : AM), VX (QM eI G args s below z0 u0) G p l e s m args below meth c 1 z0 u0 4 (lpn F_Md_lastWrong n (1, v0R, v1J, v3I, σ)) 7 [(0, .ref v0R), (1, .long v1J), (3, .int v3I)] [] σ) ∧
  (∀ (v3I : Int32) (σ : AM), VX (QM eI G args s below z0 u0) G p l e s m args below meth c 1 z0 u0 4 (lpn F_Md_lastWrong n (2, 0, 0, v3I, σ)) 36 [(3, .int v3I)] [] σ)
set_option maxRecDepth 20000 in
theorem s_Md_lastWrong_0 {G : GX} {p : Program} {l : Launch} {e : Env} {s : State} {m : MethodId} {args : Array Value} {below : List Frame} {meth : Method} {c : Code} {z0 u0 n : Nat} (C : Cx G p s m args meth c prog_14_method_102_code 4 "BellPlateModel" ((some FieldType.int))) (IH : I_Md_lastWrong G p l e s m args below meth c z0 u0 n) (v0R : Nat) (v1J : Int64) (σ : AM) : VX (QM eI G args s below z0 u0) G p l e s m args below meth c 1 z0 u0 4 (lpK (lpn F_Md_lastWrong n) (T_Md_lastWrong_0 v0R v1J σ)) 0 [(0, .ref v0R), (1, .long v1J)] [] σ := by
  unfold T_Md_lastWrong_0
  refine x_aload_n C d_Md_lastWrong_0 0 rfl ?_
  refine x_gd (fun h1 => ?_)
  refine x_getI (k := 37) C (okO_iff.mp h1) rfl j11_ok (by decide) rfl w1889 d_Md_lastWrong_1 ?_
  refine x_iconst (v := (1 : Int32)) C d_Md_lastWrong_4 (by decide) ?_
  refine x_isub C d_Md_lastWrong_5 ?_
  refine x_letI (fun x2 _ => ?_)
  refine x_istore_n (lv' := [(3, .int x2), (0, .ref v0R), (1, .long v1J)]) C d_Md_lastWrong_6 (by decide) rfl rfl ?_
  refine x_lv [1, 2, 0] rfl ?_
  exact IH.2.1 v0R v1J x2 (σ)
set_option maxRecDepth 20000 in
theorem s_Md_lastWrong_1 {G : GX} {p : Program} {l : Launch} {e : Env} {s : State} {m : MethodId} {args : Array Value} {below : List Frame} {meth : Method} {c : Code} {z0 u0 n : Nat} (C : Cx G p s m args meth c prog_14_method_102_code 4 "BellPlateModel" ((some FieldType.int))) (IH : I_Md_lastWrong G p l e s m args below meth c z0 u0 n) (v0R : Nat) (v1J : Int64) (v3I : Int32) (σ : AM) : VX (QM eI G args s below z0 u0) G p l e s m args below meth c 1 z0 u0 4 (lpK (lpn F_Md_lastWrong n) (T_Md_lastWrong_1 v0R v1J v3I σ)) 7 [(0, .ref v0R), (1, .long v1J), (3, .int v3I)] [] σ := by
  unfold T_Md_lastWrong_1
  refine x_iload_n C d_Md_lastWrong_7 2 rfl ?_
  refine x_if_lt (tgt := 36) C d_Md_lastWrong_8 (by decide) (fun _ => ?_) (fun _ => ?_)
  · refine x_lv [2] rfl ?_
    exact IH.2.2 v3I (σ)
  · refine x_lload_n C d_Md_lastWrong_11 1 rfl ?_
    refine x_aload_n C d_Md_lastWrong_12 0 rfl ?_
    refine x_gd (fun h1 => ?_)
    refine x_gd (fun h2 => ?_)
    refine x_getR (k := 38) (kv := 101) C (okO_iff.mp h1) rfl j11_ok (by decide) rfl (okO_iff.mp h2) (by decide) w1890 d_Md_lastWrong_13 ?_
    refine x_iload_n C d_Md_lastWrong_16 2 rfl ?_
    refine x_gd (fun h3 => ?_)
    refine x_aldI C (okO_iff.mp h2) (inB_iff.mp h3) d_Md_lastWrong_17 ?_
    refine x_callSI (As := [.long v1J, .int (aI σ (aR σ v0R 38) v3I.toNatClampNeg)]) C (c_Md_doesRing G l v1J (aI σ (aR σ v0R 38) v3I.toNatClampNeg) σ) w2235 w2234 w2236 w134 k_Md_doesRing rfl (by decide) (by decide) rfl (Nat.le_of_ble_eq_true rfl) d_Md_lastWrong_18 (fun r4 σ5 => ?_)
    refine x_aload_n C d_Md_lastWrong_21 0 rfl ?_
    refine x_gd (fun h6 => ?_)
    refine x_gd (fun h7 => ?_)
    refine x_getR (k := 39) (kv := 103) C (okO_iff.mp h6) rfl j11_ok (by decide) rfl (okO_iff.mp h7) (by decide) w1891 d_Md_lastWrong_22 ?_
    refine x_iload_n C d_Md_lastWrong_25 2 rfl ?_
    refine x_gd (fun h8 => ?_)
    refine x_aldZ C (okO_iff.mp h7) (inB_iff.mp h8) d_Md_lastWrong_26 ?_
    refine x_icmp_ne (tgt := 36) C d_Md_lastWrong_27 (by decide) (fun _ => ?_) (fun _ => ?_)
    · refine x_iinc (v := v3I + ((-1) : Int32)) (lv' := [(3, .int (v3I + ((-1) : Int32))), (0, .ref v0R), (1, .long v1J)]) C d_Md_lastWrong_30 2 rfl rfl (by decide) rfl ?_
      refine x_goto (tgt := 7) C d_Md_lastWrong_33 (by decide) ?_
      refine x_lv [1, 2, 0] rfl ?_
      exact IH.2.1 v0R v1J (v3I + ((-1) : Int32)) (σ5)
    · refine x_lv [2] rfl ?_
      exact IH.2.2 v3I (σ5)
set_option maxRecDepth 20000 in
theorem s_Md_lastWrong_2 {G : GX} {p : Program} {l : Launch} {e : Env} {s : State} {m : MethodId} {args : Array Value} {below : List Frame} {meth : Method} {c : Code} {z0 u0 n : Nat} (C : Cx G p s m args meth c prog_14_method_102_code 4 "BellPlateModel" ((some FieldType.int))) (IH : I_Md_lastWrong G p l e s m args below meth c z0 u0 n) (v3I : Int32) (σ : AM) : VX (QM eI G args s below z0 u0) G p l e s m args below meth c 1 z0 u0 4 (lpK (lpn F_Md_lastWrong n) (T_Md_lastWrong_2 v3I σ)) 36 [(3, .int v3I)] [] σ := by
  unfold T_Md_lastWrong_2
  refine x_iload_n C d_Md_lastWrong_36 0 rfl ?_
  exact x_iret C d_Md_lastWrong_37
theorem i_Md_lastWrong {G : GX} {p : Program} {l : Launch} {e : Env} {s : State} {m : MethodId} {args : Array Value} {below : List Frame} {meth : Method} {c : Code} {z0 u0 : Nat} (C : Cx G p s m args meth c prog_14_method_102_code 4 "BellPlateModel" ((some FieldType.int))) (n : Nat) : I_Md_lastWrong G p l e s m args below meth c z0 u0 n := by
  induction n with
  | zero => exact ⟨fun _ _ _ => x_none, fun _ _ _ _ => x_none, fun _ _ => x_none⟩
  | succ n IH => exact ⟨fun v0R v1J σ => s_Md_lastWrong_0 C IH v0R v1J σ, fun v0R v1J v3I σ => s_Md_lastWrong_1 C IH v0R v1J v3I σ, fun v3I σ => s_Md_lastWrong_2 C IH v3I σ⟩
theorem c_Md_lastWrong (G : GX) (l : Launch) (v0R : Nat) (v1J : Int64) (σ : AM) : CT eI G l 1 y_Md_lastWrong prog_14_method_102_code 4 ((some FieldType.int)) [.ref v0R, .long v1J] σ (M_Md_lastWrong v0R v1J σ) := by
  refine ct_of (by decide +kernel) (Nat.le_of_ble_eq_true rfl) (fun p e s m args below meth c C hin => ?_)
  refine x_lve (lv' := [(0, .ref v0R), (1, .long v1J)]) rfl ?_
  intro r σ' h
  obtain ⟨n, hn⟩ := (lp_iff _ _ _).mp h
  exact (i_Md_lastWrong C n).1 v0R v1J σ r σ' hn
/-! BellPlateModel.growsBy(III)V -/
abbrev y_Md_growsBy : MethodName := ⟨"BellPlateModel", "growsBy", "(III)V"⟩
theorem k_Md_growsBy : y_Md_growsBy.cls ≠ "java/lang/invoke/MethodHandle" ∧ y_Md_growsBy.cls ≠ "java/lang/invoke/VarHandle" ∧ (parseMethodDescriptor y_Md_growsBy.desc).map (fun d => d.parameters.length) = some 3 := by decide +kernel
theorem d_Md_growsBy_0 : decode prog_14_method_104_code 0 = .ok (.aload_n 0, 1) := by decide +kernel
theorem d_Md_growsBy_1 : decode prog_14_method_104_code 1 = .ok (.aload_n 0, 1) := by decide +kernel
theorem d_Md_growsBy_2 : decode prog_14_method_104_code 2 = .ok (.getfield 75, 3) := by decide +kernel
theorem d_Md_growsBy_5 : decode prog_14_method_104_code 5 = .ok (.iload_n 1, 1) := by decide +kernel
theorem d_Md_growsBy_6 : decode prog_14_method_104_code 6 = .ok (.laload, 1) := by decide +kernel
theorem d_Md_growsBy_7 : decode prog_14_method_104_code 7 = .ok (.invokevirtual 517, 3) := by decide +kernel
theorem d_Md_growsBy_10 : decode prog_14_method_104_code 10 = .ok (.istore 4, 2) := by decide +kernel
theorem d_Md_growsBy_12 : decode prog_14_method_104_code 12 = .ok (.iload 4, 2) := by decide +kernel
theorem d_Md_growsBy_14 : decode prog_14_method_104_code 14 = .ok (.aload_n 0, 1) := by decide +kernel
theorem d_Md_growsBy_15 : decode prog_14_method_104_code 15 = .ok (.getfield 245, 3) := by decide +kernel
theorem d_Md_growsBy_18 : decode prog_14_method_104_code 18 = .ok (.iconst 1, 1) := by decide +kernel
theorem d_Md_growsBy_19 : decode prog_14_method_104_code 19 = .ok (.isub, 1) := by decide +kernel
theorem d_Md_growsBy_20 : decode prog_14_method_104_code 20 = .ok (.if_icmp .ge 8, 3) := by decide +kernel
theorem d_Md_growsBy_23 : decode prog_14_method_104_code 23 = .ok (.iload 4, 2) := by decide +kernel
theorem d_Md_growsBy_25 : decode prog_14_method_104_code 25 = .ok (.goto 9, 3) := by decide +kernel
theorem d_Md_growsBy_28 : decode prog_14_method_104_code 28 = .ok (.aload_n 0, 1) := by decide +kernel
theorem d_Md_growsBy_29 : decode prog_14_method_104_code 29 = .ok (.getfield 245, 3) := by decide +kernel
theorem d_Md_growsBy_32 : decode prog_14_method_104_code 32 = .ok (.iconst 1, 1) := by decide +kernel
theorem d_Md_growsBy_33 : decode prog_14_method_104_code 33 = .ok (.isub, 1) := by decide +kernel
theorem d_Md_growsBy_34 : decode prog_14_method_104_code 34 = .ok (.istore 5, 2) := by decide +kernel
theorem d_Md_growsBy_36 : decode prog_14_method_104_code 36 = .ok (.iload 5, 2) := by decide +kernel
theorem d_Md_growsBy_38 : decode prog_14_method_104_code 38 = .ok (.aload_n 0, 1) := by decide +kernel
theorem d_Md_growsBy_39 : decode prog_14_method_104_code 39 = .ok (.getfield 507, 3) := by decide +kernel
theorem d_Md_growsBy_42 : decode prog_14_method_104_code 42 = .ok (.if_icmp .gt 4, 3) := by decide +kernel
theorem d_Md_growsBy_45 : decode prog_14_method_104_code 45 = .ok (.return_, 1) := by decide +kernel
theorem d_Md_growsBy_46 : decode prog_14_method_104_code 46 = .ok (.aload_n 0, 1) := by decide +kernel
theorem d_Md_growsBy_47 : decode prog_14_method_104_code 47 = .ok (.iload_n 1, 1) := by decide +kernel
theorem d_Md_growsBy_48 : decode prog_14_method_104_code 48 = .ok (.invokevirtual 319, 3) := by decide +kernel
theorem d_Md_growsBy_51 : decode prog_14_method_104_code 51 = .ok (.aload_n 0, 1) := by decide +kernel
theorem d_Md_growsBy_52 : decode prog_14_method_104_code 52 = .ok (.getfield 95, 3) := by decide +kernel
theorem d_Md_growsBy_55 : decode prog_14_method_104_code 55 = .ok (.iload_n 2, 1) := by decide +kernel
theorem d_Md_growsBy_56 : decode prog_14_method_104_code 56 = .ok (.dup2, 1) := by decide +kernel
theorem d_Md_growsBy_57 : decode prog_14_method_104_code 57 = .ok (.iaload, 1) := by decide +kernel
theorem d_Md_growsBy_58 : decode prog_14_method_104_code 58 = .ok (.iload_n 3, 1) := by decide +kernel
theorem d_Md_growsBy_59 : decode prog_14_method_104_code 59 = .ok (.iadd, 1) := by decide +kernel
theorem d_Md_growsBy_60 : decode prog_14_method_104_code 60 = .ok (.iastore, 1) := by decide +kernel
theorem d_Md_growsBy_61 : decode prog_14_method_104_code 61 = .ok (.aload_n 0, 1) := by decide +kernel
theorem d_Md_growsBy_62 : decode prog_14_method_104_code 62 = .ok (.invokevirtual 303, 3) := by decide +kernel
theorem d_Md_growsBy_65 : decode prog_14_method_104_code 65 = .ok (.aload_n 0, 1) := by decide +kernel
theorem d_Md_growsBy_66 : decode prog_14_method_104_code 66 = .ok (.aload_n 0, 1) := by decide +kernel
theorem d_Md_growsBy_67 : decode prog_14_method_104_code 67 = .ok (.invokevirtual 322, 3) := by decide +kernel
theorem d_Md_growsBy_70 : decode prog_14_method_104_code 70 = .ok (.invokevirtual 520, 3) := by decide +kernel
theorem d_Md_growsBy_73 : decode prog_14_method_104_code 73 = .ok (.iload 5, 2) := by decide +kernel
theorem d_Md_growsBy_75 : decode prog_14_method_104_code 75 = .ok (.if_icmp .ge 14, 3) := by decide +kernel
theorem d_Md_growsBy_78 : decode prog_14_method_104_code 78 = .ok (.aload_n 0, 1) := by decide +kernel
theorem d_Md_growsBy_79 : decode prog_14_method_104_code 79 = .ok (.iload 5, 2) := by decide +kernel
theorem d_Md_growsBy_81 : decode prog_14_method_104_code 81 = .ok (.putfield 507, 3) := by decide +kernel
theorem d_Md_growsBy_84 : decode prog_14_method_104_code 84 = .ok (.aload_n 0, 1) := by decide +kernel
theorem d_Md_growsBy_85 : decode prog_14_method_104_code 85 = .ok (.iload_n 2, 1) := by decide +kernel
theorem d_Md_growsBy_86 : decode prog_14_method_104_code 86 = .ok (.putfield 523, 3) := by decide +kernel
theorem d_Md_growsBy_89 : decode prog_14_method_104_code 89 = .ok (.return_, 1) := by decide +kernel
abbrev S_Md_growsBy : Type := Nat × Nat × Int32 × Int32 × Int32 × Int32 × AM
noncomputable def T_Md_growsBy_0 (v0R : Nat) (v1I : Int32) (v2I : Int32) (v3I : Int32) (σ : AM) : S_Md_growsBy ⊕ Option (Unit × AM) :=
  gdT (okO σ v0R 12) <| gdT (okO σ (aR σ v0R 27) 102) <| gdT (inB v1I (aN σ (aR σ v0R 27))) <| bndT (M_Md_firstWrong v0R (aL σ (aR σ v0R 27) v1I.toNatClampNeg) σ) fun r4 σ5 => gdT (okO σ5 v0R 12) <| if r4 < ((aI σ5 v0R 37) - (1 : Int32)) then (.inl (1, v0R, v1I, v2I, v3I, r4, σ5)) else (.inl (1, v0R, v1I, v2I, v3I, (aI σ5 v0R 37) - (1 : Int32), σ5))
noncomputable def T_Md_growsBy_1 (v0R : Nat) (v1I : Int32) (v2I : Int32) (v3I : Int32) (s0I : Int32) (σ : AM) : S_Md_growsBy ⊕ Option (Unit × AM) :=
  gdT (okO σ v0R 12) <| if (aI σ v0R 65) < s0I then (bndT (M_Md_unpacks v0R v1I σ) fun _ σ3 => gdT (okO σ3 v0R 12) <| gdT (okO σ3 (aR σ3 v0R 34) 101) <| gdT (inB v2I (aN σ3 (aR σ3 v0R 34))) <| letT (sI σ3 (aR σ3 v0R 34) v2I.toNatClampNeg ((aI σ3 (aR σ3 v0R 34) v2I.toNatClampNeg) + v3I)) fun σ7 => bndT (M_Md_weighs v0R σ7) fun _ σ10 => gdT (okO σ10 v0R 12) <| bndT (M_Md_listNow v0R σ10) fun r11 σ12 => gdT (okO σ12 v0R 12) <| bndT (M_Md_lastWrong v0R r11 σ12) fun r14 σ15 => if r14 < s0I then (gdT (okO σ15 v0R 12) <| letT (sI σ15 v0R 65 s0I) fun σ18 => letT (sI σ18 v0R 66 v2I) fun σ20 => .inl (2, 0, 0, 0, 0, 0, σ20)) else (.inl (2, 0, 0, 0, 0, 0, σ15))) else (.inr (some ((), σ)))
noncomputable def T_Md_growsBy_2  (σ : AM) : S_Md_growsBy ⊕ Option (Unit × AM) :=
  .inr (some ((), σ))
noncomputable def F_Md_growsBy : S_Md_growsBy → S_Md_growsBy ⊕ Option (Unit × AM) := fun s => match s.1 with
  | 0 => T_Md_growsBy_0 (s.2.1) (s.2.2.1) (s.2.2.2.1) (s.2.2.2.2.1) (s.2.2.2.2.2.2)
  | 1 => T_Md_growsBy_1 (s.2.1) (s.2.2.1) (s.2.2.2.1) (s.2.2.2.2.1) (s.2.2.2.2.2.1) (s.2.2.2.2.2.2)
  | _ => T_Md_growsBy_2  (s.2.2.2.2.2.2)
noncomputable def L_Md_growsBy_0 (v0R : Nat) (v1I : Int32) (v2I : Int32) (v3I : Int32) (σ : AM) : Option (Unit × AM) := lp F_Md_growsBy (0, v0R, v1I, v2I, v3I, 0, σ)
noncomputable def L_Md_growsBy_1 (v0R : Nat) (v1I : Int32) (v2I : Int32) (v3I : Int32) (s0I : Int32) (σ : AM) : Option (Unit × AM) := lp F_Md_growsBy (1, v0R, v1I, v2I, v3I, s0I, σ)
noncomputable def L_Md_growsBy_2  (σ : AM) : Option (Unit × AM) := lp F_Md_growsBy (2, 0, 0, 0, 0, 0, σ)
set_option maxRecDepth 20000 in
theorem E_Md_growsBy_0 (v0R : Nat) (v1I : Int32) (v2I : Int32) (v3I : Int32) (σ : AM) : L_Md_growsBy_0 v0R v1I v2I v3I σ = (gd (okO σ v0R 12) <| gd (okO σ (aR σ v0R 27) 102) <| gd (inB v1I (aN σ (aR σ v0R 27))) <| bnd (M_Md_firstWrong v0R (aL σ (aR σ v0R 27) v1I.toNatClampNeg) σ) fun r4 σ5 => gd (okO σ5 v0R 12) <| if r4 < ((aI σ5 v0R 37) - (1 : Int32)) then (L_Md_growsBy_1 v0R v1I v2I v3I r4 σ5) else (L_Md_growsBy_1 v0R v1I v2I v3I ((aI σ5 v0R 37) - (1 : Int32)) σ5)) := by
  unfold L_Md_growsBy_0
  rw [lp_eq]
  show lpK (lp F_Md_growsBy) (T_Md_growsBy_0 v0R v1I v2I v3I σ) = _
  unfold T_Md_growsBy_0
  simp only [lpK_ite, lq_inl, lq_inr, lpK_bnd, lpK_gd, lq_let]
  try rfl
set_option maxRecDepth 20000 in
theorem E_Md_growsBy_1 (v0R : Nat) (v1I : Int32) (v2I : Int32) (v3I : Int32) (s0I : Int32) (σ : AM) : L_Md_growsBy_1 v0R v1I v2I v3I s0I σ = (gd (okO σ v0R 12) <| if (aI σ v0R 65) < s0I then (bnd (M_Md_unpacks v0R v1I σ) fun _ σ3 => gd (okO σ3 v0R 12) <| gd (okO σ3 (aR σ3 v0R 34) 101) <| gd (inB v2I (aN σ3 (aR σ3 v0R 34))) <| letT (sI σ3 (aR σ3 v0R 34) v2I.toNatClampNeg ((aI σ3 (aR σ3 v0R 34) v2I.toNatClampNeg) + v3I)) fun σ7 => bnd (M_Md_weighs v0R σ7) fun _ σ10 => gd (okO σ10 v0R 12) <| bnd (M_Md_listNow v0R σ10) fun r11 σ12 => gd (okO σ12 v0R 12) <| bnd (M_Md_lastWrong v0R r11 σ12) fun r14 σ15 => if r14 < s0I then (gd (okO σ15 v0R 12) <| letT (sI σ15 v0R 65 s0I) fun σ18 => letT (sI σ18 v0R 66 v2I) fun σ20 => L_Md_growsBy_2 σ20) else (L_Md_growsBy_2 σ15)) else ((some ((), σ)))) := by
  unfold L_Md_growsBy_1
  rw [lp_eq]
  show lpK (lp F_Md_growsBy) (T_Md_growsBy_1 v0R v1I v2I v3I s0I σ) = _
  unfold T_Md_growsBy_1
  simp only [lpK_ite, lq_inl, lq_inr, lpK_bnd, lpK_gd, lq_let]
  try rfl
set_option maxRecDepth 20000 in
theorem E_Md_growsBy_2  (σ : AM) : L_Md_growsBy_2  σ = ((some ((), σ))) := by
  unfold L_Md_growsBy_2
  rw [lp_eq]
  show lpK (lp F_Md_growsBy) (T_Md_growsBy_2  σ) = _
  unfold T_Md_growsBy_2
  simp only [lpK_ite, lq_inl, lq_inr, lpK_bnd, lpK_gd, lq_let]
  try rfl
noncomputable def M_Md_growsBy (v0R : Nat) (v1I : Int32) (v2I : Int32) (v3I : Int32) (σ : AM) : Option (Unit × AM) := mw σ (L_Md_growsBy_0 v0R v1I v2I v3I σ)
def I_Md_growsBy (G : GX) (p : Program) (l : Launch) (e : Env) (s : State) (m : MethodId) (args : Array Value) (below : List Frame) (meth : Method) (c : Code) (z0 u0 n : Nat) : Prop :=
  (∀ (v0R : Nat) (v1I : Int32) (v2I : Int32) (v3I : Int32) (σ : AM), VX (QM eV G args s below z0 u0) G p l e s m args below meth c 3 z0 u0 6 (lpn F_Md_growsBy n (0, v0R, v1I, v2I, v3I, 0, σ)) 0 [(0, .ref v0R), (1, .int v1I), (2, .int v2I), (3, .int v3I)] [] σ) ∧
  (∀ (v0R : Nat) (v1I : Int32) (v2I : Int32) (v3I : Int32) (s0I : Int32) (σ : AM), VX (QM eV G args s below z0 u0) G p l e s m args below meth c 3 z0 u0 6 (lpn F_Md_growsBy n (1, v0R, v1I, v2I, v3I, s0I, σ)) 34 [(0, .ref v0R), (1, .int v1I), (2, .int v2I), (3, .int v3I)] [.int s0I] σ) ∧
  (∀ (σ : AM), VX (QM eV G args s below z0 u0) G p l e s m args below meth c 3 z0 u0 6 (lpn F_Md_growsBy n (2, 0, 0, 0, 0, 0, σ)) 89 [] [] σ)
set_option maxRecDepth 20000 in
theorem s_Md_growsBy_0 {G : GX} {p : Program} {l : Launch} {e : Env} {s : State} {m : MethodId} {args : Array Value} {below : List Frame} {meth : Method} {c : Code} {z0 u0 n : Nat} (C : Cx G p s m args meth c prog_14_method_104_code 6 "BellPlateModel" ((none))) (IH : I_Md_growsBy G p l e s m args below meth c z0 u0 n) (v0R : Nat) (v1I : Int32) (v2I : Int32) (v3I : Int32) (σ : AM) : VX (QM eV G args s below z0 u0) G p l e s m args below meth c 3 z0 u0 6 (lpK (lpn F_Md_growsBy n) (T_Md_growsBy_0 v0R v1I v2I v3I σ)) 0 [(0, .ref v0R), (1, .int v1I), (2, .int v2I), (3, .int v3I)] [] σ := by
  unfold T_Md_growsBy_0
  refine x_aload_n C d_Md_growsBy_0 0 rfl ?_
  refine x_aload_n C d_Md_growsBy_1 0 rfl ?_
  refine x_gd (fun h1 => ?_)
  refine x_gd (fun h2 => ?_)
  refine x_getR (k := 27) (kv := 102) C (okO_iff.mp h1) rfl j11_ok (by decide) rfl (okO_iff.mp h2) (by decide) w1879 d_Md_growsBy_2 ?_
  refine x_iload_n C d_Md_growsBy_5 1 rfl ?_
  refine x_gd (fun h3 => ?_)
  refine x_aldJ C (okO_iff.mp h2) (inB_iff.mp h3) d_Md_growsBy_6 ?_
  refine x_callVI (As := [.long (aL σ (aR σ v0R 27) v1I.toNatClampNeg)]) C (c_Md_firstWrong G l v0R (aL σ (aR σ v0R 27) v1I.toNatClampNeg) σ) (okO_iff.mp h1) rfl w2427 w115 w2425 w2428 w134 k_Md_firstWrong rfl (by decide) (by decide) rfl (Nat.le_of_ble_eq_true rfl) d_Md_growsBy_7 (fun r4 σ5 => ?_)
  refine x_istore (lv' := [(4, .int r4), (0, .ref v0R), (1, .int v1I), (2, .int v2I), (3, .int v3I)]) C d_Md_growsBy_10 (by decide) rfl ?_
  refine x_iload C d_Md_growsBy_12 0 rfl ?_
  refine x_aload_n C d_Md_growsBy_14 1 rfl ?_
  refine x_gd (fun h6 => ?_)
  refine x_getI (k := 37) C (okO_iff.mp h6) rfl j11_ok (by decide) rfl w1889 d_Md_growsBy_15 ?_
  refine x_iconst (v := (1 : Int32)) C d_Md_growsBy_18 (by decide) ?_
  refine x_isub C d_Md_growsBy_19 ?_
  refine x_icmp_ge (tgt := 28) C d_Md_growsBy_20 (by decide) (fun _ => ?_) (fun _ => ?_)
  · refine x_iload C d_Md_growsBy_23 0 rfl ?_
    refine x_goto (tgt := 34) C d_Md_growsBy_25 (by decide) ?_
    refine x_lv [1, 2, 3, 4] rfl ?_
    exact IH.2.1 v0R v1I v2I v3I r4 (σ5)
  · refine x_aload_n C d_Md_growsBy_28 1 rfl ?_
    refine x_getI (k := 37) C (okO_iff.mp h6) rfl j11_ok (by decide) rfl w1889 d_Md_growsBy_29 ?_
    refine x_iconst (v := (1 : Int32)) C d_Md_growsBy_32 (by decide) ?_
    refine x_isub C d_Md_growsBy_33 ?_
    refine x_lv [1, 2, 3, 4] rfl ?_
    exact IH.2.1 v0R v1I v2I v3I ((aI σ5 v0R 37) - (1 : Int32)) (σ5)
set_option maxRecDepth 20000 in
theorem s_Md_growsBy_1 {G : GX} {p : Program} {l : Launch} {e : Env} {s : State} {m : MethodId} {args : Array Value} {below : List Frame} {meth : Method} {c : Code} {z0 u0 n : Nat} (C : Cx G p s m args meth c prog_14_method_104_code 6 "BellPlateModel" ((none))) (IH : I_Md_growsBy G p l e s m args below meth c z0 u0 n) (v0R : Nat) (v1I : Int32) (v2I : Int32) (v3I : Int32) (s0I : Int32) (σ : AM) : VX (QM eV G args s below z0 u0) G p l e s m args below meth c 3 z0 u0 6 (lpK (lpn F_Md_growsBy n) (T_Md_growsBy_1 v0R v1I v2I v3I s0I σ)) 34 [(0, .ref v0R), (1, .int v1I), (2, .int v2I), (3, .int v3I)] [.int s0I] σ := by
  unfold T_Md_growsBy_1
  refine x_istore (lv' := [(5, .int s0I), (0, .ref v0R), (1, .int v1I), (2, .int v2I), (3, .int v3I)]) C d_Md_growsBy_34 (by decide) rfl ?_
  refine x_iload C d_Md_growsBy_36 0 rfl ?_
  refine x_aload_n C d_Md_growsBy_38 1 rfl ?_
  refine x_gd (fun h1 => ?_)
  refine x_getI (k := 65) C (okO_iff.mp h1) rfl j11_ok (by decide) rfl w1917 d_Md_growsBy_39 ?_
  refine x_icmp_gt (tgt := 46) C d_Md_growsBy_42 (by decide) (fun _ => ?_) (fun _ => ?_)
  · refine x_aload_n C d_Md_growsBy_46 1 rfl ?_
    refine x_iload_n C d_Md_growsBy_47 2 rfl ?_
    refine x_callVV (As := [.int v1I]) C (c_Md_unpacks G l v0R v1I σ) (okO_iff.mp h1) rfl w1818 w56 w1816 w1819 w134 k_Md_unpacks rfl (by decide) (by decide) rfl (Nat.le_of_ble_eq_true rfl) d_Md_growsBy_48 (fun r2 σ3 => ?_)
    refine x_aload_n C d_Md_growsBy_51 1 rfl ?_
    refine x_gd (fun h4 => ?_)
    refine x_gd (fun h5 => ?_)
    refine x_getR (k := 34) (kv := 101) C (okO_iff.mp h4) rfl j11_ok (by decide) rfl (okO_iff.mp h5) (by decide) w1886 d_Md_growsBy_52 ?_
    refine x_iload_n C d_Md_growsBy_55 3 rfl ?_
    refine x_dup2 C d_Md_growsBy_56 rfl rfl ?_
    refine x_gd (fun h6 => ?_)
    refine x_aldI C (okO_iff.mp h5) (inB_iff.mp h6) d_Md_growsBy_57 ?_
    refine x_iload_n C d_Md_growsBy_58 4 rfl ?_
    refine x_iadd C d_Md_growsBy_59 ?_
    refine x_astI C (okO_iff.mp h5) (inB_iff.mp h6) d_Md_growsBy_60 ?_
    refine x_letS (fun σ7 e8 => ?_)
    refine x_aload_n C d_Md_growsBy_61 1 rfl ?_
    refine x_callVV (As := []) C (c_Md_weighs G l v0R  σ7) (by first | exact (okO_iff.mp h4) | (rw [e8]; exact (okO_iff.mp h4))) rfl w1822 w57 w1820 w1823 w134 k_Md_weighs rfl (by decide) (by decide) rfl (Nat.le_of_ble_eq_true rfl) d_Md_growsBy_62 (fun r9 σ10 => ?_)
    refine x_aload_n C d_Md_growsBy_65 1 rfl ?_
    refine x_aload_n C d_Md_growsBy_66 1 rfl ?_
    refine x_gd (fun h13 => ?_)
    refine x_callVJ (As := []) C (c_Md_listNow G l v0R  σ10) (okO_iff.mp h13) rfl w1830 w59 w1828 w1831 w134 k_Md_listNow rfl (by decide) (by decide) rfl (Nat.le_of_ble_eq_true rfl) d_Md_growsBy_67 (fun r11 σ12 => ?_)
    refine x_gd (fun h16 => ?_)
    refine x_callVI (As := [.long r11]) C (c_Md_lastWrong G l v0R r11 σ12) (okO_iff.mp h16) rfl w2431 w116 w2429 w2432 w134 k_Md_lastWrong rfl (by decide) (by decide) rfl (Nat.le_of_ble_eq_true rfl) d_Md_growsBy_70 (fun r14 σ15 => ?_)
    refine x_iload C d_Md_growsBy_73 0 rfl ?_
    refine x_icmp_ge (tgt := 89) C d_Md_growsBy_75 (by decide) (fun _ => ?_) (fun _ => ?_)
    · refine x_aload_n C d_Md_growsBy_78 1 rfl ?_
      refine x_iload C d_Md_growsBy_79 0 rfl ?_
      refine x_gd (fun h17 => ?_)
      refine x_putI (k := 65) C (okO_iff.mp h17) rfl j11_ok y11_ok n11_ok (by decide) rfl rfl rfl rfl w1917 d_Md_growsBy_81 ?_
      refine x_letS (fun σ18 e19 => ?_)
      refine x_aload_n C d_Md_growsBy_84 1 rfl ?_
      refine x_iload_n C d_Md_growsBy_85 3 rfl ?_
      refine x_putI (k := 66) C (by first | exact (okO_iff.mp h17) | (rw [e19]; exact (okO_iff.mp h17))) rfl j11_ok y11_ok n11_ok (by decide) rfl rfl rfl rfl w1918 d_Md_growsBy_86 ?_
      refine x_letS (fun σ20 e21 => ?_)
      refine x_lv [] rfl ?_
      exact IH.2.2  (σ20)
    · refine x_lv [] rfl ?_
      exact IH.2.2  (σ15)
  · exact x_vret C d_Md_growsBy_45
set_option maxRecDepth 20000 in
theorem s_Md_growsBy_2 {G : GX} {p : Program} {l : Launch} {e : Env} {s : State} {m : MethodId} {args : Array Value} {below : List Frame} {meth : Method} {c : Code} {z0 u0 n : Nat} (C : Cx G p s m args meth c prog_14_method_104_code 6 "BellPlateModel" ((none))) (IH : I_Md_growsBy G p l e s m args below meth c z0 u0 n)  (σ : AM) : VX (QM eV G args s below z0 u0) G p l e s m args below meth c 3 z0 u0 6 (lpK (lpn F_Md_growsBy n) (T_Md_growsBy_2  σ)) 89 [] [] σ := by
  unfold T_Md_growsBy_2
  exact x_vret C d_Md_growsBy_89
theorem i_Md_growsBy {G : GX} {p : Program} {l : Launch} {e : Env} {s : State} {m : MethodId} {args : Array Value} {below : List Frame} {meth : Method} {c : Code} {z0 u0 : Nat} (C : Cx G p s m args meth c prog_14_method_104_code 6 "BellPlateModel" ((none))) (n : Nat) : I_Md_growsBy G p l e s m args below meth c z0 u0 n := by
  induction n with
  | zero => exact ⟨fun _ _ _ _ _ => x_none, fun _ _ _ _ _ _ => x_none, fun _ => x_none⟩
  | succ n IH => exact ⟨fun v0R v1I v2I v3I σ => s_Md_growsBy_0 C IH v0R v1I v2I v3I σ, fun v0R v1I v2I v3I s0I σ => s_Md_growsBy_1 C IH v0R v1I v2I v3I s0I σ, fun σ => s_Md_growsBy_2 C IH σ⟩
theorem c_Md_growsBy (G : GX) (l : Launch) (v0R : Nat) (v1I : Int32) (v2I : Int32) (v3I : Int32) (σ : AM) : CT eV G l 3 y_Md_growsBy prog_14_method_104_code 6 (none) [.ref v0R, .int v1I, .int v2I, .int v3I] σ (M_Md_growsBy v0R v1I v2I v3I σ) := by
  refine ct_of (by decide +kernel) (Nat.le_of_ble_eq_true rfl) (fun p e s m args below meth c C hin => ?_)
  refine x_lve (lv' := [(0, .ref v0R), (1, .int v1I), (2, .int v2I), (3, .int v3I)]) rfl ?_
  intro r σ' h
  obtain ⟨n, hn⟩ := (lp_iff _ _ _).mp h
  exact (i_Md_growsBy C n).1 v0R v1I v2I v3I σ r σ' hn
/-! BellPlateModel.findGrown()Z -/
abbrev y_Md_findGrown : MethodName := ⟨"BellPlateModel", "findGrown", "()Z"⟩
theorem k_Md_findGrown : y_Md_findGrown.cls ≠ "java/lang/invoke/MethodHandle" ∧ y_Md_findGrown.cls ≠ "java/lang/invoke/VarHandle" ∧ (parseMethodDescriptor y_Md_findGrown.desc).map (fun d => d.parameters.length) = some 0 := by decide +kernel
theorem d_Md_findGrown_0 : decode prog_14_method_103_code 0 = .ok (.iconst 0, 1) := by decide +kernel
theorem d_Md_findGrown_1 : decode prog_14_method_103_code 1 = .ok (.istore_n 1, 1) := by decide +kernel
theorem d_Md_findGrown_2 : decode prog_14_method_103_code 2 = .ok (.aload_n 0, 1) := by decide +kernel
theorem d_Md_findGrown_3 : decode prog_14_method_103_code 3 = .ok (.invokevirtual 369, 3) := by decide +kernel
theorem d_Md_findGrown_6 : decode prog_14_method_103_code 6 = .ok (.iconst 0, 1) := by decide +kernel
theorem d_Md_findGrown_7 : decode prog_14_method_103_code 7 = .ok (.istore_n 2, 1) := by decide +kernel
theorem d_Md_findGrown_8 : decode prog_14_method_103_code 8 = .ok (.iload_n 2, 1) := by decide +kernel
theorem d_Md_findGrown_9 : decode prog_14_method_103_code 9 = .ok (.aload_n 0, 1) := by decide +kernel
theorem d_Md_findGrown_10 : decode prog_14_method_103_code 10 = .ok (.getfield 316, 3) := by decide +kernel
theorem d_Md_findGrown_13 : decode prog_14_method_103_code 13 = .ok (.if_icmp .ge 32, 3) := by decide +kernel
theorem d_Md_findGrown_16 : decode prog_14_method_103_code 16 = .ok (.iload_n 1, 1) := by decide +kernel
theorem d_Md_findGrown_17 : decode prog_14_method_103_code 17 = .ok (.ifCond .ne 16, 3) := by decide +kernel
theorem d_Md_findGrown_20 : decode prog_14_method_103_code 20 = .ok (.aload_n 0, 1) := by decide +kernel
theorem d_Md_findGrown_21 : decode prog_14_method_103_code 21 = .ok (.aload_n 0, 1) := by decide +kernel
theorem d_Md_findGrown_22 : decode prog_14_method_103_code 22 = .ok (.getfield 82, 3) := by decide +kernel
theorem d_Md_findGrown_25 : decode prog_14_method_103_code 25 = .ok (.iload_n 2, 1) := by decide +kernel
theorem d_Md_findGrown_26 : decode prog_14_method_103_code 26 = .ok (.laload, 1) := by decide +kernel
theorem d_Md_findGrown_27 : decode prog_14_method_103_code 27 = .ok (.invokevirtual 361, 3) := by decide +kernel
theorem d_Md_findGrown_30 : decode prog_14_method_103_code 30 = .ok (.ifCond .eq 7, 3) := by decide +kernel
theorem d_Md_findGrown_33 : decode prog_14_method_103_code 33 = .ok (.iconst 1, 1) := by decide +kernel
theorem d_Md_findGrown_34 : decode prog_14_method_103_code 34 = .ok (.goto 4, 3) := by decide +kernel
theorem d_Md_findGrown_37 : decode prog_14_method_103_code 37 = .ok (.iconst 0, 1) := by decide +kernel
theorem d_Md_findGrown_38 : decode prog_14_method_103_code 38 = .ok (.istore_n 1, 1) := by decide +kernel
theorem d_Md_findGrown_39 : decode prog_14_method_103_code 39 = .ok (.iinc 2 1, 3) := by decide +kernel
theorem d_Md_findGrown_42 : decode prog_14_method_103_code 42 = .ok (.goto (-34), 3) := by decide +kernel
theorem d_Md_findGrown_45 : decode prog_14_method_103_code 45 = .ok (.iload_n 1, 1) := by decide +kernel
theorem d_Md_findGrown_46 : decode prog_14_method_103_code 46 = .ok (.ifCond .ne 10, 3) := by decide +kernel
theorem d_Md_findGrown_49 : decode prog_14_method_103_code 49 = .ok (.aload_n 0, 1) := by decide +kernel
theorem d_Md_findGrown_50 : decode prog_14_method_103_code 50 = .ok (.getfield 245, 3) := by decide +kernel
theorem d_Md_findGrown_53 : decode prog_14_method_103_code 53 = .ok (.ifCond .ne 5, 3) := by decide +kernel
theorem d_Md_findGrown_56 : decode prog_14_method_103_code 56 = .ok (.iconst 0, 1) := by decide +kernel
theorem d_Md_findGrown_57 : decode prog_14_method_103_code 57 = .ok (.ireturn, 1) := by decide +kernel
theorem d_Md_findGrown_58 : decode prog_14_method_103_code 58 = .ok (.aload_n 0, 1) := by decide +kernel
theorem d_Md_findGrown_59 : decode prog_14_method_103_code 59 = .ok (.iconst (-1), 1) := by decide +kernel
theorem d_Md_findGrown_60 : decode prog_14_method_103_code 60 = .ok (.putfield 507, 3) := by decide +kernel
theorem d_Md_findGrown_63 : decode prog_14_method_103_code 63 = .ok (.iconst 1, 1) := by decide +kernel
theorem d_Md_findGrown_64 : decode prog_14_method_103_code 64 = .ok (.istore_n 2, 1) := by decide +kernel
theorem d_Md_findGrown_65 : decode prog_14_method_103_code 65 = .ok (.iload_n 2, 1) := by decide +kernel
theorem d_Md_findGrown_66 : decode prog_14_method_103_code 66 = .ok (.iconst 5, 1) := by decide +kernel
theorem d_Md_findGrown_67 : decode prog_14_method_103_code 67 = .ok (.if_icmp .gt 73, 3) := by decide +kernel
theorem d_Md_findGrown_70 : decode prog_14_method_103_code 70 = .ok (.aload_n 0, 1) := by decide +kernel
theorem d_Md_findGrown_71 : decode prog_14_method_103_code 71 = .ok (.getfield 507, 3) := by decide +kernel
theorem d_Md_findGrown_74 : decode prog_14_method_103_code 74 = .ok (.ifCond .ge 66, 3) := by decide +kernel
theorem d_Md_findGrown_77 : decode prog_14_method_103_code 77 = .ok (.aload_n 0, 1) := by decide +kernel
theorem d_Md_findGrown_78 : decode prog_14_method_103_code 78 = .ok (.iload_n 2, 1) := by decide +kernel
theorem d_Md_findGrown_79 : decode prog_14_method_103_code 79 = .ok (.putfield 510, 3) := by decide +kernel
theorem d_Md_findGrown_82 : decode prog_14_method_103_code 82 = .ok (.iconst 0, 1) := by decide +kernel
theorem d_Md_findGrown_83 : decode prog_14_method_103_code 83 = .ok (.istore_n 3, 1) := by decide +kernel
theorem d_Md_findGrown_84 : decode prog_14_method_103_code 84 = .ok (.iload_n 3, 1) := by decide +kernel
theorem d_Md_findGrown_85 : decode prog_14_method_103_code 85 = .ok (.aload_n 0, 1) := by decide +kernel
theorem d_Md_findGrown_86 : decode prog_14_method_103_code 86 = .ok (.getfield 239, 3) := by decide +kernel
theorem d_Md_findGrown_89 : decode prog_14_method_103_code 89 = .ok (.if_icmp .ge 45, 3) := by decide +kernel
theorem d_Md_findGrown_92 : decode prog_14_method_103_code 92 = .ok (.iconst 0, 1) := by decide +kernel
theorem d_Md_findGrown_93 : decode prog_14_method_103_code 93 = .ok (.istore 4, 2) := by decide +kernel
theorem d_Md_findGrown_95 : decode prog_14_method_103_code 95 = .ok (.iload 4, 2) := by decide +kernel
theorem d_Md_findGrown_97 : decode prog_14_method_103_code 97 = .ok (.aload_n 0, 1) := by decide +kernel
theorem d_Md_findGrown_98 : decode prog_14_method_103_code 98 = .ok (.getfield 313, 3) := by decide +kernel
theorem d_Md_findGrown_101 : decode prog_14_method_103_code 101 = .ok (.if_icmp .ge 27, 3) := by decide +kernel
theorem d_Md_findGrown_104 : decode prog_14_method_103_code 104 = .ok (.aload_n 0, 1) := by decide +kernel
theorem d_Md_findGrown_105 : decode prog_14_method_103_code 105 = .ok (.getfield 78, 3) := by decide +kernel
theorem d_Md_findGrown_108 : decode prog_14_method_103_code 108 = .ok (.iload 4, 2) := by decide +kernel
theorem d_Md_findGrown_110 : decode prog_14_method_103_code 110 = .ok (.baload, 1) := by decide +kernel
theorem d_Md_findGrown_111 : decode prog_14_method_103_code 111 = .ok (.ifCond .eq 11, 3) := by decide +kernel
theorem d_Md_findGrown_114 : decode prog_14_method_103_code 114 = .ok (.aload_n 0, 1) := by decide +kernel
theorem d_Md_findGrown_115 : decode prog_14_method_103_code 115 = .ok (.iload 4, 2) := by decide +kernel
theorem d_Md_findGrown_117 : decode prog_14_method_103_code 117 = .ok (.iload_n 3, 1) := by decide +kernel
theorem d_Md_findGrown_118 : decode prog_14_method_103_code 118 = .ok (.iload_n 2, 1) := by decide +kernel
theorem d_Md_findGrown_119 : decode prog_14_method_103_code 119 = .ok (.invokevirtual 513, 3) := by decide +kernel
theorem d_Md_findGrown_122 : decode prog_14_method_103_code 122 = .ok (.iinc 4 1, 3) := by decide +kernel
theorem d_Md_findGrown_125 : decode prog_14_method_103_code 125 = .ok (.goto (-30), 3) := by decide +kernel
theorem d_Md_findGrown_128 : decode prog_14_method_103_code 128 = .ok (.iinc 3 1, 3) := by decide +kernel
theorem d_Md_findGrown_131 : decode prog_14_method_103_code 131 = .ok (.goto (-47), 3) := by decide +kernel
theorem d_Md_findGrown_134 : decode prog_14_method_103_code 134 = .ok (.iinc 2 1, 3) := by decide +kernel
theorem d_Md_findGrown_137 : decode prog_14_method_103_code 137 = .ok (.goto (-72), 3) := by decide +kernel
theorem d_Md_findGrown_140 : decode prog_14_method_103_code 140 = .ok (.aload_n 0, 1) := by decide +kernel
theorem d_Md_findGrown_141 : decode prog_14_method_103_code 141 = .ok (.getfield 507, 3) := by decide +kernel
theorem d_Md_findGrown_144 : decode prog_14_method_103_code 144 = .ok (.ifCond .lt 7, 3) := by decide +kernel
theorem d_Md_findGrown_147 : decode prog_14_method_103_code 147 = .ok (.iconst 1, 1) := by decide +kernel
theorem d_Md_findGrown_148 : decode prog_14_method_103_code 148 = .ok (.goto 4, 3) := by decide +kernel
theorem d_Md_findGrown_151 : decode prog_14_method_103_code 151 = .ok (.iconst 0, 1) := by decide +kernel
theorem d_Md_findGrown_152 : decode prog_14_method_103_code 152 = .ok (.ireturn, 1) := by decide +kernel
abbrev S_Md_findGrown : Type := Nat × Nat × Int32 × Int32 × Int32 × Int32 × Int32 × AM
noncomputable def T_Md_findGrown_0 (v0R : Nat) (σ : AM) : S_Md_findGrown ⊕ Option (Int32 × AM) :=
  gdT (okO σ v0R 12) <| bndT (M_Md_findMust v0R σ) fun _ σ2 => .inl (1, v0R, (0 : Int32), (0 : Int32), 0, 0, 0, σ2)
noncomputable def T_Md_findGrown_1 (v0R : Nat) (v1I : Int32) (v2I : Int32) (σ : AM) : S_Md_findGrown ⊕ Option (Int32 × AM) :=
  gdT (okO σ v0R 12) <| if v2I < (aI σ v0R 29) then (if v1I = 0 then (gdT (okO σ (aR σ v0R 30) 102) <| gdT (inB v2I (aN σ (aR σ v0R 30))) <| bndT (M_Md_fits v0R (aL σ (aR σ v0R 30) v2I.toNatClampNeg) σ) fun r4 σ5 => if r4 = 0 then (.inl (3, v0R, 0, v2I, 0, 0, (0 : Int32), σ5)) else (.inl (2, v0R, 0, v2I, 0, 0, 0, σ5))) else (.inl (2, v0R, 0, v2I, 0, 0, 0, σ))) else (if v1I = 0 then (if (aI σ v0R 37) = 0 then (.inl (4, 0, 0, 0, 0, 0, 0, σ)) else (letT (sI σ v0R 65 ((-1) : Int32)) fun σ6 => .inl (5, v0R, 0, (1 : Int32), 0, 0, 0, σ6))) else (.inl (4, 0, 0, 0, 0, 0, 0, σ)))
noncomputable def T_Md_findGrown_2 (v0R : Nat) (v2I : Int32) (σ : AM) : S_Md_findGrown ⊕ Option (Int32 × AM) :=
  .inl (3, v0R, 0, v2I, 0, 0, (1 : Int32), σ)
noncomputable def T_Md_findGrown_3 (v0R : Nat) (v2I : Int32) (s0I : Int32) (σ : AM) : S_Md_findGrown ⊕ Option (Int32 × AM) :=
  .inl (1, v0R, s0I, v2I + (1 : Int32), 0, 0, 0, σ)
noncomputable def T_Md_findGrown_4  (σ : AM) : S_Md_findGrown ⊕ Option (Int32 × AM) :=
  .inr (some ((0 : Int32), σ))
noncomputable def T_Md_findGrown_5 (v0R : Nat) (v2I : Int32) (σ : AM) : S_Md_findGrown ⊕ Option (Int32 × AM) :=
  if (5 : Int32) < v2I then (.inl (9, v0R, 0, 0, 0, 0, 0, σ)) else (gdT (okO σ v0R 12) <| if (aI σ v0R 65) < 0 then (letT (sI σ v0R 64 v2I) fun σ2 => .inl (6, v0R, 0, v2I, (0 : Int32), 0, 0, σ2)) else (.inl (9, v0R, 0, 0, 0, 0, 0, σ)))
noncomputable def T_Md_findGrown_6 (v0R : Nat) (v2I : Int32) (v3I : Int32) (σ : AM) : S_Md_findGrown ⊕ Option (Int32 × AM) :=
  gdT (okO σ v0R 12) <| if v3I < (aI σ v0R 10) then (.inl (7, v0R, 0, v2I, v3I, (0 : Int32), 0, σ)) else (.inl (5, v0R, 0, v2I + (1 : Int32), 0, 0, 0, σ))
noncomputable def T_Md_findGrown_7 (v0R : Nat) (v2I : Int32) (v3I : Int32) (v4I : Int32) (σ : AM) : S_Md_findGrown ⊕ Option (Int32 × AM) :=
  gdT (okO σ v0R 12) <| if v4I < (aI σ v0R 26) then (gdT (okO σ (aR σ v0R 28) 103) <| gdT (inB v4I (aN σ (aR σ v0R 28))) <| if (aI σ (aR σ v0R 28) v4I.toNatClampNeg) = 0 then (.inl (8, v0R, 0, v2I, v3I, v4I, 0, σ)) else (bndT (M_Md_growsBy v0R v4I v3I v2I σ) fun _ σ5 => .inl (8, v0R, 0, v2I, v3I, v4I, 0, σ5))) else (.inl (6, v0R, 0, v2I, v3I + (1 : Int32), 0, 0, σ))
noncomputable def T_Md_findGrown_8 (v0R : Nat) (v2I : Int32) (v3I : Int32) (v4I : Int32) (σ : AM) : S_Md_findGrown ⊕ Option (Int32 × AM) :=
  .inl (7, v0R, 0, v2I, v3I, v4I + (1 : Int32), 0, σ)
noncomputable def T_Md_findGrown_9 (v0R : Nat) (σ : AM) : S_Md_findGrown ⊕ Option (Int32 × AM) :=
  gdT (okO σ v0R 12) <| if (aI σ v0R 65) < 0 then (.inl (10, 0, 0, 0, 0, 0, (0 : Int32), σ)) else (.inl (10, 0, 0, 0, 0, 0, (1 : Int32), σ))
noncomputable def T_Md_findGrown_10 (s0I : Int32) (σ : AM) : S_Md_findGrown ⊕ Option (Int32 × AM) :=
  gdT (isB s0I) <| .inr (some (s0I, σ))
noncomputable def F_Md_findGrown : S_Md_findGrown → S_Md_findGrown ⊕ Option (Int32 × AM) := fun s => match s.1 with
  | 0 => T_Md_findGrown_0 (s.2.1) (s.2.2.2.2.2.2.2)
  | 1 => T_Md_findGrown_1 (s.2.1) (s.2.2.1) (s.2.2.2.1) (s.2.2.2.2.2.2.2)
  | 2 => T_Md_findGrown_2 (s.2.1) (s.2.2.2.1) (s.2.2.2.2.2.2.2)
  | 3 => T_Md_findGrown_3 (s.2.1) (s.2.2.2.1) (s.2.2.2.2.2.2.1) (s.2.2.2.2.2.2.2)
  | 4 => T_Md_findGrown_4  (s.2.2.2.2.2.2.2)
  | 5 => T_Md_findGrown_5 (s.2.1) (s.2.2.2.1) (s.2.2.2.2.2.2.2)
  | 6 => T_Md_findGrown_6 (s.2.1) (s.2.2.2.1) (s.2.2.2.2.1) (s.2.2.2.2.2.2.2)
  | 7 => T_Md_findGrown_7 (s.2.1) (s.2.2.2.1) (s.2.2.2.2.1) (s.2.2.2.2.2.1) (s.2.2.2.2.2.2.2)
  | 8 => T_Md_findGrown_8 (s.2.1) (s.2.2.2.1) (s.2.2.2.2.1) (s.2.2.2.2.2.1) (s.2.2.2.2.2.2.2)
  | 9 => T_Md_findGrown_9 (s.2.1) (s.2.2.2.2.2.2.2)
  | _ => T_Md_findGrown_10 (s.2.2.2.2.2.2.1) (s.2.2.2.2.2.2.2)
noncomputable def L_Md_findGrown_0 (v0R : Nat) (σ : AM) : Option (Int32 × AM) := lp F_Md_findGrown (0, v0R, 0, 0, 0, 0, 0, σ)
noncomputable def L_Md_findGrown_1 (v0R : Nat) (v1I : Int32) (v2I : Int32) (σ : AM) : Option (Int32 × AM) := lp F_Md_findGrown (1, v0R, v1I, v2I, 0, 0, 0, σ)
noncomputable def L_Md_findGrown_2 (v0R : Nat) (v2I : Int32) (σ : AM) : Option (Int32 × AM) := lp F_Md_findGrown (2, v0R, 0, v2I, 0, 0, 0, σ)
noncomputable def L_Md_findGrown_3 (v0R : Nat) (v2I : Int32) (s0I : Int32) (σ : AM) : Option (Int32 × AM) := lp F_Md_findGrown (3, v0R, 0, v2I, 0, 0, s0I, σ)
noncomputable def L_Md_findGrown_4  (σ : AM) : Option (Int32 × AM) := lp F_Md_findGrown (4, 0, 0, 0, 0, 0, 0, σ)
noncomputable def L_Md_findGrown_5 (v0R : Nat) (v2I : Int32) (σ : AM) : Option (Int32 × AM) := lp F_Md_findGrown (5, v0R, 0, v2I, 0, 0, 0, σ)
noncomputable def L_Md_findGrown_6 (v0R : Nat) (v2I : Int32) (v3I : Int32) (σ : AM) : Option (Int32 × AM) := lp F_Md_findGrown (6, v0R, 0, v2I, v3I, 0, 0, σ)
noncomputable def L_Md_findGrown_7 (v0R : Nat) (v2I : Int32) (v3I : Int32) (v4I : Int32) (σ : AM) : Option (Int32 × AM) := lp F_Md_findGrown (7, v0R, 0, v2I, v3I, v4I, 0, σ)
noncomputable def L_Md_findGrown_8 (v0R : Nat) (v2I : Int32) (v3I : Int32) (v4I : Int32) (σ : AM) : Option (Int32 × AM) := lp F_Md_findGrown (8, v0R, 0, v2I, v3I, v4I, 0, σ)
noncomputable def L_Md_findGrown_9 (v0R : Nat) (σ : AM) : Option (Int32 × AM) := lp F_Md_findGrown (9, v0R, 0, 0, 0, 0, 0, σ)
noncomputable def L_Md_findGrown_10 (s0I : Int32) (σ : AM) : Option (Int32 × AM) := lp F_Md_findGrown (10, 0, 0, 0, 0, 0, s0I, σ)
set_option maxRecDepth 20000 in
theorem E_Md_findGrown_0 (v0R : Nat) (σ : AM) : L_Md_findGrown_0 v0R σ = (gd (okO σ v0R 12) <| bnd (M_Md_findMust v0R σ) fun _ σ2 => L_Md_findGrown_1 v0R ((0 : Int32)) ((0 : Int32)) σ2) := by
  unfold L_Md_findGrown_0
  rw [lp_eq]
  show lpK (lp F_Md_findGrown) (T_Md_findGrown_0 v0R σ) = _
  unfold T_Md_findGrown_0
  simp only [lpK_ite, lq_inl, lq_inr, lpK_bnd, lpK_gd, lq_let]
  try rfl
set_option maxRecDepth 20000 in
theorem E_Md_findGrown_1 (v0R : Nat) (v1I : Int32) (v2I : Int32) (σ : AM) : L_Md_findGrown_1 v0R v1I v2I σ = (gd (okO σ v0R 12) <| if v2I < (aI σ v0R 29) then (if v1I = 0 then (gd (okO σ (aR σ v0R 30) 102) <| gd (inB v2I (aN σ (aR σ v0R 30))) <| bnd (M_Md_fits v0R (aL σ (aR σ v0R 30) v2I.toNatClampNeg) σ) fun r4 σ5 => if r4 = 0 then (L_Md_findGrown_3 v0R v2I ((0 : Int32)) σ5) else (L_Md_findGrown_2 v0R v2I σ5)) else (L_Md_findGrown_2 v0R v2I σ)) else (if v1I = 0 then (if (aI σ v0R 37) = 0 then (L_Md_findGrown_4 σ) else (letT (sI σ v0R 65 ((-1) : Int32)) fun σ6 => L_Md_findGrown_5 v0R ((1 : Int32)) σ6)) else (L_Md_findGrown_4 σ))) := by
  unfold L_Md_findGrown_1
  rw [lp_eq]
  show lpK (lp F_Md_findGrown) (T_Md_findGrown_1 v0R v1I v2I σ) = _
  unfold T_Md_findGrown_1
  simp only [lpK_ite, lq_inl, lq_inr, lpK_bnd, lpK_gd, lq_let]
  try rfl
set_option maxRecDepth 20000 in
theorem E_Md_findGrown_2 (v0R : Nat) (v2I : Int32) (σ : AM) : L_Md_findGrown_2 v0R v2I σ = (L_Md_findGrown_3 v0R v2I ((1 : Int32)) σ) := by
  unfold L_Md_findGrown_2
  rw [lp_eq]
  show lpK (lp F_Md_findGrown) (T_Md_findGrown_2 v0R v2I σ) = _
  unfold T_Md_findGrown_2
  simp only [lpK_ite, lq_inl, lq_inr, lpK_bnd, lpK_gd, lq_let]
  try rfl
set_option maxRecDepth 20000 in
theorem E_Md_findGrown_3 (v0R : Nat) (v2I : Int32) (s0I : Int32) (σ : AM) : L_Md_findGrown_3 v0R v2I s0I σ = (L_Md_findGrown_1 v0R s0I (v2I + (1 : Int32)) σ) := by
  unfold L_Md_findGrown_3
  rw [lp_eq]
  show lpK (lp F_Md_findGrown) (T_Md_findGrown_3 v0R v2I s0I σ) = _
  unfold T_Md_findGrown_3
  simp only [lpK_ite, lq_inl, lq_inr, lpK_bnd, lpK_gd, lq_let]
  try rfl
set_option maxRecDepth 20000 in
theorem E_Md_findGrown_4  (σ : AM) : L_Md_findGrown_4  σ = ((some ((0 : Int32), σ))) := by
  unfold L_Md_findGrown_4
  rw [lp_eq]
  show lpK (lp F_Md_findGrown) (T_Md_findGrown_4  σ) = _
  unfold T_Md_findGrown_4
  simp only [lpK_ite, lq_inl, lq_inr, lpK_bnd, lpK_gd, lq_let]
  try rfl
set_option maxRecDepth 20000 in
theorem E_Md_findGrown_5 (v0R : Nat) (v2I : Int32) (σ : AM) : L_Md_findGrown_5 v0R v2I σ = (if (5 : Int32) < v2I then (L_Md_findGrown_9 v0R σ) else (gd (okO σ v0R 12) <| if (aI σ v0R 65) < 0 then (letT (sI σ v0R 64 v2I) fun σ2 => L_Md_findGrown_6 v0R v2I ((0 : Int32)) σ2) else (L_Md_findGrown_9 v0R σ))) := by
  unfold L_Md_findGrown_5
  rw [lp_eq]
  show lpK (lp F_Md_findGrown) (T_Md_findGrown_5 v0R v2I σ) = _
  unfold T_Md_findGrown_5
  simp only [lpK_ite, lq_inl, lq_inr, lpK_bnd, lpK_gd, lq_let]
  try rfl
set_option maxRecDepth 20000 in
theorem E_Md_findGrown_6 (v0R : Nat) (v2I : Int32) (v3I : Int32) (σ : AM) : L_Md_findGrown_6 v0R v2I v3I σ = (gd (okO σ v0R 12) <| if v3I < (aI σ v0R 10) then (L_Md_findGrown_7 v0R v2I v3I ((0 : Int32)) σ) else (L_Md_findGrown_5 v0R (v2I + (1 : Int32)) σ)) := by
  unfold L_Md_findGrown_6
  rw [lp_eq]
  show lpK (lp F_Md_findGrown) (T_Md_findGrown_6 v0R v2I v3I σ) = _
  unfold T_Md_findGrown_6
  simp only [lpK_ite, lq_inl, lq_inr, lpK_bnd, lpK_gd, lq_let]
  try rfl
set_option maxRecDepth 20000 in
theorem E_Md_findGrown_7 (v0R : Nat) (v2I : Int32) (v3I : Int32) (v4I : Int32) (σ : AM) : L_Md_findGrown_7 v0R v2I v3I v4I σ = (gd (okO σ v0R 12) <| if v4I < (aI σ v0R 26) then (gd (okO σ (aR σ v0R 28) 103) <| gd (inB v4I (aN σ (aR σ v0R 28))) <| if (aI σ (aR σ v0R 28) v4I.toNatClampNeg) = 0 then (L_Md_findGrown_8 v0R v2I v3I v4I σ) else (bnd (M_Md_growsBy v0R v4I v3I v2I σ) fun _ σ5 => L_Md_findGrown_8 v0R v2I v3I v4I σ5)) else (L_Md_findGrown_6 v0R v2I (v3I + (1 : Int32)) σ)) := by
  unfold L_Md_findGrown_7
  rw [lp_eq]
  show lpK (lp F_Md_findGrown) (T_Md_findGrown_7 v0R v2I v3I v4I σ) = _
  unfold T_Md_findGrown_7
  simp only [lpK_ite, lq_inl, lq_inr, lpK_bnd, lpK_gd, lq_let]
  try rfl
set_option maxRecDepth 20000 in
theorem E_Md_findGrown_8 (v0R : Nat) (v2I : Int32) (v3I : Int32) (v4I : Int32) (σ : AM) : L_Md_findGrown_8 v0R v2I v3I v4I σ = (L_Md_findGrown_7 v0R v2I v3I (v4I + (1 : Int32)) σ) := by
  unfold L_Md_findGrown_8
  rw [lp_eq]
  show lpK (lp F_Md_findGrown) (T_Md_findGrown_8 v0R v2I v3I v4I σ) = _
  unfold T_Md_findGrown_8
  simp only [lpK_ite, lq_inl, lq_inr, lpK_bnd, lpK_gd, lq_let]
  try rfl
set_option maxRecDepth 20000 in
theorem E_Md_findGrown_9 (v0R : Nat) (σ : AM) : L_Md_findGrown_9 v0R σ = (gd (okO σ v0R 12) <| if (aI σ v0R 65) < 0 then (L_Md_findGrown_10 ((0 : Int32)) σ) else (L_Md_findGrown_10 ((1 : Int32)) σ)) := by
  unfold L_Md_findGrown_9
  rw [lp_eq]
  show lpK (lp F_Md_findGrown) (T_Md_findGrown_9 v0R σ) = _
  unfold T_Md_findGrown_9
  simp only [lpK_ite, lq_inl, lq_inr, lpK_bnd, lpK_gd, lq_let]
  try rfl
set_option maxRecDepth 20000 in
theorem E_Md_findGrown_10 (s0I : Int32) (σ : AM) : L_Md_findGrown_10 s0I σ = (gd (isB s0I) <| (some (s0I, σ))) := by
  unfold L_Md_findGrown_10
  rw [lp_eq]
  show lpK (lp F_Md_findGrown) (T_Md_findGrown_10 s0I σ) = _
  unfold T_Md_findGrown_10
  simp only [lpK_ite, lq_inl, lq_inr, lpK_bnd, lpK_gd, lq_let]
  try rfl
noncomputable def M_Md_findGrown (v0R : Nat) (σ : AM) : Option (Int32 × AM) := mw σ (L_Md_findGrown_0 v0R σ)
def I_Md_findGrown (G : GX) (p : Program) (l : Launch) (e : Env) (s : State) (m : MethodId) (args : Array Value) (below : List Frame) (meth : Method) (c : Code) (z0 u0 n : Nat) : Prop :=
  (∀ (v0R : Nat) (σ : AM), VX (QM eI G args s below z0 u0) G p l e s m args below meth c 4 z0 u0 5 (lpn F_Md_findGrown n (0, v0R, 0, 0, 0, 0, 0, σ)) 0 [(0, .ref v0R)] [] σ) ∧
  (∀ (v0R : Nat) (v1I : Int32) (v2I : Int32) (σ : AM), VX (QM eI G args s below z0 u0) G p l e s m args below meth c 4 z0 u0 5 (lpn F_Md_findGrown n (1, v0R, v1I, v2I, 0, 0, 0, σ)) 8 [(0, .ref v0R), (1, .int v1I), (2, .int v2I)] [] σ) ∧
  (∀ (v0R : Nat) (v2I : Int32) (σ : AM), VX (QM eI G args s below z0 u0) G p l e s m args below meth c 4 z0 u0 5 (lpn F_Md_findGrown n (2, v0R, 0, v2I, 0, 0, 0, σ)) 33 [(0, .ref v0R), (2, .int v2I)] [] σ) ∧
  (∀ (v0R : Nat) (v2I : Int32) (s0I : Int32) (σ : AM), VX (QM eI G args s below z0 u0) G p l e s m args below meth c 4 z0 u0 5 (lpn F_Md_findGrown n (3, v0R, 0, v2I, 0, 0, s0I, σ)) 38 [(0, .ref v0R), (2, .int v2I)] [.int s0I] σ) ∧
  (∀ (σ : AM), VX (QM eI G args s below z0 u0) G p l e s m args below meth c 4 z0 u0 5 (lpn F_Md_findGrown n (4, 0, 0, 0, 0, 0, 0, σ)) 56 [] [] σ) ∧
  (∀ (v0R : Nat) (v2I : Int32) (σ : AM), VX (QM eI G args s below z0 u0) G p l e s m args below meth c 4 z0 u0 5 (lpn F_Md_findGrown n (5, v0R, 0, v2I, 0, 0, 0, σ)) 65 [(0, .ref v0R), (2, .int v2I)] [] σ) ∧
  (∀ (v0R : Nat) (v2I : Int32) (v3I : Int32) (σ : AM), VX (QM eI G args s below z0 u0) G p l e s m args below meth c 4 z0 u0 5 (lpn F_Md_findGrown n (6, v0R, 0, v2I, v3I, 0, 0, σ)) 84 [(0, .ref v0R), (2, .int v2I), (3, .int v3I)] [] σ) ∧
  (∀ (v0R : Nat) (v2I : Int32) (v3I : Int32) (v4I : Int32) (σ : AM), VX (QM eI G args s below z0 u0) G p l e s m args below meth c 4 z0 u0 5 (lpn F_Md_findGrown n (7, v0R, 0, v2I, v3I, v4I, 0, σ)) 95 [(0, .ref v0R), (2, .int v2I), (3, .int v3I), (4, .int v4I)] [] σ) ∧
  (∀ (v0R : Nat) (v2I : Int32) (v3I : Int32) (v4I : Int32) (σ : AM), VX (QM eI G args s below z0 u0) G p l e s m args below meth c 4 z0 u0 5 (lpn F_Md_findGrown n (8, v0R, 0, v2I, v3I, v4I, 0, σ)) 122 [(0, .ref v0R), (2, .int v2I), (3, .int v3I), (4, .int v4I)] [] σ) ∧
  (∀ (v0R : Nat) (σ : AM), VX (QM eI G args s below z0 u0) G p l e s m args below meth c 4 z0 u0 5 (lpn F_Md_findGrown n (9, v0R, 0, 0, 0, 0, 0, σ)) 140 [(0, .ref v0R)] [] σ) ∧
  (∀ (s0I : Int32) (σ : AM), VX (QM eI G args s below z0 u0) G p l e s m args below meth c 4 z0 u0 5 (lpn F_Md_findGrown n (10, 0, 0, 0, 0, 0, s0I, σ)) 152 [] [.int s0I] σ)
set_option maxRecDepth 20000 in
theorem s_Md_findGrown_0 {G : GX} {p : Program} {l : Launch} {e : Env} {s : State} {m : MethodId} {args : Array Value} {below : List Frame} {meth : Method} {c : Code} {z0 u0 n : Nat} (C : Cx G p s m args meth c prog_14_method_103_code 5 "BellPlateModel" ((some FieldType.boolean))) (IH : I_Md_findGrown G p l e s m args below meth c z0 u0 n) (v0R : Nat) (σ : AM) : VX (QM eI G args s below z0 u0) G p l e s m args below meth c 4 z0 u0 5 (lpK (lpn F_Md_findGrown n) (T_Md_findGrown_0 v0R σ)) 0 [(0, .ref v0R)] [] σ := by
  unfold T_Md_findGrown_0
  refine x_iconst (v := (0 : Int32)) C d_Md_findGrown_0 (by decide) ?_
  refine x_istore_n (lv' := [(1, .int (0 : Int32)), (0, .ref v0R)]) C d_Md_findGrown_1 (by decide) rfl rfl ?_
  refine x_aload_n C d_Md_findGrown_2 1 rfl ?_
  refine x_gd (fun h3 => ?_)
  refine x_callVV (As := []) C (c_Md_findMust G l v0R  σ) (okO_iff.mp h3) rfl w2217 w86 w2215 w2218 w134 k_Md_findMust rfl (by decide) (by decide) rfl (Nat.le_of_ble_eq_true rfl) d_Md_findGrown_3 (fun r1 σ2 => ?_)
  refine x_iconst (v := (0 : Int32)) C d_Md_findGrown_6 (by decide) ?_
  refine x_istore_n (lv' := [(2, .int (0 : Int32)), (1, .int (0 : Int32)), (0, .ref v0R)]) C d_Md_findGrown_7 (by decide) rfl rfl ?_
  refine x_lv [2, 1, 0] rfl ?_
  exact IH.2.1 v0R ((0 : Int32)) ((0 : Int32)) (σ2)
set_option maxRecDepth 20000 in
theorem s_Md_findGrown_1 {G : GX} {p : Program} {l : Launch} {e : Env} {s : State} {m : MethodId} {args : Array Value} {below : List Frame} {meth : Method} {c : Code} {z0 u0 n : Nat} (C : Cx G p s m args meth c prog_14_method_103_code 5 "BellPlateModel" ((some FieldType.boolean))) (IH : I_Md_findGrown G p l e s m args below meth c z0 u0 n) (v0R : Nat) (v1I : Int32) (v2I : Int32) (σ : AM) : VX (QM eI G args s below z0 u0) G p l e s m args below meth c 4 z0 u0 5 (lpK (lpn F_Md_findGrown n) (T_Md_findGrown_1 v0R v1I v2I σ)) 8 [(0, .ref v0R), (1, .int v1I), (2, .int v2I)] [] σ := by
  unfold T_Md_findGrown_1
  refine x_iload_n C d_Md_findGrown_8 2 rfl ?_
  refine x_aload_n C d_Md_findGrown_9 0 rfl ?_
  refine x_gd (fun h1 => ?_)
  refine x_getI (k := 29) C (okO_iff.mp h1) rfl j11_ok (by decide) rfl w1881 d_Md_findGrown_10 ?_
  refine x_icmp_ge (tgt := 45) C d_Md_findGrown_13 (by decide) (fun _ => ?_) (fun _ => ?_)
  · refine x_iload_n C d_Md_findGrown_16 1 rfl ?_
    refine x_if_ne (tgt := 33) C d_Md_findGrown_17 (by decide) (fun _ => ?_) (fun _ => ?_)
    · refine x_aload_n C d_Md_findGrown_20 0 rfl ?_
      refine x_aload_n C d_Md_findGrown_21 0 rfl ?_
      refine x_gd (fun h2 => ?_)
      refine x_getR (k := 30) (kv := 102) C (okO_iff.mp h1) rfl j11_ok (by decide) rfl (okO_iff.mp h2) (by decide) w1882 d_Md_findGrown_22 ?_
      refine x_iload_n C d_Md_findGrown_25 2 rfl ?_
      refine x_gd (fun h3 => ?_)
      refine x_aldJ C (okO_iff.mp h2) (inB_iff.mp h3) d_Md_findGrown_26 ?_
      refine x_callVI (As := [.long (aL σ (aR σ v0R 30) v2I.toNatClampNeg)]) C (c_Md_fits G l v0R (aL σ (aR σ v0R 30) v2I.toNatClampNeg) σ) (okO_iff.mp h1) rfl w2225 w88 w2223 w2226 w134 k_Md_fits rfl (by decide) (by decide) rfl (Nat.le_of_ble_eq_true rfl) d_Md_findGrown_27 (fun r4 σ5 => ?_)
      refine x_if_eq (tgt := 37) C d_Md_findGrown_30 (by decide) (fun _ => ?_) (fun _ => ?_)
      · refine x_iconst (v := (0 : Int32)) C d_Md_findGrown_37 (by decide) ?_
        refine x_lv [0, 2] rfl ?_
        exact IH.2.2.2.1 v0R v2I ((0 : Int32)) (σ5)
      · refine x_lv [0, 2] rfl ?_
        exact IH.2.2.1 v0R v2I (σ5)
    · refine x_lv [0, 2] rfl ?_
      exact IH.2.2.1 v0R v2I (σ)
  · refine x_iload_n C d_Md_findGrown_45 1 rfl ?_
    refine x_if_ne (tgt := 56) C d_Md_findGrown_46 (by decide) (fun _ => ?_) (fun _ => ?_)
    · refine x_aload_n C d_Md_findGrown_49 0 rfl ?_
      refine x_getI (k := 37) C (okO_iff.mp h1) rfl j11_ok (by decide) rfl w1889 d_Md_findGrown_50 ?_
      refine x_if_ne (tgt := 58) C d_Md_findGrown_53 (by decide) (fun _ => ?_) (fun _ => ?_)
      · refine x_lv [] rfl ?_
        exact IH.2.2.2.2.1  (σ)
      · refine x_aload_n C d_Md_findGrown_58 0 rfl ?_
        refine x_iconst (v := ((-1) : Int32)) C d_Md_findGrown_59 (by decide) ?_
        refine x_putI (k := 65) C (okO_iff.mp h1) rfl j11_ok y11_ok n11_ok (by decide) rfl rfl rfl rfl w1917 d_Md_findGrown_60 ?_
        refine x_letS (fun σ6 e7 => ?_)
        refine x_iconst (v := (1 : Int32)) C d_Md_findGrown_63 (by decide) ?_
        refine x_istore_n (lv' := [(2, .int (1 : Int32)), (0, .ref v0R), (1, .int v1I)]) C d_Md_findGrown_64 (by decide) rfl rfl ?_
        refine x_lv [1, 0] rfl ?_
        exact IH.2.2.2.2.2.1 v0R ((1 : Int32)) (σ6)
    · refine x_lv [] rfl ?_
      exact IH.2.2.2.2.1  (σ)
set_option maxRecDepth 20000 in
theorem s_Md_findGrown_2 {G : GX} {p : Program} {l : Launch} {e : Env} {s : State} {m : MethodId} {args : Array Value} {below : List Frame} {meth : Method} {c : Code} {z0 u0 n : Nat} (C : Cx G p s m args meth c prog_14_method_103_code 5 "BellPlateModel" ((some FieldType.boolean))) (IH : I_Md_findGrown G p l e s m args below meth c z0 u0 n) (v0R : Nat) (v2I : Int32) (σ : AM) : VX (QM eI G args s below z0 u0) G p l e s m args below meth c 4 z0 u0 5 (lpK (lpn F_Md_findGrown n) (T_Md_findGrown_2 v0R v2I σ)) 33 [(0, .ref v0R), (2, .int v2I)] [] σ := by
  unfold T_Md_findGrown_2
  refine x_iconst (v := (1 : Int32)) C d_Md_findGrown_33 (by decide) ?_
  refine x_goto (tgt := 38) C d_Md_findGrown_34 (by decide) ?_
  exact IH.2.2.2.1 v0R v2I ((1 : Int32)) (σ)
set_option maxRecDepth 20000 in
theorem s_Md_findGrown_3 {G : GX} {p : Program} {l : Launch} {e : Env} {s : State} {m : MethodId} {args : Array Value} {below : List Frame} {meth : Method} {c : Code} {z0 u0 n : Nat} (C : Cx G p s m args meth c prog_14_method_103_code 5 "BellPlateModel" ((some FieldType.boolean))) (IH : I_Md_findGrown G p l e s m args below meth c z0 u0 n) (v0R : Nat) (v2I : Int32) (s0I : Int32) (σ : AM) : VX (QM eI G args s below z0 u0) G p l e s m args below meth c 4 z0 u0 5 (lpK (lpn F_Md_findGrown n) (T_Md_findGrown_3 v0R v2I s0I σ)) 38 [(0, .ref v0R), (2, .int v2I)] [.int s0I] σ := by
  unfold T_Md_findGrown_3
  refine x_istore_n (lv' := [(1, .int s0I), (0, .ref v0R), (2, .int v2I)]) C d_Md_findGrown_38 (by decide) rfl rfl ?_
  refine x_iinc (v := v2I + (1 : Int32)) (lv' := [(2, .int (v2I + (1 : Int32))), (1, .int s0I), (0, .ref v0R)]) C d_Md_findGrown_39 2 rfl rfl (by decide) rfl ?_
  refine x_goto (tgt := 8) C d_Md_findGrown_42 (by decide) ?_
  refine x_lv [2, 1, 0] rfl ?_
  exact IH.2.1 v0R s0I (v2I + (1 : Int32)) (σ)
set_option maxRecDepth 20000 in
theorem s_Md_findGrown_4 {G : GX} {p : Program} {l : Launch} {e : Env} {s : State} {m : MethodId} {args : Array Value} {below : List Frame} {meth : Method} {c : Code} {z0 u0 n : Nat} (C : Cx G p s m args meth c prog_14_method_103_code 5 "BellPlateModel" ((some FieldType.boolean))) (IH : I_Md_findGrown G p l e s m args below meth c z0 u0 n)  (σ : AM) : VX (QM eI G args s below z0 u0) G p l e s m args below meth c 4 z0 u0 5 (lpK (lpn F_Md_findGrown n) (T_Md_findGrown_4  σ)) 56 [] [] σ := by
  unfold T_Md_findGrown_4
  refine x_iconst (v := (0 : Int32)) C d_Md_findGrown_56 (by decide) ?_
  exact x_zret C (by decide) d_Md_findGrown_57
set_option maxRecDepth 20000 in
theorem s_Md_findGrown_5 {G : GX} {p : Program} {l : Launch} {e : Env} {s : State} {m : MethodId} {args : Array Value} {below : List Frame} {meth : Method} {c : Code} {z0 u0 n : Nat} (C : Cx G p s m args meth c prog_14_method_103_code 5 "BellPlateModel" ((some FieldType.boolean))) (IH : I_Md_findGrown G p l e s m args below meth c z0 u0 n) (v0R : Nat) (v2I : Int32) (σ : AM) : VX (QM eI G args s below z0 u0) G p l e s m args below meth c 4 z0 u0 5 (lpK (lpn F_Md_findGrown n) (T_Md_findGrown_5 v0R v2I σ)) 65 [(0, .ref v0R), (2, .int v2I)] [] σ := by
  unfold T_Md_findGrown_5
  refine x_iload_n C d_Md_findGrown_65 1 rfl ?_
  refine x_iconst (v := (5 : Int32)) C d_Md_findGrown_66 (by decide) ?_
  refine x_icmp_gt (tgt := 140) C d_Md_findGrown_67 (by decide) (fun _ => ?_) (fun _ => ?_)
  · refine x_lv [0] rfl ?_
    exact IH.2.2.2.2.2.2.2.2.2.1 v0R (σ)
  · refine x_aload_n C d_Md_findGrown_70 0 rfl ?_
    refine x_gd (fun h1 => ?_)
    refine x_getI (k := 65) C (okO_iff.mp h1) rfl j11_ok (by decide) rfl w1917 d_Md_findGrown_71 ?_
    refine x_if_ge (tgt := 140) C d_Md_findGrown_74 (by decide) (fun _ => ?_) (fun _ => ?_)
    · refine x_aload_n C d_Md_findGrown_77 0 rfl ?_
      refine x_iload_n C d_Md_findGrown_78 1 rfl ?_
      refine x_putI (k := 64) C (okO_iff.mp h1) rfl j11_ok y11_ok n11_ok (by decide) rfl rfl rfl rfl w1916 d_Md_findGrown_79 ?_
      refine x_letS (fun σ2 e3 => ?_)
      refine x_iconst (v := (0 : Int32)) C d_Md_findGrown_82 (by decide) ?_
      refine x_istore_n (lv' := [(3, .int (0 : Int32)), (0, .ref v0R), (2, .int v2I)]) C d_Md_findGrown_83 (by decide) rfl rfl ?_
      refine x_lv [1, 2, 0] rfl ?_
      exact IH.2.2.2.2.2.2.1 v0R v2I ((0 : Int32)) (σ2)
    · refine x_lv [0] rfl ?_
      exact IH.2.2.2.2.2.2.2.2.2.1 v0R (σ)
set_option maxRecDepth 20000 in
theorem s_Md_findGrown_6 {G : GX} {p : Program} {l : Launch} {e : Env} {s : State} {m : MethodId} {args : Array Value} {below : List Frame} {meth : Method} {c : Code} {z0 u0 n : Nat} (C : Cx G p s m args meth c prog_14_method_103_code 5 "BellPlateModel" ((some FieldType.boolean))) (IH : I_Md_findGrown G p l e s m args below meth c z0 u0 n) (v0R : Nat) (v2I : Int32) (v3I : Int32) (σ : AM) : VX (QM eI G args s below z0 u0) G p l e s m args below meth c 4 z0 u0 5 (lpK (lpn F_Md_findGrown n) (T_Md_findGrown_6 v0R v2I v3I σ)) 84 [(0, .ref v0R), (2, .int v2I), (3, .int v3I)] [] σ := by
  unfold T_Md_findGrown_6
  refine x_iload_n C d_Md_findGrown_84 2 rfl ?_
  refine x_aload_n C d_Md_findGrown_85 0 rfl ?_
  refine x_gd (fun h1 => ?_)
  refine x_getI (k := 10) C (okO_iff.mp h1) rfl j11_ok (by decide) rfl w1862 d_Md_findGrown_86 ?_
  refine x_icmp_ge (tgt := 134) C d_Md_findGrown_89 (by decide) (fun _ => ?_) (fun _ => ?_)
  · refine x_iconst (v := (0 : Int32)) C d_Md_findGrown_92 (by decide) ?_
    refine x_istore (lv' := [(4, .int (0 : Int32)), (0, .ref v0R), (2, .int v2I), (3, .int v3I)]) C d_Md_findGrown_93 (by decide) rfl ?_
    refine x_lv [1, 2, 3, 0] rfl ?_
    exact IH.2.2.2.2.2.2.2.1 v0R v2I v3I ((0 : Int32)) (σ)
  · refine x_iinc (v := v2I + (1 : Int32)) (lv' := [(2, .int (v2I + (1 : Int32))), (0, .ref v0R), (3, .int v3I)]) C d_Md_findGrown_134 1 rfl rfl (by decide) rfl ?_
    refine x_goto (tgt := 65) C d_Md_findGrown_137 (by decide) ?_
    refine x_lv [1, 0] rfl ?_
    exact IH.2.2.2.2.2.1 v0R (v2I + (1 : Int32)) (σ)
set_option maxRecDepth 20000 in
theorem s_Md_findGrown_7 {G : GX} {p : Program} {l : Launch} {e : Env} {s : State} {m : MethodId} {args : Array Value} {below : List Frame} {meth : Method} {c : Code} {z0 u0 n : Nat} (C : Cx G p s m args meth c prog_14_method_103_code 5 "BellPlateModel" ((some FieldType.boolean))) (IH : I_Md_findGrown G p l e s m args below meth c z0 u0 n) (v0R : Nat) (v2I : Int32) (v3I : Int32) (v4I : Int32) (σ : AM) : VX (QM eI G args s below z0 u0) G p l e s m args below meth c 4 z0 u0 5 (lpK (lpn F_Md_findGrown n) (T_Md_findGrown_7 v0R v2I v3I v4I σ)) 95 [(0, .ref v0R), (2, .int v2I), (3, .int v3I), (4, .int v4I)] [] σ := by
  unfold T_Md_findGrown_7
  refine x_iload C d_Md_findGrown_95 3 rfl ?_
  refine x_aload_n C d_Md_findGrown_97 0 rfl ?_
  refine x_gd (fun h1 => ?_)
  refine x_getI (k := 26) C (okO_iff.mp h1) rfl j11_ok (by decide) rfl w1878 d_Md_findGrown_98 ?_
  refine x_icmp_ge (tgt := 128) C d_Md_findGrown_101 (by decide) (fun _ => ?_) (fun _ => ?_)
  · refine x_aload_n C d_Md_findGrown_104 0 rfl ?_
    refine x_gd (fun h2 => ?_)
    refine x_getR (k := 28) (kv := 103) C (okO_iff.mp h1) rfl j11_ok (by decide) rfl (okO_iff.mp h2) (by decide) w1880 d_Md_findGrown_105 ?_
    refine x_iload C d_Md_findGrown_108 3 rfl ?_
    refine x_gd (fun h3 => ?_)
    refine x_aldZ C (okO_iff.mp h2) (inB_iff.mp h3) d_Md_findGrown_110 ?_
    refine x_if_eq (tgt := 122) C d_Md_findGrown_111 (by decide) (fun _ => ?_) (fun _ => ?_)
    · exact IH.2.2.2.2.2.2.2.2.1 v0R v2I v3I v4I (σ)
    · refine x_aload_n C d_Md_findGrown_114 0 rfl ?_
      refine x_iload C d_Md_findGrown_115 3 rfl ?_
      refine x_iload_n C d_Md_findGrown_117 2 rfl ?_
      refine x_iload_n C d_Md_findGrown_118 1 rfl ?_
      refine x_callVV (As := [.int v4I, .int v3I, .int v2I]) C (c_Md_growsBy G l v0R v4I v3I v2I σ) (okO_iff.mp h1) rfl w2423 w114 w2421 w2424 w134 k_Md_growsBy rfl (by decide) (by decide) rfl (Nat.le_of_ble_eq_true rfl) d_Md_findGrown_119 (fun r4 σ5 => ?_)
      exact IH.2.2.2.2.2.2.2.2.1 v0R v2I v3I v4I (σ5)
  · refine x_iinc (v := v3I + (1 : Int32)) (lv' := [(3, .int (v3I + (1 : Int32))), (0, .ref v0R), (2, .int v2I), (4, .int v4I)]) C d_Md_findGrown_128 2 rfl rfl (by decide) rfl ?_
    refine x_goto (tgt := 84) C d_Md_findGrown_131 (by decide) ?_
    refine x_lv [1, 2, 0] rfl ?_
    exact IH.2.2.2.2.2.2.1 v0R v2I (v3I + (1 : Int32)) (σ)
set_option maxRecDepth 20000 in
theorem s_Md_findGrown_8 {G : GX} {p : Program} {l : Launch} {e : Env} {s : State} {m : MethodId} {args : Array Value} {below : List Frame} {meth : Method} {c : Code} {z0 u0 n : Nat} (C : Cx G p s m args meth c prog_14_method_103_code 5 "BellPlateModel" ((some FieldType.boolean))) (IH : I_Md_findGrown G p l e s m args below meth c z0 u0 n) (v0R : Nat) (v2I : Int32) (v3I : Int32) (v4I : Int32) (σ : AM) : VX (QM eI G args s below z0 u0) G p l e s m args below meth c 4 z0 u0 5 (lpK (lpn F_Md_findGrown n) (T_Md_findGrown_8 v0R v2I v3I v4I σ)) 122 [(0, .ref v0R), (2, .int v2I), (3, .int v3I), (4, .int v4I)] [] σ := by
  unfold T_Md_findGrown_8
  refine x_iinc (v := v4I + (1 : Int32)) (lv' := [(4, .int (v4I + (1 : Int32))), (0, .ref v0R), (2, .int v2I), (3, .int v3I)]) C d_Md_findGrown_122 3 rfl rfl (by decide) rfl ?_
  refine x_goto (tgt := 95) C d_Md_findGrown_125 (by decide) ?_
  refine x_lv [1, 2, 3, 0] rfl ?_
  exact IH.2.2.2.2.2.2.2.1 v0R v2I v3I (v4I + (1 : Int32)) (σ)
set_option maxRecDepth 20000 in
theorem s_Md_findGrown_9 {G : GX} {p : Program} {l : Launch} {e : Env} {s : State} {m : MethodId} {args : Array Value} {below : List Frame} {meth : Method} {c : Code} {z0 u0 n : Nat} (C : Cx G p s m args meth c prog_14_method_103_code 5 "BellPlateModel" ((some FieldType.boolean))) (IH : I_Md_findGrown G p l e s m args below meth c z0 u0 n) (v0R : Nat) (σ : AM) : VX (QM eI G args s below z0 u0) G p l e s m args below meth c 4 z0 u0 5 (lpK (lpn F_Md_findGrown n) (T_Md_findGrown_9 v0R σ)) 140 [(0, .ref v0R)] [] σ := by
  unfold T_Md_findGrown_9
  refine x_aload_n C d_Md_findGrown_140 0 rfl ?_
  refine x_gd (fun h1 => ?_)
  refine x_getI (k := 65) C (okO_iff.mp h1) rfl j11_ok (by decide) rfl w1917 d_Md_findGrown_141 ?_
  refine x_if_lt (tgt := 151) C d_Md_findGrown_144 (by decide) (fun _ => ?_) (fun _ => ?_)
  · refine x_iconst (v := (0 : Int32)) C d_Md_findGrown_151 (by decide) ?_
    refine x_lv [] rfl ?_
    exact IH.2.2.2.2.2.2.2.2.2.2 ((0 : Int32)) (σ)
  · refine x_iconst (v := (1 : Int32)) C d_Md_findGrown_147 (by decide) ?_
    refine x_goto (tgt := 152) C d_Md_findGrown_148 (by decide) ?_
    refine x_lv [] rfl ?_
    exact IH.2.2.2.2.2.2.2.2.2.2 ((1 : Int32)) (σ)
set_option maxRecDepth 20000 in
theorem s_Md_findGrown_10 {G : GX} {p : Program} {l : Launch} {e : Env} {s : State} {m : MethodId} {args : Array Value} {below : List Frame} {meth : Method} {c : Code} {z0 u0 n : Nat} (C : Cx G p s m args meth c prog_14_method_103_code 5 "BellPlateModel" ((some FieldType.boolean))) (IH : I_Md_findGrown G p l e s m args below meth c z0 u0 n) (s0I : Int32) (σ : AM) : VX (QM eI G args s below z0 u0) G p l e s m args below meth c 4 z0 u0 5 (lpK (lpn F_Md_findGrown n) (T_Md_findGrown_10 s0I σ)) 152 [] [.int s0I] σ := by
  unfold T_Md_findGrown_10
  refine x_gd (fun h1 => ?_)
  exact x_zret C (isB_narrow h1) d_Md_findGrown_152
theorem i_Md_findGrown {G : GX} {p : Program} {l : Launch} {e : Env} {s : State} {m : MethodId} {args : Array Value} {below : List Frame} {meth : Method} {c : Code} {z0 u0 : Nat} (C : Cx G p s m args meth c prog_14_method_103_code 5 "BellPlateModel" ((some FieldType.boolean))) (n : Nat) : I_Md_findGrown G p l e s m args below meth c z0 u0 n := by
  induction n with
  | zero => exact ⟨fun _ _ => x_none, fun _ _ _ _ => x_none, fun _ _ _ => x_none, fun _ _ _ _ => x_none, fun _ => x_none, fun _ _ _ => x_none, fun _ _ _ _ => x_none, fun _ _ _ _ _ => x_none, fun _ _ _ _ _ => x_none, fun _ _ => x_none, fun _ _ => x_none⟩
  | succ n IH => exact ⟨fun v0R σ => s_Md_findGrown_0 C IH v0R σ, fun v0R v1I v2I σ => s_Md_findGrown_1 C IH v0R v1I v2I σ, fun v0R v2I σ => s_Md_findGrown_2 C IH v0R v2I σ, fun v0R v2I s0I σ => s_Md_findGrown_3 C IH v0R v2I s0I σ, fun σ => s_Md_findGrown_4 C IH σ, fun v0R v2I σ => s_Md_findGrown_5 C IH v0R v2I σ, fun v0R v2I v3I σ => s_Md_findGrown_6 C IH v0R v2I v3I σ, fun v0R v2I v3I v4I σ => s_Md_findGrown_7 C IH v0R v2I v3I v4I σ, fun v0R v2I v3I v4I σ => s_Md_findGrown_8 C IH v0R v2I v3I v4I σ, fun v0R σ => s_Md_findGrown_9 C IH v0R σ, fun s0I σ => s_Md_findGrown_10 C IH s0I σ⟩
theorem c_Md_findGrown (G : GX) (l : Launch) (v0R : Nat) (σ : AM) : CT eI G l 4 y_Md_findGrown prog_14_method_103_code 5 ((some FieldType.boolean)) [.ref v0R] σ (M_Md_findGrown v0R σ) := by
  refine ct_of (by decide +kernel) (Nat.le_of_ble_eq_true rfl) (fun p e s m args below meth c C hin => ?_)
  refine x_lve (lv' := [(0, .ref v0R)]) rfl ?_
  intro r σ' h
  obtain ⟨n, hn⟩ := (lp_iff _ _ _).mp h
  exact (i_Md_findGrown C n).1 v0R σ r σ' hn
/-! BellPlateModel.grown(I)I -/
abbrev y_Md_grown : MethodName := ⟨"BellPlateModel", "grown", "(I)I"⟩
theorem k_Md_grown : y_Md_grown.cls ≠ "java/lang/invoke/MethodHandle" ∧ y_Md_grown.cls ≠ "java/lang/invoke/VarHandle" ∧ (parseMethodDescriptor y_Md_grown.desc).map (fun d => d.parameters.length) = some 1 := by decide +kernel
theorem d_Md_grown_0 : decode prog_14_method_105_code 0 = .ok (.aload_n 0, 1) := by decide +kernel
theorem d_Md_grown_1 : decode prog_14_method_105_code 1 = .ok (.iconst 0, 1) := by decide +kernel
theorem d_Md_grown_2 : decode prog_14_method_105_code 2 = .ok (.putfield 1, 3) := by decide +kernel
theorem d_Md_grown_5 : decode prog_14_method_105_code 5 = .ok (.iload_n 1, 1) := by decide +kernel
theorem d_Md_grown_6 : decode prog_14_method_105_code 6 = .ok (.iconst 0, 1) := by decide +kernel
theorem d_Md_grown_7 : decode prog_14_method_105_code 7 = .ok (.iconst 2, 1) := by decide +kernel
theorem d_Md_grown_8 : decode prog_14_method_105_code 8 = .ok (.invokestatic 350, 3) := by decide +kernel
theorem d_Md_grown_11 : decode prog_14_method_105_code 11 = .ok (.ifCond .eq 10, 3) := by decide +kernel
theorem d_Md_grown_14 : decode prog_14_method_105_code 14 = .ok (.aload_n 0, 1) := by decide +kernel
theorem d_Md_grown_15 : decode prog_14_method_105_code 15 = .ok (.invokevirtual 526, 3) := by decide +kernel
theorem d_Md_grown_18 : decode prog_14_method_105_code 18 = .ok (.ifCond .ne 5, 3) := by decide +kernel
theorem d_Md_grown_21 : decode prog_14_method_105_code 21 = .ok (.iconst (-1), 1) := by decide +kernel
theorem d_Md_grown_22 : decode prog_14_method_105_code 22 = .ok (.ireturn, 1) := by decide +kernel
theorem d_Md_grown_23 : decode prog_14_method_105_code 23 = .ok (.iload_n 1, 1) := by decide +kernel
theorem d_Md_grown_24 : decode prog_14_method_105_code 24 = .ok (.ifCond .ne 10, 3) := by decide +kernel
theorem d_Md_grown_27 : decode prog_14_method_105_code 27 = .ok (.aload_n 0, 1) := by decide +kernel
theorem d_Md_grown_28 : decode prog_14_method_105_code 28 = .ok (.getfield 510, 3) := by decide +kernel
theorem d_Md_grown_31 : decode prog_14_method_105_code 31 = .ok (.goto 19, 3) := by decide +kernel
theorem d_Md_grown_34 : decode prog_14_method_105_code 34 = .ok (.iload_n 1, 1) := by decide +kernel
theorem d_Md_grown_35 : decode prog_14_method_105_code 35 = .ok (.iconst 1, 1) := by decide +kernel
theorem d_Md_grown_36 : decode prog_14_method_105_code 36 = .ok (.if_icmp .ne 10, 3) := by decide +kernel
theorem d_Md_grown_39 : decode prog_14_method_105_code 39 = .ok (.aload_n 0, 1) := by decide +kernel
theorem d_Md_grown_40 : decode prog_14_method_105_code 40 = .ok (.getfield 507, 3) := by decide +kernel
theorem d_Md_grown_43 : decode prog_14_method_105_code 43 = .ok (.goto 7, 3) := by decide +kernel
theorem d_Md_grown_46 : decode prog_14_method_105_code 46 = .ok (.aload_n 0, 1) := by decide +kernel
theorem d_Md_grown_47 : decode prog_14_method_105_code 47 = .ok (.getfield 523, 3) := by decide +kernel
theorem d_Md_grown_50 : decode prog_14_method_105_code 50 = .ok (.ireturn, 1) := by decide +kernel
abbrev S_Md_grown : Type := Nat × Nat × Int32 × Int32 × AM
noncomputable def T_Md_grown_0 (v0R : Nat) (v1I : Int32) (σ : AM) : S_Md_grown ⊕ Option (Int32 × AM) :=
  gdT (okO σ v0R 12) <| letT (sI σ v0R 0 (0 : Int32)) fun σ2 => bndT (M_Md_within v1I (0 : Int32) (2 : Int32) σ2) fun r4 σ5 => if r4 = 0 then (.inl (1, 0, 0, 0, σ5)) else (gdT (okO σ5 v0R 12) <| bndT (M_Md_findGrown v0R σ5) fun r6 σ7 => if r6 = 0 then (.inl (1, 0, 0, 0, σ7)) else (if v1I = 0 then (gdT (okO σ7 v0R 12) <| .inl (2, 0, 0, aI σ7 v0R 64, σ7)) else (if v1I = (1 : Int32) then (gdT (okO σ7 v0R 12) <| .inl (2, 0, 0, aI σ7 v0R 65, σ7)) else (gdT (okO σ7 v0R 12) <| .inl (2, 0, 0, aI σ7 v0R 66, σ7)))))
noncomputable def T_Md_grown_1  (σ : AM) : S_Md_grown ⊕ Option (Int32 × AM) :=
  .inr (some (((-1) : Int32), σ))
noncomputable def T_Md_grown_2 (s0I : Int32) (σ : AM) : S_Md_grown ⊕ Option (Int32 × AM) :=
  .inr (some (s0I, σ))
noncomputable def F_Md_grown : S_Md_grown → S_Md_grown ⊕ Option (Int32 × AM) := fun s => match s.1 with
  | 0 => T_Md_grown_0 (s.2.1) (s.2.2.1) (s.2.2.2.2)
  | 1 => T_Md_grown_1  (s.2.2.2.2)
  | _ => T_Md_grown_2 (s.2.2.2.1) (s.2.2.2.2)
noncomputable def L_Md_grown_0 (v0R : Nat) (v1I : Int32) (σ : AM) : Option (Int32 × AM) := lp F_Md_grown (0, v0R, v1I, 0, σ)
noncomputable def L_Md_grown_1  (σ : AM) : Option (Int32 × AM) := lp F_Md_grown (1, 0, 0, 0, σ)
noncomputable def L_Md_grown_2 (s0I : Int32) (σ : AM) : Option (Int32 × AM) := lp F_Md_grown (2, 0, 0, s0I, σ)
set_option maxRecDepth 20000 in
theorem E_Md_grown_0 (v0R : Nat) (v1I : Int32) (σ : AM) : L_Md_grown_0 v0R v1I σ = (gd (okO σ v0R 12) <| letT (sI σ v0R 0 (0 : Int32)) fun σ2 => bnd (M_Md_within v1I (0 : Int32) (2 : Int32) σ2) fun r4 σ5 => if r4 = 0 then (L_Md_grown_1 σ5) else (gd (okO σ5 v0R 12) <| bnd (M_Md_findGrown v0R σ5) fun r6 σ7 => if r6 = 0 then (L_Md_grown_1 σ7) else (if v1I = 0 then (gd (okO σ7 v0R 12) <| L_Md_grown_2 (aI σ7 v0R 64) σ7) else (if v1I = (1 : Int32) then (gd (okO σ7 v0R 12) <| L_Md_grown_2 (aI σ7 v0R 65) σ7) else (gd (okO σ7 v0R 12) <| L_Md_grown_2 (aI σ7 v0R 66) σ7))))) := by
  unfold L_Md_grown_0
  rw [lp_eq]
  show lpK (lp F_Md_grown) (T_Md_grown_0 v0R v1I σ) = _
  unfold T_Md_grown_0
  simp only [lpK_ite, lq_inl, lq_inr, lpK_bnd, lpK_gd, lq_let]
  try rfl
set_option maxRecDepth 20000 in
theorem E_Md_grown_1  (σ : AM) : L_Md_grown_1  σ = ((some (((-1) : Int32), σ))) := by
  unfold L_Md_grown_1
  rw [lp_eq]
  show lpK (lp F_Md_grown) (T_Md_grown_1  σ) = _
  unfold T_Md_grown_1
  simp only [lpK_ite, lq_inl, lq_inr, lpK_bnd, lpK_gd, lq_let]
  try rfl
set_option maxRecDepth 20000 in
theorem E_Md_grown_2 (s0I : Int32) (σ : AM) : L_Md_grown_2 s0I σ = ((some (s0I, σ))) := by
  unfold L_Md_grown_2
  rw [lp_eq]
  show lpK (lp F_Md_grown) (T_Md_grown_2 s0I σ) = _
  unfold T_Md_grown_2
  simp only [lpK_ite, lq_inl, lq_inr, lpK_bnd, lpK_gd, lq_let]
  try rfl
noncomputable def M_Md_grown (v0R : Nat) (v1I : Int32) (σ : AM) : Option (Int32 × AM) := mw σ (L_Md_grown_0 v0R v1I σ)
def I_Md_grown (G : GX) (p : Program) (l : Launch) (e : Env) (s : State) (m : MethodId) (args : Array Value) (below : List Frame) (meth : Method) (c : Code) (z0 u0 n : Nat) : Prop :=
  (∀ (v0R : Nat) (v1I : Int32) (σ : AM), VX (QM eI G args s below z0 u0) G p l e s m args below meth c 5 z0 u0 2 (lpn F_Md_grown n (0, v0R, v1I, 0, σ)) 0 [(0, .ref v0R), (1, .int v1I)] [] σ) ∧
  (∀ (σ : AM), VX (QM eI G args s below z0 u0) G p l e s m args below meth c 5 z0 u0 2 (lpn F_Md_grown n (1, 0, 0, 0, σ)) 21 [] [] σ) ∧
  (∀ (s0I : Int32) (σ : AM), VX (QM eI G args s below z0 u0) G p l e s m args below meth c 5 z0 u0 2 (lpn F_Md_grown n (2, 0, 0, s0I, σ)) 50 [] [.int s0I] σ)
set_option maxRecDepth 20000 in
theorem s_Md_grown_0 {G : GX} {p : Program} {l : Launch} {e : Env} {s : State} {m : MethodId} {args : Array Value} {below : List Frame} {meth : Method} {c : Code} {z0 u0 n : Nat} (C : Cx G p s m args meth c prog_14_method_105_code 2 "BellPlateModel" ((some FieldType.int))) (IH : I_Md_grown G p l e s m args below meth c z0 u0 n) (v0R : Nat) (v1I : Int32) (σ : AM) : VX (QM eI G args s below z0 u0) G p l e s m args below meth c 5 z0 u0 2 (lpK (lpn F_Md_grown n) (T_Md_grown_0 v0R v1I σ)) 0 [(0, .ref v0R), (1, .int v1I)] [] σ := by
  unfold T_Md_grown_0
  refine x_aload_n C d_Md_grown_0 0 rfl ?_
  refine x_iconst (v := (0 : Int32)) C d_Md_grown_1 (by decide) ?_
  refine x_gd (fun h1 => ?_)
  refine x_putI (k := 0) C (okO_iff.mp h1) rfl j11_ok y11_ok n11_ok (by decide) rfl rfl rfl rfl w1852 d_Md_grown_2 ?_
  refine x_letS (fun σ2 e3 => ?_)
  refine x_iload_n C d_Md_grown_5 1 rfl ?_
  refine x_iconst (v := (0 : Int32)) C d_Md_grown_6 (by decide) ?_
  refine x_iconst (v := (2 : Int32)) C d_Md_grown_7 (by decide) ?_
  refine x_callSI (As := [.int v1I, .int (0 : Int32), .int (2 : Int32)]) C (c_Md_within G l v1I (0 : Int32) (2 : Int32) σ2) w2205 w2204 w2206 w134 k_Md_within rfl (by decide) (by decide) rfl (Nat.le_of_ble_eq_true rfl) d_Md_grown_8 (fun r4 σ5 => ?_)
  refine x_if_eq (tgt := 21) C d_Md_grown_11 (by decide) (fun _ => ?_) (fun _ => ?_)
  · refine x_lv [] rfl ?_
    exact IH.2.1  (σ5)
  · refine x_aload_n C d_Md_grown_14 0 rfl ?_
    refine x_gd (fun h8 => ?_)
    refine x_callVI (As := []) C (c_Md_findGrown G l v0R  σ5) (okO_iff.mp h8) rfl w2419 w113 w2417 w2420 w134 k_Md_findGrown rfl (by decide) (by decide) rfl (Nat.le_of_ble_eq_true rfl) d_Md_grown_15 (fun r6 σ7 => ?_)
    refine x_if_ne (tgt := 23) C d_Md_grown_18 (by decide) (fun _ => ?_) (fun _ => ?_)
    · refine x_lv [] rfl ?_
      exact IH.2.1  (σ7)
    · refine x_iload_n C d_Md_grown_23 1 rfl ?_
      refine x_if_ne (tgt := 34) C d_Md_grown_24 (by decide) (fun _ => ?_) (fun _ => ?_)
      · refine x_aload_n C d_Md_grown_27 0 rfl ?_
        refine x_gd (fun h9 => ?_)
        refine x_getI (k := 64) C (okO_iff.mp h9) rfl j11_ok (by decide) rfl w1916 d_Md_grown_28 ?_
        refine x_goto (tgt := 50) C d_Md_grown_31 (by decide) ?_
        refine x_lv [] rfl ?_
        exact IH.2.2 (aI σ7 v0R 64) (σ7)
      · refine x_iload_n C d_Md_grown_34 1 rfl ?_
        refine x_iconst (v := (1 : Int32)) C d_Md_grown_35 (by decide) ?_
        refine x_icmp_ne (tgt := 46) C d_Md_grown_36 (by decide) (fun _ => ?_) (fun _ => ?_)
        · refine x_aload_n C d_Md_grown_39 0 rfl ?_
          refine x_gd (fun h10 => ?_)
          refine x_getI (k := 65) C (okO_iff.mp h10) rfl j11_ok (by decide) rfl w1917 d_Md_grown_40 ?_
          refine x_goto (tgt := 50) C d_Md_grown_43 (by decide) ?_
          refine x_lv [] rfl ?_
          exact IH.2.2 (aI σ7 v0R 65) (σ7)
        · refine x_aload_n C d_Md_grown_46 0 rfl ?_
          refine x_gd (fun h11 => ?_)
          refine x_getI (k := 66) C (okO_iff.mp h11) rfl j11_ok (by decide) rfl w1918 d_Md_grown_47 ?_
          refine x_lv [] rfl ?_
          exact IH.2.2 (aI σ7 v0R 66) (σ7)
set_option maxRecDepth 20000 in
theorem s_Md_grown_1 {G : GX} {p : Program} {l : Launch} {e : Env} {s : State} {m : MethodId} {args : Array Value} {below : List Frame} {meth : Method} {c : Code} {z0 u0 n : Nat} (C : Cx G p s m args meth c prog_14_method_105_code 2 "BellPlateModel" ((some FieldType.int))) (IH : I_Md_grown G p l e s m args below meth c z0 u0 n)  (σ : AM) : VX (QM eI G args s below z0 u0) G p l e s m args below meth c 5 z0 u0 2 (lpK (lpn F_Md_grown n) (T_Md_grown_1  σ)) 21 [] [] σ := by
  unfold T_Md_grown_1
  refine x_iconst (v := ((-1) : Int32)) C d_Md_grown_21 (by decide) ?_
  exact x_iret C d_Md_grown_22
set_option maxRecDepth 20000 in
theorem s_Md_grown_2 {G : GX} {p : Program} {l : Launch} {e : Env} {s : State} {m : MethodId} {args : Array Value} {below : List Frame} {meth : Method} {c : Code} {z0 u0 n : Nat} (C : Cx G p s m args meth c prog_14_method_105_code 2 "BellPlateModel" ((some FieldType.int))) (IH : I_Md_grown G p l e s m args below meth c z0 u0 n) (s0I : Int32) (σ : AM) : VX (QM eI G args s below z0 u0) G p l e s m args below meth c 5 z0 u0 2 (lpK (lpn F_Md_grown n) (T_Md_grown_2 s0I σ)) 50 [] [.int s0I] σ := by
  unfold T_Md_grown_2
  exact x_iret C d_Md_grown_50
theorem i_Md_grown {G : GX} {p : Program} {l : Launch} {e : Env} {s : State} {m : MethodId} {args : Array Value} {below : List Frame} {meth : Method} {c : Code} {z0 u0 : Nat} (C : Cx G p s m args meth c prog_14_method_105_code 2 "BellPlateModel" ((some FieldType.int))) (n : Nat) : I_Md_grown G p l e s m args below meth c z0 u0 n := by
  induction n with
  | zero => exact ⟨fun _ _ _ => x_none, fun _ => x_none, fun _ _ => x_none⟩
  | succ n IH => exact ⟨fun v0R v1I σ => s_Md_grown_0 C IH v0R v1I σ, fun σ => s_Md_grown_1 C IH σ, fun s0I σ => s_Md_grown_2 C IH s0I σ⟩
theorem c_Md_grown (G : GX) (l : Launch) (v0R : Nat) (v1I : Int32) (σ : AM) : CT eI G l 5 y_Md_grown prog_14_method_105_code 2 ((some FieldType.int)) [.ref v0R, .int v1I] σ (M_Md_grown v0R v1I σ) := by
  refine ct_of (by decide +kernel) (Nat.le_of_ble_eq_true rfl) (fun p e s m args below meth c C hin => ?_)
  refine x_lve (lv' := [(0, .ref v0R), (1, .int v1I)]) rfl ?_
  intro r σ' h
  obtain ⟨n, hn⟩ := (lp_iff _ _ _).mp h
  exact (i_Md_grown C n).1 v0R v1I σ r σ' hn
/-! BellPlateModel.lateBy(I)I -/
abbrev y_Md_lateBy : MethodName := ⟨"BellPlateModel", "lateBy", "(I)I"⟩
theorem k_Md_lateBy : y_Md_lateBy.cls ≠ "java/lang/invoke/MethodHandle" ∧ y_Md_lateBy.cls ≠ "java/lang/invoke/VarHandle" ∧ (parseMethodDescriptor y_Md_lateBy.desc).map (fun d => d.parameters.length) = some 1 := by decide +kernel
theorem d_Md_lateBy_0 : decode prog_14_method_106_code 0 = .ok (.lconst 0, 1) := by decide +kernel
theorem d_Md_lateBy_1 : decode prog_14_method_106_code 1 = .ok (.lstore_n 2, 1) := by decide +kernel
theorem d_Md_lateBy_2 : decode prog_14_method_106_code 2 = .ok (.lconst 0, 1) := by decide +kernel
theorem d_Md_lateBy_3 : decode prog_14_method_106_code 3 = .ok (.lstore 4, 2) := by decide +kernel
theorem d_Md_lateBy_5 : decode prog_14_method_106_code 5 = .ok (.iload_n 1, 1) := by decide +kernel
theorem d_Md_lateBy_6 : decode prog_14_method_106_code 6 = .ok (.istore 6, 2) := by decide +kernel
theorem d_Md_lateBy_8 : decode prog_14_method_106_code 8 = .ok (.iload 6, 2) := by decide +kernel
theorem d_Md_lateBy_10 : decode prog_14_method_106_code 10 = .ok (.aload_n 0, 1) := by decide +kernel
theorem d_Md_lateBy_11 : decode prog_14_method_106_code 11 = .ok (.getfield 245, 3) := by decide +kernel
theorem d_Md_lateBy_14 : decode prog_14_method_106_code 14 = .ok (.if_icmp .ge 67, 3) := by decide +kernel
theorem d_Md_lateBy_17 : decode prog_14_method_106_code 17 = .ok (.lload_n 2, 1) := by decide +kernel
theorem d_Md_lateBy_18 : decode prog_14_method_106_code 18 = .ok (.aload_n 0, 1) := by decide +kernel
theorem d_Md_lateBy_19 : decode prog_14_method_106_code 19 = .ok (.getfield 107, 3) := by decide +kernel
theorem d_Md_lateBy_22 : decode prog_14_method_106_code 22 = .ok (.iload 6, 2) := by decide +kernel
theorem d_Md_lateBy_24 : decode prog_14_method_106_code 24 = .ok (.baload, 1) := by decide +kernel
theorem d_Md_lateBy_25 : decode prog_14_method_106_code 25 = .ok (.ifCond .eq 17, 3) := by decide +kernel
theorem d_Md_lateBy_28 : decode prog_14_method_106_code 28 = .ok (.lconst 1, 1) := by decide +kernel
theorem d_Md_lateBy_29 : decode prog_14_method_106_code 29 = .ok (.aload_n 0, 1) := by decide +kernel
theorem d_Md_lateBy_30 : decode prog_14_method_106_code 30 = .ok (.getfield 104, 3) := by decide +kernel
theorem d_Md_lateBy_33 : decode prog_14_method_106_code 33 = .ok (.iload 6, 2) := by decide +kernel
theorem d_Md_lateBy_35 : decode prog_14_method_106_code 35 = .ok (.iload_n 1, 1) := by decide +kernel
theorem d_Md_lateBy_36 : decode prog_14_method_106_code 36 = .ok (.isub, 1) := by decide +kernel
theorem d_Md_lateBy_37 : decode prog_14_method_106_code 37 = .ok (.iaload, 1) := by decide +kernel
theorem d_Md_lateBy_38 : decode prog_14_method_106_code 38 = .ok (.lshl, 1) := by decide +kernel
theorem d_Md_lateBy_39 : decode prog_14_method_106_code 39 = .ok (.goto 4, 3) := by decide +kernel
theorem d_Md_lateBy_42 : decode prog_14_method_106_code 42 = .ok (.lconst 0, 1) := by decide +kernel
theorem d_Md_lateBy_43 : decode prog_14_method_106_code 43 = .ok (.lor, 1) := by decide +kernel
theorem d_Md_lateBy_44 : decode prog_14_method_106_code 44 = .ok (.lstore_n 2, 1) := by decide +kernel
theorem d_Md_lateBy_45 : decode prog_14_method_106_code 45 = .ok (.lload 4, 2) := by decide +kernel
theorem d_Md_lateBy_47 : decode prog_14_method_106_code 47 = .ok (.aload_n 0, 1) := by decide +kernel
theorem d_Md_lateBy_48 : decode prog_14_method_106_code 48 = .ok (.getfield 107, 3) := by decide +kernel
theorem d_Md_lateBy_51 : decode prog_14_method_106_code 51 = .ok (.iload 6, 2) := by decide +kernel
theorem d_Md_lateBy_53 : decode prog_14_method_106_code 53 = .ok (.baload, 1) := by decide +kernel
theorem d_Md_lateBy_54 : decode prog_14_method_106_code 54 = .ok (.ifCond .eq 7, 3) := by decide +kernel
theorem d_Md_lateBy_57 : decode prog_14_method_106_code 57 = .ok (.lconst 0, 1) := by decide +kernel
theorem d_Md_lateBy_58 : decode prog_14_method_106_code 58 = .ok (.goto 14, 3) := by decide +kernel
theorem d_Md_lateBy_61 : decode prog_14_method_106_code 61 = .ok (.lconst 1, 1) := by decide +kernel
theorem d_Md_lateBy_62 : decode prog_14_method_106_code 62 = .ok (.aload_n 0, 1) := by decide +kernel
theorem d_Md_lateBy_63 : decode prog_14_method_106_code 63 = .ok (.getfield 104, 3) := by decide +kernel
theorem d_Md_lateBy_66 : decode prog_14_method_106_code 66 = .ok (.iload 6, 2) := by decide +kernel
theorem d_Md_lateBy_68 : decode prog_14_method_106_code 68 = .ok (.iload_n 1, 1) := by decide +kernel
theorem d_Md_lateBy_69 : decode prog_14_method_106_code 69 = .ok (.isub, 1) := by decide +kernel
theorem d_Md_lateBy_70 : decode prog_14_method_106_code 70 = .ok (.iaload, 1) := by decide +kernel
theorem d_Md_lateBy_71 : decode prog_14_method_106_code 71 = .ok (.lshl, 1) := by decide +kernel
theorem d_Md_lateBy_72 : decode prog_14_method_106_code 72 = .ok (.lor, 1) := by decide +kernel
theorem d_Md_lateBy_73 : decode prog_14_method_106_code 73 = .ok (.lstore 4, 2) := by decide +kernel
theorem d_Md_lateBy_75 : decode prog_14_method_106_code 75 = .ok (.iinc 6 1, 3) := by decide +kernel
theorem d_Md_lateBy_78 : decode prog_14_method_106_code 78 = .ok (.goto (-70), 3) := by decide +kernel
theorem d_Md_lateBy_81 : decode prog_14_method_106_code 81 = .ok (.iconst 0, 1) := by decide +kernel
theorem d_Md_lateBy_82 : decode prog_14_method_106_code 82 = .ok (.istore 6, 2) := by decide +kernel
theorem d_Md_lateBy_84 : decode prog_14_method_106_code 84 = .ok (.iconst 0, 1) := by decide +kernel
theorem d_Md_lateBy_85 : decode prog_14_method_106_code 85 = .ok (.istore 7, 2) := by decide +kernel
theorem d_Md_lateBy_87 : decode prog_14_method_106_code 87 = .ok (.iload 7, 2) := by decide +kernel
theorem d_Md_lateBy_89 : decode prog_14_method_106_code 89 = .ok (.aload_n 0, 1) := by decide +kernel
theorem d_Md_lateBy_90 : decode prog_14_method_106_code 90 = .ok (.getfield 316, 3) := by decide +kernel
theorem d_Md_lateBy_93 : decode prog_14_method_106_code 93 = .ok (.if_icmp .ge 54, 3) := by decide +kernel
theorem d_Md_lateBy_96 : decode prog_14_method_106_code 96 = .ok (.iload 6, 2) := by decide +kernel
theorem d_Md_lateBy_98 : decode prog_14_method_106_code 98 = .ok (.aload_n 0, 1) := by decide +kernel
theorem d_Md_lateBy_99 : decode prog_14_method_106_code 99 = .ok (.getfield 82, 3) := by decide +kernel
theorem d_Md_lateBy_102 : decode prog_14_method_106_code 102 = .ok (.iload 7, 2) := by decide +kernel
theorem d_Md_lateBy_104 : decode prog_14_method_106_code 104 = .ok (.laload, 1) := by decide +kernel
theorem d_Md_lateBy_105 : decode prog_14_method_106_code 105 = .ok (.lload_n 2, 1) := by decide +kernel
theorem d_Md_lateBy_106 : decode prog_14_method_106_code 106 = .ok (.land, 1) := by decide +kernel
theorem d_Md_lateBy_107 : decode prog_14_method_106_code 107 = .ok (.lload_n 2, 1) := by decide +kernel
theorem d_Md_lateBy_108 : decode prog_14_method_106_code 108 = .ok (.lcmp, 1) := by decide +kernel
theorem d_Md_lateBy_109 : decode prog_14_method_106_code 109 = .ok (.ifCond .ne 28, 3) := by decide +kernel
theorem d_Md_lateBy_112 : decode prog_14_method_106_code 112 = .ok (.aload_n 0, 1) := by decide +kernel
theorem d_Md_lateBy_113 : decode prog_14_method_106_code 113 = .ok (.getfield 82, 3) := by decide +kernel
theorem d_Md_lateBy_116 : decode prog_14_method_106_code 116 = .ok (.iload 7, 2) := by decide +kernel
theorem d_Md_lateBy_118 : decode prog_14_method_106_code 118 = .ok (.laload, 1) := by decide +kernel
theorem d_Md_lateBy_119 : decode prog_14_method_106_code 119 = .ok (.lload 4, 2) := by decide +kernel
theorem d_Md_lateBy_121 : decode prog_14_method_106_code 121 = .ok (.land, 1) := by decide +kernel
theorem d_Md_lateBy_122 : decode prog_14_method_106_code 122 = .ok (.lconst 0, 1) := by decide +kernel
theorem d_Md_lateBy_123 : decode prog_14_method_106_code 123 = .ok (.lcmp, 1) := by decide +kernel
theorem d_Md_lateBy_124 : decode prog_14_method_106_code 124 = .ok (.ifCond .ne 13, 3) := by decide +kernel
theorem d_Md_lateBy_127 : decode prog_14_method_106_code 127 = .ok (.aload_n 0, 1) := by decide +kernel
theorem d_Md_lateBy_128 : decode prog_14_method_106_code 128 = .ok (.getfield 85, 3) := by decide +kernel
theorem d_Md_lateBy_131 : decode prog_14_method_106_code 131 = .ok (.iload 7, 2) := by decide +kernel
theorem d_Md_lateBy_133 : decode prog_14_method_106_code 133 = .ok (.iaload, 1) := by decide +kernel
theorem d_Md_lateBy_134 : decode prog_14_method_106_code 134 = .ok (.goto 4, 3) := by decide +kernel
theorem d_Md_lateBy_137 : decode prog_14_method_106_code 137 = .ok (.iconst 0, 1) := by decide +kernel
theorem d_Md_lateBy_138 : decode prog_14_method_106_code 138 = .ok (.iadd, 1) := by decide +kernel
theorem d_Md_lateBy_139 : decode prog_14_method_106_code 139 = .ok (.istore 6, 2) := by decide +kernel
theorem d_Md_lateBy_141 : decode prog_14_method_106_code 141 = .ok (.iinc 7 1, 3) := by decide +kernel
theorem d_Md_lateBy_144 : decode prog_14_method_106_code 144 = .ok (.goto (-57), 3) := by decide +kernel
theorem d_Md_lateBy_147 : decode prog_14_method_106_code 147 = .ok (.iload 6, 2) := by decide +kernel
theorem d_Md_lateBy_149 : decode prog_14_method_106_code 149 = .ok (.ireturn, 1) := by decide +kernel
abbrev S_Md_lateBy : Type := Nat × Nat × Int32 × Int64 × Int64 × Int32 × Int32 × Int32 × Int64 × Int32 × Int64 × AM
noncomputable def T_Md_lateBy_0 (v0R : Nat) (v1I : Int32) (σ : AM) : S_Md_lateBy ⊕ Option (Int32 × AM) :=
  .inl (1, v0R, v1I, (0 : Int64), (0 : Int64), v1I, 0, 0, 0, 0, 0, σ)
noncomputable def T_Md_lateBy_1 (v0R : Nat) (v1I : Int32) (v2J : Int64) (v4J : Int64) (v6I : Int32) (σ : AM) : S_Md_lateBy ⊕ Option (Int32 × AM) :=
  gdT (okO σ v0R 12) <| if v6I < (aI σ v0R 37) then (gdT (okO σ (aR σ v0R 39) 103) <| gdT (inB v6I (aN σ (aR σ v0R 39))) <| if (aI σ (aR σ v0R 39) v6I.toNatClampNeg) = 0 then (.inl (2, v0R, v1I, 0, v4J, v6I, 0, 0, v2J, 0, (0 : Int64), σ)) else (gdT (okO σ (aR σ v0R 38) 101) <| gdT (inB (v6I - v1I) (aN σ (aR σ v0R 38))) <| .inl (2, v0R, v1I, 0, v4J, v6I, 0, 0, v2J, 0, (1 : Int64) <<< ((aI σ (aR σ v0R 38) (v6I - v1I).toNatClampNeg).toInt64 &&& 63), σ))) else (.inl (4, v0R, 0, v2J, v4J, (0 : Int32), (0 : Int32), 0, 0, 0, 0, σ))
noncomputable def T_Md_lateBy_2 (v0R : Nat) (v1I : Int32) (v4J : Int64) (v6I : Int32) (s0J : Int64) (s1J : Int64) (σ : AM) : S_Md_lateBy ⊕ Option (Int32 × AM) :=
  letT (s0J ||| s1J) fun x1 => gdT (okO σ v0R 12) <| gdT (okO σ (aR σ v0R 39) 103) <| gdT (inB v6I (aN σ (aR σ v0R 39))) <| if (aI σ (aR σ v0R 39) v6I.toNatClampNeg) = 0 then (gdT (okO σ (aR σ v0R 38) 101) <| gdT (inB (v6I - v1I) (aN σ (aR σ v0R 38))) <| .inl (3, v0R, v1I, x1, 0, v6I, 0, 0, v4J, 0, (1 : Int64) <<< ((aI σ (aR σ v0R 38) (v6I - v1I).toNatClampNeg).toInt64 &&& 63), σ)) else (.inl (3, v0R, v1I, x1, 0, v6I, 0, 0, v4J, 0, (0 : Int64), σ))
noncomputable def T_Md_lateBy_3 (v0R : Nat) (v1I : Int32) (v2J : Int64) (v6I : Int32) (s0J : Int64) (s1J : Int64) (σ : AM) : S_Md_lateBy ⊕ Option (Int32 × AM) :=
  letT (s0J ||| s1J) fun x1 => .inl (1, v0R, v1I, v2J, x1, v6I + (1 : Int32), 0, 0, 0, 0, 0, σ)
noncomputable def T_Md_lateBy_4 (v0R : Nat) (v2J : Int64) (v4J : Int64) (v6I : Int32) (v7I : Int32) (σ : AM) : S_Md_lateBy ⊕ Option (Int32 × AM) :=
  gdT (okO σ v0R 12) <| if v7I < (aI σ v0R 29) then (gdT (okO σ (aR σ v0R 30) 102) <| gdT (inB v7I (aN σ (aR σ v0R 30))) <| if (lg_cmp ((aL σ (aR σ v0R 30) v7I.toNatClampNeg) &&& v2J) v2J) = 0 then (if (lg_cmp ((aL σ (aR σ v0R 30) v7I.toNatClampNeg) &&& v4J) (0 : Int64)) = 0 then (gdT (okO σ (aR σ v0R 31) 101) <| gdT (inB v7I (aN σ (aR σ v0R 31))) <| .inl (6, v0R, 0, v2J, v4J, 0, v7I, v6I, 0, aI σ (aR σ v0R 31) v7I.toNatClampNeg, 0, σ)) else (.inl (5, v0R, 0, v2J, v4J, 0, v7I, v6I, 0, 0, 0, σ))) else (.inl (5, v0R, 0, v2J, v4J, 0, v7I, v6I, 0, 0, 0, σ))) else (.inr (some (v6I, σ)))
noncomputable def T_Md_lateBy_5 (v0R : Nat) (v2J : Int64) (v4J : Int64) (v7I : Int32) (s0I : Int32) (σ : AM) : S_Md_lateBy ⊕ Option (Int32 × AM) :=
  .inl (6, v0R, 0, v2J, v4J, 0, v7I, s0I, 0, (0 : Int32), 0, σ)
noncomputable def T_Md_lateBy_6 (v0R : Nat) (v2J : Int64) (v4J : Int64) (v7I : Int32) (s0I : Int32) (s1I : Int32) (σ : AM) : S_Md_lateBy ⊕ Option (Int32 × AM) :=
  letT (s0I + s1I) fun x1 => .inl (4, v0R, 0, v2J, v4J, x1, v7I + (1 : Int32), 0, 0, 0, 0, σ)
noncomputable def F_Md_lateBy : S_Md_lateBy → S_Md_lateBy ⊕ Option (Int32 × AM) := fun s => match s.1 with
  | 0 => T_Md_lateBy_0 (s.2.1) (s.2.2.1) (s.2.2.2.2.2.2.2.2.2.2.2)
  | 1 => T_Md_lateBy_1 (s.2.1) (s.2.2.1) (s.2.2.2.1) (s.2.2.2.2.1) (s.2.2.2.2.2.1) (s.2.2.2.2.2.2.2.2.2.2.2)
  | 2 => T_Md_lateBy_2 (s.2.1) (s.2.2.1) (s.2.2.2.2.1) (s.2.2.2.2.2.1) (s.2.2.2.2.2.2.2.2.1) (s.2.2.2.2.2.2.2.2.2.2.1) (s.2.2.2.2.2.2.2.2.2.2.2)
  | 3 => T_Md_lateBy_3 (s.2.1) (s.2.2.1) (s.2.2.2.1) (s.2.2.2.2.2.1) (s.2.2.2.2.2.2.2.2.1) (s.2.2.2.2.2.2.2.2.2.2.1) (s.2.2.2.2.2.2.2.2.2.2.2)
  | 4 => T_Md_lateBy_4 (s.2.1) (s.2.2.2.1) (s.2.2.2.2.1) (s.2.2.2.2.2.1) (s.2.2.2.2.2.2.1) (s.2.2.2.2.2.2.2.2.2.2.2)
  | 5 => T_Md_lateBy_5 (s.2.1) (s.2.2.2.1) (s.2.2.2.2.1) (s.2.2.2.2.2.2.1) (s.2.2.2.2.2.2.2.1) (s.2.2.2.2.2.2.2.2.2.2.2)
  | _ => T_Md_lateBy_6 (s.2.1) (s.2.2.2.1) (s.2.2.2.2.1) (s.2.2.2.2.2.2.1) (s.2.2.2.2.2.2.2.1) (s.2.2.2.2.2.2.2.2.2.1) (s.2.2.2.2.2.2.2.2.2.2.2)
noncomputable def L_Md_lateBy_0 (v0R : Nat) (v1I : Int32) (σ : AM) : Option (Int32 × AM) := lp F_Md_lateBy (0, v0R, v1I, 0, 0, 0, 0, 0, 0, 0, 0, σ)
noncomputable def L_Md_lateBy_1 (v0R : Nat) (v1I : Int32) (v2J : Int64) (v4J : Int64) (v6I : Int32) (σ : AM) : Option (Int32 × AM) := lp F_Md_lateBy (1, v0R, v1I, v2J, v4J, v6I, 0, 0, 0, 0, 0, σ)
noncomputable def L_Md_lateBy_2 (v0R : Nat) (v1I : Int32) (v4J : Int64) (v6I : Int32) (s0J : Int64) (s1J : Int64) (σ : AM) : Option (Int32 × AM) := lp F_Md_lateBy (2, v0R, v1I, 0, v4J, v6I, 0, 0, s0J, 0, s1J, σ)
noncomputable def L_Md_lateBy_3 (v0R : Nat) (v1I : Int32) (v2J : Int64) (v6I : Int32) (s0J : Int64) (s1J : Int64) (σ : AM) : Option (Int32 × AM) := lp F_Md_lateBy (3, v0R, v1I, v2J, 0, v6I, 0, 0, s0J, 0, s1J, σ)
noncomputable def L_Md_lateBy_4 (v0R : Nat) (v2J : Int64) (v4J : Int64) (v6I : Int32) (v7I : Int32) (σ : AM) : Option (Int32 × AM) := lp F_Md_lateBy (4, v0R, 0, v2J, v4J, v6I, v7I, 0, 0, 0, 0, σ)
noncomputable def L_Md_lateBy_5 (v0R : Nat) (v2J : Int64) (v4J : Int64) (v7I : Int32) (s0I : Int32) (σ : AM) : Option (Int32 × AM) := lp F_Md_lateBy (5, v0R, 0, v2J, v4J, 0, v7I, s0I, 0, 0, 0, σ)
noncomputable def L_Md_lateBy_6 (v0R : Nat) (v2J : Int64) (v4J : Int64) (v7I : Int32) (s0I : Int32) (s1I : Int32) (σ : AM) : Option (Int32 × AM) := lp F_Md_lateBy (6, v0R, 0, v2J, v4J, 0, v7I, s0I, 0, s1I, 0, σ)
set_option maxRecDepth 20000 in
theorem E_Md_lateBy_0 (v0R : Nat) (v1I : Int32) (σ : AM) : L_Md_lateBy_0 v0R v1I σ = (L_Md_lateBy_1 v0R v1I ((0 : Int64)) ((0 : Int64)) v1I σ) := by
  unfold L_Md_lateBy_0
  rw [lp_eq]
  show lpK (lp F_Md_lateBy) (T_Md_lateBy_0 v0R v1I σ) = _
  unfold T_Md_lateBy_0
  simp only [lpK_ite, lq_inl, lq_inr, lpK_bnd, lpK_gd, lq_let]
  try rfl
set_option maxRecDepth 20000 in
theorem E_Md_lateBy_1 (v0R : Nat) (v1I : Int32) (v2J : Int64) (v4J : Int64) (v6I : Int32) (σ : AM) : L_Md_lateBy_1 v0R v1I v2J v4J v6I σ = (gd (okO σ v0R 12) <| if v6I < (aI σ v0R 37) then (gd (okO σ (aR σ v0R 39) 103) <| gd (inB v6I (aN σ (aR σ v0R 39))) <| if (aI σ (aR σ v0R 39) v6I.toNatClampNeg) = 0 then (L_Md_lateBy_2 v0R v1I v4J v6I v2J ((0 : Int64)) σ) else (gd (okO σ (aR σ v0R 38) 101) <| gd (inB (v6I - v1I) (aN σ (aR σ v0R 38))) <| L_Md_lateBy_2 v0R v1I v4J v6I v2J ((1 : Int64) <<< ((aI σ (aR σ v0R 38) (v6I - v1I).toNatClampNeg).toInt64 &&& 63)) σ)) else (L_Md_lateBy_4 v0R v2J v4J ((0 : Int32)) ((0 : Int32)) σ)) := by
  unfold L_Md_lateBy_1
  rw [lp_eq]
  show lpK (lp F_Md_lateBy) (T_Md_lateBy_1 v0R v1I v2J v4J v6I σ) = _
  unfold T_Md_lateBy_1
  simp only [lpK_ite, lq_inl, lq_inr, lpK_bnd, lpK_gd, lq_let]
  try rfl
set_option maxRecDepth 20000 in
theorem E_Md_lateBy_2 (v0R : Nat) (v1I : Int32) (v4J : Int64) (v6I : Int32) (s0J : Int64) (s1J : Int64) (σ : AM) : L_Md_lateBy_2 v0R v1I v4J v6I s0J s1J σ = (letT (s0J ||| s1J) fun x1 => gd (okO σ v0R 12) <| gd (okO σ (aR σ v0R 39) 103) <| gd (inB v6I (aN σ (aR σ v0R 39))) <| if (aI σ (aR σ v0R 39) v6I.toNatClampNeg) = 0 then (gd (okO σ (aR σ v0R 38) 101) <| gd (inB (v6I - v1I) (aN σ (aR σ v0R 38))) <| L_Md_lateBy_3 v0R v1I x1 v6I v4J ((1 : Int64) <<< ((aI σ (aR σ v0R 38) (v6I - v1I).toNatClampNeg).toInt64 &&& 63)) σ) else (L_Md_lateBy_3 v0R v1I x1 v6I v4J ((0 : Int64)) σ)) := by
  unfold L_Md_lateBy_2
  rw [lp_eq]
  show lpK (lp F_Md_lateBy) (T_Md_lateBy_2 v0R v1I v4J v6I s0J s1J σ) = _
  unfold T_Md_lateBy_2
  simp only [lpK_ite, lq_inl, lq_inr, lpK_bnd, lpK_gd, lq_let]
  try rfl
set_option maxRecDepth 20000 in
theorem E_Md_lateBy_3 (v0R : Nat) (v1I : Int32) (v2J : Int64) (v6I : Int32) (s0J : Int64) (s1J : Int64) (σ : AM) : L_Md_lateBy_3 v0R v1I v2J v6I s0J s1J σ = (letT (s0J ||| s1J) fun x1 => L_Md_lateBy_1 v0R v1I v2J x1 (v6I + (1 : Int32)) σ) := by
  unfold L_Md_lateBy_3
  rw [lp_eq]
  show lpK (lp F_Md_lateBy) (T_Md_lateBy_3 v0R v1I v2J v6I s0J s1J σ) = _
  unfold T_Md_lateBy_3
  simp only [lpK_ite, lq_inl, lq_inr, lpK_bnd, lpK_gd, lq_let]
  try rfl
set_option maxRecDepth 20000 in
theorem E_Md_lateBy_4 (v0R : Nat) (v2J : Int64) (v4J : Int64) (v6I : Int32) (v7I : Int32) (σ : AM) : L_Md_lateBy_4 v0R v2J v4J v6I v7I σ = (gd (okO σ v0R 12) <| if v7I < (aI σ v0R 29) then (gd (okO σ (aR σ v0R 30) 102) <| gd (inB v7I (aN σ (aR σ v0R 30))) <| if (lg_cmp ((aL σ (aR σ v0R 30) v7I.toNatClampNeg) &&& v2J) v2J) = 0 then (if (lg_cmp ((aL σ (aR σ v0R 30) v7I.toNatClampNeg) &&& v4J) (0 : Int64)) = 0 then (gd (okO σ (aR σ v0R 31) 101) <| gd (inB v7I (aN σ (aR σ v0R 31))) <| L_Md_lateBy_6 v0R v2J v4J v7I v6I (aI σ (aR σ v0R 31) v7I.toNatClampNeg) σ) else (L_Md_lateBy_5 v0R v2J v4J v7I v6I σ)) else (L_Md_lateBy_5 v0R v2J v4J v7I v6I σ)) else ((some (v6I, σ)))) := by
  unfold L_Md_lateBy_4
  rw [lp_eq]
  show lpK (lp F_Md_lateBy) (T_Md_lateBy_4 v0R v2J v4J v6I v7I σ) = _
  unfold T_Md_lateBy_4
  simp only [lpK_ite, lq_inl, lq_inr, lpK_bnd, lpK_gd, lq_let]
  try rfl
set_option maxRecDepth 20000 in
theorem E_Md_lateBy_5 (v0R : Nat) (v2J : Int64) (v4J : Int64) (v7I : Int32) (s0I : Int32) (σ : AM) : L_Md_lateBy_5 v0R v2J v4J v7I s0I σ = (L_Md_lateBy_6 v0R v2J v4J v7I s0I ((0 : Int32)) σ) := by
  unfold L_Md_lateBy_5
  rw [lp_eq]
  show lpK (lp F_Md_lateBy) (T_Md_lateBy_5 v0R v2J v4J v7I s0I σ) = _
  unfold T_Md_lateBy_5
  simp only [lpK_ite, lq_inl, lq_inr, lpK_bnd, lpK_gd, lq_let]
  try rfl
set_option maxRecDepth 20000 in
theorem E_Md_lateBy_6 (v0R : Nat) (v2J : Int64) (v4J : Int64) (v7I : Int32) (s0I : Int32) (s1I : Int32) (σ : AM) : L_Md_lateBy_6 v0R v2J v4J v7I s0I s1I σ = (letT (s0I + s1I) fun x1 => L_Md_lateBy_4 v0R v2J v4J x1 (v7I + (1 : Int32)) σ) := by
  unfold L_Md_lateBy_6
  rw [lp_eq]
  show lpK (lp F_Md_lateBy) (T_Md_lateBy_6 v0R v2J v4J v7I s0I s1I σ) = _
  unfold T_Md_lateBy_6
  simp only [lpK_ite, lq_inl, lq_inr, lpK_bnd, lpK_gd, lq_let]
  try rfl
noncomputable def M_Md_lateBy (v0R : Nat) (v1I : Int32) (σ : AM) : Option (Int32 × AM) := mw σ (L_Md_lateBy_0 v0R v1I σ)
def I_Md_lateBy (G : GX) (p : Program) (l : Launch) (e : Env) (s : State) (m : MethodId) (args : Array Value) (below : List Frame) (meth : Method) (c : Code) (z0 u0 n : Nat) : Prop :=
  (∀ (v0R : Nat) (v1I : Int32) (σ : AM), VX (QM eI G args s below z0 u0) G p l e s m args below meth c 0 z0 u0 8 (lpn F_Md_lateBy n (0, v0R, v1I, 0, 0, 0, 0, 0, 0, 0, 0, σ)) 0 [(0, .ref v0R), (1, .int v1I)] [] σ) ∧
  (∀ (v0R : Nat) (v1I : Int32) (v2J : Int64) (v4J : Int64) (v6I : Int32) (σ : AM), VX (QM eI G args s below z0 u0) G p l e s m args below meth c 0 z0 u0 8 (lpn F_Md_lateBy n (1, v0R, v1I, v2J, v4J, v6I, 0, 0, 0, 0, 0, σ)) 8 [(0, .ref v0R), (1, .int v1I), (2, .long v2J), (4, .long v4J), (6, .int v6I)] [] σ) ∧
  (∀ (v0R : Nat) (v1I : Int32) (v4J : Int64) (v6I : Int32) (s0J : Int64) (s1J : Int64) (σ : AM), VX (QM eI G args s below z0 u0) G p l e s m args below meth c 0 z0 u0 8 (lpn F_Md_lateBy n (2, v0R, v1I, 0, v4J, v6I, 0, 0, s0J, 0, s1J, σ)) 43 [(0, .ref v0R), (1, .int v1I), (4, .long v4J), (6, .int v6I)] [.long s1J, .long s0J] σ) ∧
  (∀ (v0R : Nat) (v1I : Int32) (v2J : Int64) (v6I : Int32) (s0J : Int64) (s1J : Int64) (σ : AM), VX (QM eI G args s below z0 u0) G p l e s m args below meth c 0 z0 u0 8 (lpn F_Md_lateBy n (3, v0R, v1I, v2J, 0, v6I, 0, 0, s0J, 0, s1J, σ)) 72 [(0, .ref v0R), (1, .int v1I), (2, .long v2J), (6, .int v6I)] [.long s1J, .long s0J] σ) ∧
  (∀ (v0R : Nat) (v2J : Int64) (v4J : Int64) (v6I : Int32) (v7I : Int32) (σ : AM), VX (QM eI G args s below z0 u0) G p l e s m args below meth c 0 z0 u0 8 (lpn F_Md_lateBy n (4, v0R, 0, v2J, v4J, v6I, v7I, 0, 0, 0, 0, σ)) 87 [(0, .ref v0R), (2, .long v2J), (4, .long v4J), (6, .int v6I), (7, .int v7I)] [] σ) ∧
  (∀ (v0R : Nat) (v2J : Int64) (v4J : Int64) (v7I : Int32) (s0I : Int32) (σ : AM), VX (QM eI G args s below z0 u0) G p l e s m args below meth c 0 z0 u0 8 (lpn F_Md_lateBy n (5, v0R, 0, v2J, v4J, 0, v7I, s0I, 0, 0, 0, σ)) 137 [(0, .ref v0R), (2, .long v2J), (4, .long v4J), (7, .int v7I)] [.int s0I] σ) ∧
  (∀ (v0R : Nat) (v2J : Int64) (v4J : Int64) (v7I : Int32) (s0I : Int32) (s1I : Int32) (σ : AM), VX (QM eI G args s below z0 u0) G p l e s m args below meth c 0 z0 u0 8 (lpn F_Md_lateBy n (6, v0R, 0, v2J, v4J, 0, v7I, s0I, 0, s1I, 0, σ)) 138 [(0, .ref v0R), (2, .long v2J), (4, .long v4J), (7, .int v7I)] [.int s1I, .int s0I] σ)
set_option maxRecDepth 20000 in
theorem s_Md_lateBy_0 {G : GX} {p : Program} {l : Launch} {e : Env} {s : State} {m : MethodId} {args : Array Value} {below : List Frame} {meth : Method} {c : Code} {z0 u0 n : Nat} (C : Cx G p s m args meth c prog_14_method_106_code 8 "BellPlateModel" ((some FieldType.int))) (IH : I_Md_lateBy G p l e s m args below meth c z0 u0 n) (v0R : Nat) (v1I : Int32) (σ : AM) : VX (QM eI G args s below z0 u0) G p l e s m args below meth c 0 z0 u0 8 (lpK (lpn F_Md_lateBy n) (T_Md_lateBy_0 v0R v1I σ)) 0 [(0, .ref v0R), (1, .int v1I)] [] σ := by
  unfold T_Md_lateBy_0
  refine x_lconst (v := (0 : Int64)) C d_Md_lateBy_0 (by decide) ?_
  refine x_lstore_n (lv' := [(2, .long (0 : Int64)), (0, .ref v0R), (1, .int v1I)]) C d_Md_lateBy_1 (by decide) rfl rfl ?_
  refine x_lconst (v := (0 : Int64)) C d_Md_lateBy_2 (by decide) ?_
  refine x_lstore (lv' := [(4, .long (0 : Int64)), (2, .long (0 : Int64)), (0, .ref v0R), (1, .int v1I)]) C d_Md_lateBy_3 (by decide) rfl ?_
  refine x_iload_n C d_Md_lateBy_5 3 rfl ?_
  refine x_istore (lv' := [(6, .int v1I), (4, .long (0 : Int64)), (2, .long (0 : Int64)), (0, .ref v0R), (1, .int v1I)]) C d_Md_lateBy_6 (by decide) rfl ?_
  refine x_lv [3, 4, 2, 1, 0] rfl ?_
  exact IH.2.1 v0R v1I ((0 : Int64)) ((0 : Int64)) v1I (σ)
set_option maxRecDepth 20000 in
theorem s_Md_lateBy_1 {G : GX} {p : Program} {l : Launch} {e : Env} {s : State} {m : MethodId} {args : Array Value} {below : List Frame} {meth : Method} {c : Code} {z0 u0 n : Nat} (C : Cx G p s m args meth c prog_14_method_106_code 8 "BellPlateModel" ((some FieldType.int))) (IH : I_Md_lateBy G p l e s m args below meth c z0 u0 n) (v0R : Nat) (v1I : Int32) (v2J : Int64) (v4J : Int64) (v6I : Int32) (σ : AM) : VX (QM eI G args s below z0 u0) G p l e s m args below meth c 0 z0 u0 8 (lpK (lpn F_Md_lateBy n) (T_Md_lateBy_1 v0R v1I v2J v4J v6I σ)) 8 [(0, .ref v0R), (1, .int v1I), (2, .long v2J), (4, .long v4J), (6, .int v6I)] [] σ := by
  unfold T_Md_lateBy_1
  refine x_iload C d_Md_lateBy_8 4 rfl ?_
  refine x_aload_n C d_Md_lateBy_10 0 rfl ?_
  refine x_gd (fun h1 => ?_)
  refine x_getI (k := 37) C (okO_iff.mp h1) rfl j11_ok (by decide) rfl w1889 d_Md_lateBy_11 ?_
  refine x_icmp_ge (tgt := 81) C d_Md_lateBy_14 (by decide) (fun _ => ?_) (fun _ => ?_)
  · refine x_lload_n C d_Md_lateBy_17 2 rfl ?_
    refine x_aload_n C d_Md_lateBy_18 0 rfl ?_
    refine x_gd (fun h2 => ?_)
    refine x_getR (k := 39) (kv := 103) C (okO_iff.mp h1) rfl j11_ok (by decide) rfl (okO_iff.mp h2) (by decide) w1891 d_Md_lateBy_19 ?_
    refine x_iload C d_Md_lateBy_22 4 rfl ?_
    refine x_gd (fun h3 => ?_)
    refine x_aldZ C (okO_iff.mp h2) (inB_iff.mp h3) d_Md_lateBy_24 ?_
    refine x_if_eq (tgt := 42) C d_Md_lateBy_25 (by decide) (fun _ => ?_) (fun _ => ?_)
    · refine x_lconst (v := (0 : Int64)) C d_Md_lateBy_42 (by decide) ?_
      refine x_lv [0, 1, 3, 4] rfl ?_
      exact IH.2.2.1 v0R v1I v4J v6I v2J ((0 : Int64)) (σ)
    · refine x_lconst (v := (1 : Int64)) C d_Md_lateBy_28 (by decide) ?_
      refine x_aload_n C d_Md_lateBy_29 0 rfl ?_
      refine x_gd (fun h4 => ?_)
      refine x_getR (k := 38) (kv := 101) C (okO_iff.mp h1) rfl j11_ok (by decide) rfl (okO_iff.mp h4) (by decide) w1890 d_Md_lateBy_30 ?_
      refine x_iload C d_Md_lateBy_33 4 rfl ?_
      refine x_iload_n C d_Md_lateBy_35 1 rfl ?_
      refine x_isub C d_Md_lateBy_36 ?_
      refine x_gd (fun h5 => ?_)
      refine x_aldI C (okO_iff.mp h4) (inB_iff.mp h5) d_Md_lateBy_37 ?_
      refine x_lshl C d_Md_lateBy_38 ?_
      refine x_goto (tgt := 43) C d_Md_lateBy_39 (by decide) ?_
      refine x_lv [0, 1, 3, 4] rfl ?_
      exact IH.2.2.1 v0R v1I v4J v6I v2J ((1 : Int64) <<< ((aI σ (aR σ v0R 38) (v6I - v1I).toNatClampNeg).toInt64 &&& 63)) (σ)
  · refine x_iconst (v := (0 : Int32)) C d_Md_lateBy_81 (by decide) ?_
    refine x_istore (lv' := [(6, .int (0 : Int32)), (0, .ref v0R), (1, .int v1I), (2, .long v2J), (4, .long v4J)]) C d_Md_lateBy_82 (by decide) rfl ?_
    refine x_iconst (v := (0 : Int32)) C d_Md_lateBy_84 (by decide) ?_
    refine x_istore (lv' := [(7, .int (0 : Int32)), (6, .int (0 : Int32)), (0, .ref v0R), (1, .int v1I), (2, .long v2J), (4, .long v4J)]) C d_Md_lateBy_85 (by decide) rfl ?_
    refine x_lv [2, 4, 5, 1, 0] rfl ?_
    exact IH.2.2.2.2.1 v0R v2J v4J ((0 : Int32)) ((0 : Int32)) (σ)
set_option maxRecDepth 20000 in
theorem s_Md_lateBy_2 {G : GX} {p : Program} {l : Launch} {e : Env} {s : State} {m : MethodId} {args : Array Value} {below : List Frame} {meth : Method} {c : Code} {z0 u0 n : Nat} (C : Cx G p s m args meth c prog_14_method_106_code 8 "BellPlateModel" ((some FieldType.int))) (IH : I_Md_lateBy G p l e s m args below meth c z0 u0 n) (v0R : Nat) (v1I : Int32) (v4J : Int64) (v6I : Int32) (s0J : Int64) (s1J : Int64) (σ : AM) : VX (QM eI G args s below z0 u0) G p l e s m args below meth c 0 z0 u0 8 (lpK (lpn F_Md_lateBy n) (T_Md_lateBy_2 v0R v1I v4J v6I s0J s1J σ)) 43 [(0, .ref v0R), (1, .int v1I), (4, .long v4J), (6, .int v6I)] [.long s1J, .long s0J] σ := by
  unfold T_Md_lateBy_2
  refine x_lor C d_Md_lateBy_43 ?_
  refine x_letJ (fun x1 _ => ?_)
  refine x_lstore_n (lv' := [(2, .long x1), (0, .ref v0R), (1, .int v1I), (4, .long v4J), (6, .int v6I)]) C d_Md_lateBy_44 (by decide) rfl rfl ?_
  refine x_lload C d_Md_lateBy_45 3 rfl ?_
  refine x_aload_n C d_Md_lateBy_47 1 rfl ?_
  refine x_gd (fun h2 => ?_)
  refine x_gd (fun h3 => ?_)
  refine x_getR (k := 39) (kv := 103) C (okO_iff.mp h2) rfl j11_ok (by decide) rfl (okO_iff.mp h3) (by decide) w1891 d_Md_lateBy_48 ?_
  refine x_iload C d_Md_lateBy_51 4 rfl ?_
  refine x_gd (fun h4 => ?_)
  refine x_aldZ C (okO_iff.mp h3) (inB_iff.mp h4) d_Md_lateBy_53 ?_
  refine x_if_eq (tgt := 61) C d_Md_lateBy_54 (by decide) (fun _ => ?_) (fun _ => ?_)
  · refine x_lconst (v := (1 : Int64)) C d_Md_lateBy_61 (by decide) ?_
    refine x_aload_n C d_Md_lateBy_62 1 rfl ?_
    refine x_gd (fun h5 => ?_)
    refine x_getR (k := 38) (kv := 101) C (okO_iff.mp h2) rfl j11_ok (by decide) rfl (okO_iff.mp h5) (by decide) w1890 d_Md_lateBy_63 ?_
    refine x_iload C d_Md_lateBy_66 4 rfl ?_
    refine x_iload_n C d_Md_lateBy_68 2 rfl ?_
    refine x_isub C d_Md_lateBy_69 ?_
    refine x_gd (fun h6 => ?_)
    refine x_aldI C (okO_iff.mp h5) (inB_iff.mp h6) d_Md_lateBy_70 ?_
    refine x_lshl C d_Md_lateBy_71 ?_
    refine x_lv [1, 2, 0, 4] rfl ?_
    exact IH.2.2.2.1 v0R v1I x1 v6I v4J ((1 : Int64) <<< ((aI σ (aR σ v0R 38) (v6I - v1I).toNatClampNeg).toInt64 &&& 63)) (σ)
  · refine x_lconst (v := (0 : Int64)) C d_Md_lateBy_57 (by decide) ?_
    refine x_goto (tgt := 72) C d_Md_lateBy_58 (by decide) ?_
    refine x_lv [1, 2, 0, 4] rfl ?_
    exact IH.2.2.2.1 v0R v1I x1 v6I v4J ((0 : Int64)) (σ)
set_option maxRecDepth 20000 in
theorem s_Md_lateBy_3 {G : GX} {p : Program} {l : Launch} {e : Env} {s : State} {m : MethodId} {args : Array Value} {below : List Frame} {meth : Method} {c : Code} {z0 u0 n : Nat} (C : Cx G p s m args meth c prog_14_method_106_code 8 "BellPlateModel" ((some FieldType.int))) (IH : I_Md_lateBy G p l e s m args below meth c z0 u0 n) (v0R : Nat) (v1I : Int32) (v2J : Int64) (v6I : Int32) (s0J : Int64) (s1J : Int64) (σ : AM) : VX (QM eI G args s below z0 u0) G p l e s m args below meth c 0 z0 u0 8 (lpK (lpn F_Md_lateBy n) (T_Md_lateBy_3 v0R v1I v2J v6I s0J s1J σ)) 72 [(0, .ref v0R), (1, .int v1I), (2, .long v2J), (6, .int v6I)] [.long s1J, .long s0J] σ := by
  unfold T_Md_lateBy_3
  refine x_lor C d_Md_lateBy_72 ?_
  refine x_letJ (fun x1 _ => ?_)
  refine x_lstore (lv' := [(4, .long x1), (0, .ref v0R), (1, .int v1I), (2, .long v2J), (6, .int v6I)]) C d_Md_lateBy_73 (by decide) rfl ?_
  refine x_iinc (v := v6I + (1 : Int32)) (lv' := [(6, .int (v6I + (1 : Int32))), (4, .long x1), (0, .ref v0R), (1, .int v1I), (2, .long v2J)]) C d_Md_lateBy_75 4 rfl rfl (by decide) rfl ?_
  refine x_goto (tgt := 8) C d_Md_lateBy_78 (by decide) ?_
  refine x_lv [2, 3, 4, 1, 0] rfl ?_
  exact IH.2.1 v0R v1I v2J x1 (v6I + (1 : Int32)) (σ)
set_option maxRecDepth 20000 in
theorem s_Md_lateBy_4 {G : GX} {p : Program} {l : Launch} {e : Env} {s : State} {m : MethodId} {args : Array Value} {below : List Frame} {meth : Method} {c : Code} {z0 u0 n : Nat} (C : Cx G p s m args meth c prog_14_method_106_code 8 "BellPlateModel" ((some FieldType.int))) (IH : I_Md_lateBy G p l e s m args below meth c z0 u0 n) (v0R : Nat) (v2J : Int64) (v4J : Int64) (v6I : Int32) (v7I : Int32) (σ : AM) : VX (QM eI G args s below z0 u0) G p l e s m args below meth c 0 z0 u0 8 (lpK (lpn F_Md_lateBy n) (T_Md_lateBy_4 v0R v2J v4J v6I v7I σ)) 87 [(0, .ref v0R), (2, .long v2J), (4, .long v4J), (6, .int v6I), (7, .int v7I)] [] σ := by
  unfold T_Md_lateBy_4
  refine x_iload C d_Md_lateBy_87 4 rfl ?_
  refine x_aload_n C d_Md_lateBy_89 0 rfl ?_
  refine x_gd (fun h1 => ?_)
  refine x_getI (k := 29) C (okO_iff.mp h1) rfl j11_ok (by decide) rfl w1881 d_Md_lateBy_90 ?_
  refine x_icmp_ge (tgt := 147) C d_Md_lateBy_93 (by decide) (fun _ => ?_) (fun _ => ?_)
  · refine x_iload C d_Md_lateBy_96 3 rfl ?_
    refine x_aload_n C d_Md_lateBy_98 0 rfl ?_
    refine x_gd (fun h2 => ?_)
    refine x_getR (k := 30) (kv := 102) C (okO_iff.mp h1) rfl j11_ok (by decide) rfl (okO_iff.mp h2) (by decide) w1882 d_Md_lateBy_99 ?_
    refine x_iload C d_Md_lateBy_102 4 rfl ?_
    refine x_gd (fun h3 => ?_)
    refine x_aldJ C (okO_iff.mp h2) (inB_iff.mp h3) d_Md_lateBy_104 ?_
    refine x_lload_n C d_Md_lateBy_105 1 rfl ?_
    refine x_land C d_Md_lateBy_106 ?_
    refine x_lload_n C d_Md_lateBy_107 1 rfl ?_
    refine x_lcmp C d_Md_lateBy_108 ?_
    refine x_if_ne (tgt := 137) C d_Md_lateBy_109 (by decide) (fun _ => ?_) (fun _ => ?_)
    · refine x_aload_n C d_Md_lateBy_112 0 rfl ?_
      refine x_getR (k := 30) (kv := 102) C (okO_iff.mp h1) rfl j11_ok (by decide) rfl (okO_iff.mp h2) (by decide) w1882 d_Md_lateBy_113 ?_
      refine x_iload C d_Md_lateBy_116 4 rfl ?_
      refine x_aldJ C (okO_iff.mp h2) (inB_iff.mp h3) d_Md_lateBy_118 ?_
      refine x_lload C d_Md_lateBy_119 2 rfl ?_
      refine x_land C d_Md_lateBy_121 ?_
      refine x_lconst (v := (0 : Int64)) C d_Md_lateBy_122 (by decide) ?_
      refine x_lcmp C d_Md_lateBy_123 ?_
      refine x_if_ne (tgt := 137) C d_Md_lateBy_124 (by decide) (fun _ => ?_) (fun _ => ?_)
      · refine x_aload_n C d_Md_lateBy_127 0 rfl ?_
        refine x_gd (fun h4 => ?_)
        refine x_getR (k := 31) (kv := 101) C (okO_iff.mp h1) rfl j11_ok (by decide) rfl (okO_iff.mp h4) (by decide) w1883 d_Md_lateBy_128 ?_
        refine x_iload C d_Md_lateBy_131 4 rfl ?_
        refine x_gd (fun h5 => ?_)
        refine x_aldI C (okO_iff.mp h4) (inB_iff.mp h5) d_Md_lateBy_133 ?_
        refine x_goto (tgt := 138) C d_Md_lateBy_134 (by decide) ?_
        refine x_lv [0, 1, 2, 4] rfl ?_
        exact IH.2.2.2.2.2.2 v0R v2J v4J v7I v6I (aI σ (aR σ v0R 31) v7I.toNatClampNeg) (σ)
      · refine x_lv [0, 1, 2, 4] rfl ?_
        exact IH.2.2.2.2.2.1 v0R v2J v4J v7I v6I (σ)
    · refine x_lv [0, 1, 2, 4] rfl ?_
      exact IH.2.2.2.2.2.1 v0R v2J v4J v7I v6I (σ)
  · refine x_iload C d_Md_lateBy_147 3 rfl ?_
    exact x_iret C d_Md_lateBy_149
set_option maxRecDepth 20000 in
theorem s_Md_lateBy_5 {G : GX} {p : Program} {l : Launch} {e : Env} {s : State} {m : MethodId} {args : Array Value} {below : List Frame} {meth : Method} {c : Code} {z0 u0 n : Nat} (C : Cx G p s m args meth c prog_14_method_106_code 8 "BellPlateModel" ((some FieldType.int))) (IH : I_Md_lateBy G p l e s m args below meth c z0 u0 n) (v0R : Nat) (v2J : Int64) (v4J : Int64) (v7I : Int32) (s0I : Int32) (σ : AM) : VX (QM eI G args s below z0 u0) G p l e s m args below meth c 0 z0 u0 8 (lpK (lpn F_Md_lateBy n) (T_Md_lateBy_5 v0R v2J v4J v7I s0I σ)) 137 [(0, .ref v0R), (2, .long v2J), (4, .long v4J), (7, .int v7I)] [.int s0I] σ := by
  unfold T_Md_lateBy_5
  refine x_iconst (v := (0 : Int32)) C d_Md_lateBy_137 (by decide) ?_
  exact IH.2.2.2.2.2.2 v0R v2J v4J v7I s0I ((0 : Int32)) (σ)
set_option maxRecDepth 20000 in
theorem s_Md_lateBy_6 {G : GX} {p : Program} {l : Launch} {e : Env} {s : State} {m : MethodId} {args : Array Value} {below : List Frame} {meth : Method} {c : Code} {z0 u0 n : Nat} (C : Cx G p s m args meth c prog_14_method_106_code 8 "BellPlateModel" ((some FieldType.int))) (IH : I_Md_lateBy G p l e s m args below meth c z0 u0 n) (v0R : Nat) (v2J : Int64) (v4J : Int64) (v7I : Int32) (s0I : Int32) (s1I : Int32) (σ : AM) : VX (QM eI G args s below z0 u0) G p l e s m args below meth c 0 z0 u0 8 (lpK (lpn F_Md_lateBy n) (T_Md_lateBy_6 v0R v2J v4J v7I s0I s1I σ)) 138 [(0, .ref v0R), (2, .long v2J), (4, .long v4J), (7, .int v7I)] [.int s1I, .int s0I] σ := by
  unfold T_Md_lateBy_6
  refine x_iadd C d_Md_lateBy_138 ?_
  refine x_letI (fun x1 _ => ?_)
  refine x_istore (lv' := [(6, .int x1), (0, .ref v0R), (2, .long v2J), (4, .long v4J), (7, .int v7I)]) C d_Md_lateBy_139 (by decide) rfl ?_
  refine x_iinc (v := v7I + (1 : Int32)) (lv' := [(7, .int (v7I + (1 : Int32))), (6, .int x1), (0, .ref v0R), (2, .long v2J), (4, .long v4J)]) C d_Md_lateBy_141 4 rfl rfl (by decide) rfl ?_
  refine x_goto (tgt := 87) C d_Md_lateBy_144 (by decide) ?_
  refine x_lv [2, 3, 4, 1, 0] rfl ?_
  exact IH.2.2.2.2.1 v0R v2J v4J x1 (v7I + (1 : Int32)) (σ)
theorem i_Md_lateBy {G : GX} {p : Program} {l : Launch} {e : Env} {s : State} {m : MethodId} {args : Array Value} {below : List Frame} {meth : Method} {c : Code} {z0 u0 : Nat} (C : Cx G p s m args meth c prog_14_method_106_code 8 "BellPlateModel" ((some FieldType.int))) (n : Nat) : I_Md_lateBy G p l e s m args below meth c z0 u0 n := by
  induction n with
  | zero => exact ⟨fun _ _ _ => x_none, fun _ _ _ _ _ _ => x_none, fun _ _ _ _ _ _ _ => x_none, fun _ _ _ _ _ _ _ => x_none, fun _ _ _ _ _ _ => x_none, fun _ _ _ _ _ _ => x_none, fun _ _ _ _ _ _ _ => x_none⟩
  | succ n IH => exact ⟨fun v0R v1I σ => s_Md_lateBy_0 C IH v0R v1I σ, fun v0R v1I v2J v4J v6I σ => s_Md_lateBy_1 C IH v0R v1I v2J v4J v6I σ, fun v0R v1I v4J v6I s0J s1J σ => s_Md_lateBy_2 C IH v0R v1I v4J v6I s0J s1J σ, fun v0R v1I v2J v6I s0J s1J σ => s_Md_lateBy_3 C IH v0R v1I v2J v6I s0J s1J σ, fun v0R v2J v4J v6I v7I σ => s_Md_lateBy_4 C IH v0R v2J v4J v6I v7I σ, fun v0R v2J v4J v7I s0I σ => s_Md_lateBy_5 C IH v0R v2J v4J v7I s0I σ, fun v0R v2J v4J v7I s0I s1I σ => s_Md_lateBy_6 C IH v0R v2J v4J v7I s0I s1I σ⟩
theorem c_Md_lateBy (G : GX) (l : Launch) (v0R : Nat) (v1I : Int32) (σ : AM) : CT eI G l 0 y_Md_lateBy prog_14_method_106_code 8 ((some FieldType.int)) [.ref v0R, .int v1I] σ (M_Md_lateBy v0R v1I σ) := by
  refine ct_of (by decide +kernel) (Nat.le_of_ble_eq_true rfl) (fun p e s m args below meth c C hin => ?_)
  refine x_lve (lv' := [(0, .ref v0R), (1, .int v1I)]) rfl ?_
  intro r σ' h
  obtain ⟨n, hn⟩ := (lp_iff _ _ _).mp h
  exact (i_Md_lateBy C n).1 v0R v1I σ r σ' hn
/-! BellPlateModel.late(II)I -/
abbrev y_Md_late : MethodName := ⟨"BellPlateModel", "late", "(II)I"⟩
theorem k_Md_late : y_Md_late.cls ≠ "java/lang/invoke/MethodHandle" ∧ y_Md_late.cls ≠ "java/lang/invoke/VarHandle" ∧ (parseMethodDescriptor y_Md_late.desc).map (fun d => d.parameters.length) = some 2 := by decide +kernel
theorem d_Md_late_0 : decode prog_14_method_107_code 0 = .ok (.aload_n 0, 1) := by decide +kernel
theorem d_Md_late_1 : decode prog_14_method_107_code 1 = .ok (.iconst 0, 1) := by decide +kernel
theorem d_Md_late_2 : decode prog_14_method_107_code 2 = .ok (.putfield 1, 3) := by decide +kernel
theorem d_Md_late_5 : decode prog_14_method_107_code 5 = .ok (.iload_n 1, 1) := by decide +kernel
theorem d_Md_late_6 : decode prog_14_method_107_code 6 = .ok (.iconst (-1), 1) := by decide +kernel
theorem d_Md_late_7 : decode prog_14_method_107_code 7 = .ok (.iconst 5, 1) := by decide +kernel
theorem d_Md_late_8 : decode prog_14_method_107_code 8 = .ok (.invokestatic 350, 3) := by decide +kernel
theorem d_Md_late_11 : decode prog_14_method_107_code 11 = .ok (.ifCond .eq 10, 3) := by decide +kernel
theorem d_Md_late_14 : decode prog_14_method_107_code 14 = .ok (.iload_n 2, 1) := by decide +kernel
theorem d_Md_late_15 : decode prog_14_method_107_code 15 = .ok (.invokestatic 453, 3) := by decide +kernel
theorem d_Md_late_18 : decode prog_14_method_107_code 18 = .ok (.ifCond .ne 5, 3) := by decide +kernel
theorem d_Md_late_21 : decode prog_14_method_107_code 21 = .ok (.iconst (-1), 1) := by decide +kernel
theorem d_Md_late_22 : decode prog_14_method_107_code 22 = .ok (.ireturn, 1) := by decide +kernel
theorem d_Md_late_23 : decode prog_14_method_107_code 23 = .ok (.iload_n 1, 1) := by decide +kernel
theorem d_Md_late_24 : decode prog_14_method_107_code 24 = .ok (.ifCond .ge 7, 3) := by decide +kernel
theorem d_Md_late_27 : decode prog_14_method_107_code 27 = .ok (.iconst 0, 1) := by decide +kernel
theorem d_Md_late_28 : decode prog_14_method_107_code 28 = .ok (.goto 4, 3) := by decide +kernel
theorem d_Md_late_31 : decode prog_14_method_107_code 31 = .ok (.iload_n 1, 1) := by decide +kernel
theorem d_Md_late_32 : decode prog_14_method_107_code 32 = .ok (.istore_n 3, 1) := by decide +kernel
theorem d_Md_late_33 : decode prog_14_method_107_code 33 = .ok (.iconst 1, 1) := by decide +kernel
theorem d_Md_late_34 : decode prog_14_method_107_code 34 = .ok (.istore 4, 2) := by decide +kernel
theorem d_Md_late_36 : decode prog_14_method_107_code 36 = .ok (.iload 4, 2) := by decide +kernel
theorem d_Md_late_38 : decode prog_14_method_107_code 38 = .ok (.bipush 6, 2) := by decide +kernel
theorem d_Md_late_40 : decode prog_14_method_107_code 40 = .ok (.if_icmp .ge 34, 3) := by decide +kernel
theorem d_Md_late_43 : decode prog_14_method_107_code 43 = .ok (.iload_n 1, 1) := by decide +kernel
theorem d_Md_late_44 : decode prog_14_method_107_code 44 = .ok (.ifCond .ge 30, 3) := by decide +kernel
theorem d_Md_late_47 : decode prog_14_method_107_code 47 = .ok (.aload_n 0, 1) := by decide +kernel
theorem d_Md_late_48 : decode prog_14_method_107_code 48 = .ok (.iload 4, 2) := by decide +kernel
theorem d_Md_late_50 : decode prog_14_method_107_code 50 = .ok (.invokevirtual 529, 3) := by decide +kernel
theorem d_Md_late_53 : decode prog_14_method_107_code 53 = .ok (.aload_n 0, 1) := by decide +kernel
theorem d_Md_late_54 : decode prog_14_method_107_code 54 = .ok (.iload_n 3, 1) := by decide +kernel
theorem d_Md_late_55 : decode prog_14_method_107_code 55 = .ok (.invokevirtual 529, 3) := by decide +kernel
theorem d_Md_late_58 : decode prog_14_method_107_code 58 = .ok (.if_icmp .le 8, 3) := by decide +kernel
theorem d_Md_late_61 : decode prog_14_method_107_code 61 = .ok (.iload 4, 2) := by decide +kernel
theorem d_Md_late_63 : decode prog_14_method_107_code 63 = .ok (.goto 4, 3) := by decide +kernel
theorem d_Md_late_66 : decode prog_14_method_107_code 66 = .ok (.iload_n 3, 1) := by decide +kernel
theorem d_Md_late_67 : decode prog_14_method_107_code 67 = .ok (.istore_n 3, 1) := by decide +kernel
theorem d_Md_late_68 : decode prog_14_method_107_code 68 = .ok (.iinc 4 1, 3) := by decide +kernel
theorem d_Md_late_71 : decode prog_14_method_107_code 71 = .ok (.goto (-35), 3) := by decide +kernel
theorem d_Md_late_74 : decode prog_14_method_107_code 74 = .ok (.iload_n 2, 1) := by decide +kernel
theorem d_Md_late_75 : decode prog_14_method_107_code 75 = .ok (.ifCond .ne 11, 3) := by decide +kernel
theorem d_Md_late_78 : decode prog_14_method_107_code 78 = .ok (.aload_n 0, 1) := by decide +kernel
theorem d_Md_late_79 : decode prog_14_method_107_code 79 = .ok (.iload_n 3, 1) := by decide +kernel
theorem d_Md_late_80 : decode prog_14_method_107_code 80 = .ok (.invokevirtual 529, 3) := by decide +kernel
theorem d_Md_late_83 : decode prog_14_method_107_code 83 = .ok (.goto 4, 3) := by decide +kernel
theorem d_Md_late_86 : decode prog_14_method_107_code 86 = .ok (.iload_n 3, 1) := by decide +kernel
theorem d_Md_late_87 : decode prog_14_method_107_code 87 = .ok (.ireturn, 1) := by decide +kernel
abbrev S_Md_late : Type := Nat × Nat × Int32 × Int32 × Int32 × Int32 × Int32 × AM
noncomputable def T_Md_late_0 (v0R : Nat) (v1I : Int32) (v2I : Int32) (σ : AM) : S_Md_late ⊕ Option (Int32 × AM) :=
  gdT (okO σ v0R 12) <| letT (sI σ v0R 0 (0 : Int32)) fun σ2 => bndT (M_Md_within v1I ((-1) : Int32) (5 : Int32) σ2) fun r4 σ5 => if r4 = 0 then (.inl (1, 0, 0, 0, 0, 0, 0, σ5)) else (bndT (M_Md_isWhat v2I σ5) fun r6 σ7 => if r6 = 0 then (.inl (1, 0, 0, 0, 0, 0, 0, σ7)) else (if v1I < 0 then (.inl (2, v0R, v1I, v2I, 0, 0, (0 : Int32), σ7)) else (.inl (2, v0R, v1I, v2I, 0, 0, v1I, σ7))))
noncomputable def T_Md_late_1  (σ : AM) : S_Md_late ⊕ Option (Int32 × AM) :=
  .inr (some (((-1) : Int32), σ))
noncomputable def T_Md_late_2 (v0R : Nat) (v1I : Int32) (v2I : Int32) (s0I : Int32) (σ : AM) : S_Md_late ⊕ Option (Int32 × AM) :=
  .inl (3, v0R, v1I, v2I, s0I, (1 : Int32), 0, σ)
noncomputable def T_Md_late_3 (v0R : Nat) (v1I : Int32) (v2I : Int32) (v3I : Int32) (v4I : Int32) (σ : AM) : S_Md_late ⊕ Option (Int32 × AM) :=
  if v4I < (6 : Int32) then (if v1I < 0 then (gdT (okO σ v0R 12) <| bndT (M_Md_lateBy v0R v4I σ) fun r1 σ2 => gdT (okO σ2 v0R 12) <| bndT (M_Md_lateBy v0R v3I σ2) fun r4 σ5 => if r4 < r1 then (.inl (4, v0R, v1I, v2I, 0, v4I, v4I, σ5)) else (.inl (4, v0R, v1I, v2I, 0, v4I, v3I, σ5))) else (.inl (5, v0R, 0, v2I, v3I, 0, 0, σ))) else (.inl (5, v0R, 0, v2I, v3I, 0, 0, σ))
noncomputable def T_Md_late_4 (v0R : Nat) (v1I : Int32) (v2I : Int32) (v4I : Int32) (s0I : Int32) (σ : AM) : S_Md_late ⊕ Option (Int32 × AM) :=
  .inl (3, v0R, v1I, v2I, s0I, v4I + (1 : Int32), 0, σ)
noncomputable def T_Md_late_5 (v0R : Nat) (v2I : Int32) (v3I : Int32) (σ : AM) : S_Md_late ⊕ Option (Int32 × AM) :=
  if v2I = 0 then (gdT (okO σ v0R 12) <| bndT (M_Md_lateBy v0R v3I σ) fun r1 σ2 => .inl (6, 0, 0, 0, 0, 0, r1, σ2)) else (.inl (6, 0, 0, 0, 0, 0, v3I, σ))
noncomputable def T_Md_late_6 (s0I : Int32) (σ : AM) : S_Md_late ⊕ Option (Int32 × AM) :=
  .inr (some (s0I, σ))
noncomputable def F_Md_late : S_Md_late → S_Md_late ⊕ Option (Int32 × AM) := fun s => match s.1 with
  | 0 => T_Md_late_0 (s.2.1) (s.2.2.1) (s.2.2.2.1) (s.2.2.2.2.2.2.2)
  | 1 => T_Md_late_1  (s.2.2.2.2.2.2.2)
  | 2 => T_Md_late_2 (s.2.1) (s.2.2.1) (s.2.2.2.1) (s.2.2.2.2.2.2.1) (s.2.2.2.2.2.2.2)
  | 3 => T_Md_late_3 (s.2.1) (s.2.2.1) (s.2.2.2.1) (s.2.2.2.2.1) (s.2.2.2.2.2.1) (s.2.2.2.2.2.2.2)
  | 4 => T_Md_late_4 (s.2.1) (s.2.2.1) (s.2.2.2.1) (s.2.2.2.2.2.1) (s.2.2.2.2.2.2.1) (s.2.2.2.2.2.2.2)
  | 5 => T_Md_late_5 (s.2.1) (s.2.2.2.1) (s.2.2.2.2.1) (s.2.2.2.2.2.2.2)
  | _ => T_Md_late_6 (s.2.2.2.2.2.2.1) (s.2.2.2.2.2.2.2)
noncomputable def L_Md_late_0 (v0R : Nat) (v1I : Int32) (v2I : Int32) (σ : AM) : Option (Int32 × AM) := lp F_Md_late (0, v0R, v1I, v2I, 0, 0, 0, σ)
noncomputable def L_Md_late_1  (σ : AM) : Option (Int32 × AM) := lp F_Md_late (1, 0, 0, 0, 0, 0, 0, σ)
noncomputable def L_Md_late_2 (v0R : Nat) (v1I : Int32) (v2I : Int32) (s0I : Int32) (σ : AM) : Option (Int32 × AM) := lp F_Md_late (2, v0R, v1I, v2I, 0, 0, s0I, σ)
noncomputable def L_Md_late_3 (v0R : Nat) (v1I : Int32) (v2I : Int32) (v3I : Int32) (v4I : Int32) (σ : AM) : Option (Int32 × AM) := lp F_Md_late (3, v0R, v1I, v2I, v3I, v4I, 0, σ)
noncomputable def L_Md_late_4 (v0R : Nat) (v1I : Int32) (v2I : Int32) (v4I : Int32) (s0I : Int32) (σ : AM) : Option (Int32 × AM) := lp F_Md_late (4, v0R, v1I, v2I, 0, v4I, s0I, σ)
noncomputable def L_Md_late_5 (v0R : Nat) (v2I : Int32) (v3I : Int32) (σ : AM) : Option (Int32 × AM) := lp F_Md_late (5, v0R, 0, v2I, v3I, 0, 0, σ)
noncomputable def L_Md_late_6 (s0I : Int32) (σ : AM) : Option (Int32 × AM) := lp F_Md_late (6, 0, 0, 0, 0, 0, s0I, σ)
set_option maxRecDepth 20000 in
theorem E_Md_late_0 (v0R : Nat) (v1I : Int32) (v2I : Int32) (σ : AM) : L_Md_late_0 v0R v1I v2I σ = (gd (okO σ v0R 12) <| letT (sI σ v0R 0 (0 : Int32)) fun σ2 => bnd (M_Md_within v1I ((-1) : Int32) (5 : Int32) σ2) fun r4 σ5 => if r4 = 0 then (L_Md_late_1 σ5) else (bnd (M_Md_isWhat v2I σ5) fun r6 σ7 => if r6 = 0 then (L_Md_late_1 σ7) else (if v1I < 0 then (L_Md_late_2 v0R v1I v2I ((0 : Int32)) σ7) else (L_Md_late_2 v0R v1I v2I v1I σ7)))) := by
  unfold L_Md_late_0
  rw [lp_eq]
  show lpK (lp F_Md_late) (T_Md_late_0 v0R v1I v2I σ) = _
  unfold T_Md_late_0
  simp only [lpK_ite, lq_inl, lq_inr, lpK_bnd, lpK_gd, lq_let]
  try rfl
set_option maxRecDepth 20000 in
theorem E_Md_late_1  (σ : AM) : L_Md_late_1  σ = ((some (((-1) : Int32), σ))) := by
  unfold L_Md_late_1
  rw [lp_eq]
  show lpK (lp F_Md_late) (T_Md_late_1  σ) = _
  unfold T_Md_late_1
  simp only [lpK_ite, lq_inl, lq_inr, lpK_bnd, lpK_gd, lq_let]
  try rfl
set_option maxRecDepth 20000 in
theorem E_Md_late_2 (v0R : Nat) (v1I : Int32) (v2I : Int32) (s0I : Int32) (σ : AM) : L_Md_late_2 v0R v1I v2I s0I σ = (L_Md_late_3 v0R v1I v2I s0I ((1 : Int32)) σ) := by
  unfold L_Md_late_2
  rw [lp_eq]
  show lpK (lp F_Md_late) (T_Md_late_2 v0R v1I v2I s0I σ) = _
  unfold T_Md_late_2
  simp only [lpK_ite, lq_inl, lq_inr, lpK_bnd, lpK_gd, lq_let]
  try rfl
set_option maxRecDepth 20000 in
theorem E_Md_late_3 (v0R : Nat) (v1I : Int32) (v2I : Int32) (v3I : Int32) (v4I : Int32) (σ : AM) : L_Md_late_3 v0R v1I v2I v3I v4I σ = (if v4I < (6 : Int32) then (if v1I < 0 then (gd (okO σ v0R 12) <| bnd (M_Md_lateBy v0R v4I σ) fun r1 σ2 => gd (okO σ2 v0R 12) <| bnd (M_Md_lateBy v0R v3I σ2) fun r4 σ5 => if r4 < r1 then (L_Md_late_4 v0R v1I v2I v4I v4I σ5) else (L_Md_late_4 v0R v1I v2I v4I v3I σ5)) else (L_Md_late_5 v0R v2I v3I σ)) else (L_Md_late_5 v0R v2I v3I σ)) := by
  unfold L_Md_late_3
  rw [lp_eq]
  show lpK (lp F_Md_late) (T_Md_late_3 v0R v1I v2I v3I v4I σ) = _
  unfold T_Md_late_3
  simp only [lpK_ite, lq_inl, lq_inr, lpK_bnd, lpK_gd, lq_let]
  try rfl
set_option maxRecDepth 20000 in
theorem E_Md_late_4 (v0R : Nat) (v1I : Int32) (v2I : Int32) (v4I : Int32) (s0I : Int32) (σ : AM) : L_Md_late_4 v0R v1I v2I v4I s0I σ = (L_Md_late_3 v0R v1I v2I s0I (v4I + (1 : Int32)) σ) := by
  unfold L_Md_late_4
  rw [lp_eq]
  show lpK (lp F_Md_late) (T_Md_late_4 v0R v1I v2I v4I s0I σ) = _
  unfold T_Md_late_4
  simp only [lpK_ite, lq_inl, lq_inr, lpK_bnd, lpK_gd, lq_let]
  try rfl
set_option maxRecDepth 20000 in
theorem E_Md_late_5 (v0R : Nat) (v2I : Int32) (v3I : Int32) (σ : AM) : L_Md_late_5 v0R v2I v3I σ = (if v2I = 0 then (gd (okO σ v0R 12) <| bnd (M_Md_lateBy v0R v3I σ) fun r1 σ2 => L_Md_late_6 r1 σ2) else (L_Md_late_6 v3I σ)) := by
  unfold L_Md_late_5
  rw [lp_eq]
  show lpK (lp F_Md_late) (T_Md_late_5 v0R v2I v3I σ) = _
  unfold T_Md_late_5
  simp only [lpK_ite, lq_inl, lq_inr, lpK_bnd, lpK_gd, lq_let]
  try rfl
set_option maxRecDepth 20000 in
theorem E_Md_late_6 (s0I : Int32) (σ : AM) : L_Md_late_6 s0I σ = ((some (s0I, σ))) := by
  unfold L_Md_late_6
  rw [lp_eq]
  show lpK (lp F_Md_late) (T_Md_late_6 s0I σ) = _
  unfold T_Md_late_6
  simp only [lpK_ite, lq_inl, lq_inr, lpK_bnd, lpK_gd, lq_let]
  try rfl
noncomputable def M_Md_late (v0R : Nat) (v1I : Int32) (v2I : Int32) (σ : AM) : Option (Int32 × AM) := mw σ (L_Md_late_0 v0R v1I v2I σ)
def I_Md_late (G : GX) (p : Program) (l : Launch) (e : Env) (s : State) (m : MethodId) (args : Array Value) (below : List Frame) (meth : Method) (c : Code) (z0 u0 n : Nat) : Prop :=
  (∀ (v0R : Nat) (v1I : Int32) (v2I : Int32) (σ : AM), VX (QM eI G args s below z0 u0) G p l e s m args below meth c 2 z0 u0 5 (lpn F_Md_late n (0, v0R, v1I, v2I, 0, 0, 0, σ)) 0 [(0, .ref v0R), (1, .int v1I), (2, .int v2I)] [] σ) ∧
  (∀ (σ : AM), VX (QM eI G args s below z0 u0) G p l e s m args below meth c 2 z0 u0 5 (lpn F_Md_late n (1, 0, 0, 0, 0, 0, 0, σ)) 21 [] [] σ) ∧
  (∀ (v0R : Nat) (v1I : Int32) (v2I : Int32) (s0I : Int32) (σ : AM), VX (QM eI G args s below z0 u0) G p l e s m args below meth c 2 z0 u0 5 (lpn F_Md_late n (2, v0R, v1I, v2I, 0, 0, s0I, σ)) 32 [(0, .ref v0R), (1, .int v1I), (2, .int v2I)] [.int s0I] σ) ∧
  (∀ (v0R : Nat) (v1I : Int32) (v2I : Int32) (v3I : Int32) (v4I : Int32) (σ : AM), VX (QM eI G args s below z0 u0) G p l e s m args below meth c 2 z0 u0 5 (lpn F_Md_late n (3, v0R, v1I, v2I, v3I, v4I, 0, σ)) 36 [(0, .ref v0R), (1, .int v1I), (2, .int v2I), (3, .int v3I), (4, .int v4I)] [] σ) ∧
  (∀ (v0R : Nat) (v1I : Int32) (v2I : Int32) (v4I : Int32) (s0I : Int32) (σ : AM), VX (QM eI G args s below z0 u0) G p l e s m args below meth c 2 z0 u0 5 (lpn F_Md_late n (4, v0R, v1I, v2I, 0, v4I, s0I, σ)) 67 [(0, .ref v0R), (1, .int v1I), (2, .int v2I), (4, .int v4I)] [.int s0I] σ) ∧
  (∀ (v0R : Nat) (v2I : Int32) (v3I : Int32) (σ : AM), VX (QM eI G args s below z0 u0) G p l e s m args below meth c 2 z0 u0 5 (lpn F_Md_late n (5, v0R, 0, v2I, v3I, 0, 0, σ)) 74 [(0, .ref v0R), (2, .int v2I), (3, .int v3I)] [] σ) ∧
  (∀ (s0I : Int32) (σ : AM), VX (QM eI G args s below z0 u0) G p l e s m args below meth c 2 z0 u0 5 (lpn F_Md_late n (6, 0, 0, 0, 0, 0, s0I, σ)) 87 [] [.int s0I] σ)
set_option maxRecDepth 20000 in
theorem s_Md_late_0 {G : GX} {p : Program} {l : Launch} {e : Env} {s : State} {m : MethodId} {args : Array Value} {below : List Frame} {meth : Method} {c : Code} {z0 u0 n : Nat} (C : Cx G p s m args meth c prog_14_method_107_code 5 "BellPlateModel" ((some FieldType.int))) (IH : I_Md_late G p l e s m args below meth c z0 u0 n) (v0R : Nat) (v1I : Int32) (v2I : Int32) (σ : AM) : VX (QM eI G args s below z0 u0) G p l e s m args below meth c 2 z0 u0 5 (lpK (lpn F_Md_late n) (T_Md_late_0 v0R v1I v2I σ)) 0 [(0, .ref v0R), (1, .int v1I), (2, .int v2I)] [] σ := by
  unfold T_Md_late_0
  refine x_aload_n C d_Md_late_0 0 rfl ?_
  refine x_iconst (v := (0 : Int32)) C d_Md_late_1 (by decide) ?_
  refine x_gd (fun h1 => ?_)
  refine x_putI (k := 0) C (okO_iff.mp h1) rfl j11_ok y11_ok n11_ok (by decide) rfl rfl rfl rfl w1852 d_Md_late_2 ?_
  refine x_letS (fun σ2 e3 => ?_)
  refine x_iload_n C d_Md_late_5 1 rfl ?_
  refine x_iconst (v := ((-1) : Int32)) C d_Md_late_6 (by decide) ?_
  refine x_iconst (v := (5 : Int32)) C d_Md_late_7 (by decide) ?_
  refine x_callSI (As := [.int v1I, .int ((-1) : Int32), .int (5 : Int32)]) C (c_Md_within G l v1I ((-1) : Int32) (5 : Int32) σ2) w2205 w2204 w2206 w134 k_Md_within rfl (by decide) (by decide) rfl (Nat.le_of_ble_eq_true rfl) d_Md_late_8 (fun r4 σ5 => ?_)
  refine x_if_eq (tgt := 21) C d_Md_late_11 (by decide) (fun _ => ?_) (fun _ => ?_)
  · refine x_lv [] rfl ?_
    exact IH.2.1  (σ5)
  · refine x_iload_n C d_Md_late_14 2 rfl ?_
    refine x_callSI (As := [.int v2I]) C (c_Md_isWhat G l v2I σ5) w2328 w2327 w2329 w134 k_Md_isWhat rfl (by decide) (by decide) rfl (Nat.le_of_ble_eq_true rfl) d_Md_late_15 (fun r6 σ7 => ?_)
    refine x_if_ne (tgt := 23) C d_Md_late_18 (by decide) (fun _ => ?_) (fun _ => ?_)
    · refine x_lv [] rfl ?_
      exact IH.2.1  (σ7)
    · refine x_iload_n C d_Md_late_23 1 rfl ?_
      refine x_if_ge (tgt := 31) C d_Md_late_24 (by decide) (fun _ => ?_) (fun _ => ?_)
      · refine x_iconst (v := (0 : Int32)) C d_Md_late_27 (by decide) ?_
        refine x_goto (tgt := 32) C d_Md_late_28 (by decide) ?_
        exact IH.2.2.1 v0R v1I v2I ((0 : Int32)) (σ7)
      · refine x_iload_n C d_Md_late_31 1 rfl ?_
        exact IH.2.2.1 v0R v1I v2I v1I (σ7)
set_option maxRecDepth 20000 in
theorem s_Md_late_1 {G : GX} {p : Program} {l : Launch} {e : Env} {s : State} {m : MethodId} {args : Array Value} {below : List Frame} {meth : Method} {c : Code} {z0 u0 n : Nat} (C : Cx G p s m args meth c prog_14_method_107_code 5 "BellPlateModel" ((some FieldType.int))) (IH : I_Md_late G p l e s m args below meth c z0 u0 n)  (σ : AM) : VX (QM eI G args s below z0 u0) G p l e s m args below meth c 2 z0 u0 5 (lpK (lpn F_Md_late n) (T_Md_late_1  σ)) 21 [] [] σ := by
  unfold T_Md_late_1
  refine x_iconst (v := ((-1) : Int32)) C d_Md_late_21 (by decide) ?_
  exact x_iret C d_Md_late_22
set_option maxRecDepth 20000 in
theorem s_Md_late_2 {G : GX} {p : Program} {l : Launch} {e : Env} {s : State} {m : MethodId} {args : Array Value} {below : List Frame} {meth : Method} {c : Code} {z0 u0 n : Nat} (C : Cx G p s m args meth c prog_14_method_107_code 5 "BellPlateModel" ((some FieldType.int))) (IH : I_Md_late G p l e s m args below meth c z0 u0 n) (v0R : Nat) (v1I : Int32) (v2I : Int32) (s0I : Int32) (σ : AM) : VX (QM eI G args s below z0 u0) G p l e s m args below meth c 2 z0 u0 5 (lpK (lpn F_Md_late n) (T_Md_late_2 v0R v1I v2I s0I σ)) 32 [(0, .ref v0R), (1, .int v1I), (2, .int v2I)] [.int s0I] σ := by
  unfold T_Md_late_2
  refine x_istore_n (lv' := [(3, .int s0I), (0, .ref v0R), (1, .int v1I), (2, .int v2I)]) C d_Md_late_32 (by decide) rfl rfl ?_
  refine x_iconst (v := (1 : Int32)) C d_Md_late_33 (by decide) ?_
  refine x_istore (lv' := [(4, .int (1 : Int32)), (3, .int s0I), (0, .ref v0R), (1, .int v1I), (2, .int v2I)]) C d_Md_late_34 (by decide) rfl ?_
  refine x_lv [2, 3, 4, 1, 0] rfl ?_
  exact IH.2.2.2.1 v0R v1I v2I s0I ((1 : Int32)) (σ)
set_option maxRecDepth 20000 in
theorem s_Md_late_3 {G : GX} {p : Program} {l : Launch} {e : Env} {s : State} {m : MethodId} {args : Array Value} {below : List Frame} {meth : Method} {c : Code} {z0 u0 n : Nat} (C : Cx G p s m args meth c prog_14_method_107_code 5 "BellPlateModel" ((some FieldType.int))) (IH : I_Md_late G p l e s m args below meth c z0 u0 n) (v0R : Nat) (v1I : Int32) (v2I : Int32) (v3I : Int32) (v4I : Int32) (σ : AM) : VX (QM eI G args s below z0 u0) G p l e s m args below meth c 2 z0 u0 5 (lpK (lpn F_Md_late n) (T_Md_late_3 v0R v1I v2I v3I v4I σ)) 36 [(0, .ref v0R), (1, .int v1I), (2, .int v2I), (3, .int v3I), (4, .int v4I)] [] σ := by
  unfold T_Md_late_3
  refine x_iload C d_Md_late_36 4 rfl ?_
  refine x_bipush (v := (6 : Int32)) C d_Md_late_38 (by decide) ?_
  refine x_icmp_ge (tgt := 74) C d_Md_late_40 (by decide) (fun _ => ?_) (fun _ => ?_)
  · refine x_iload_n C d_Md_late_43 1 rfl ?_
    refine x_if_ge (tgt := 74) C d_Md_late_44 (by decide) (fun _ => ?_) (fun _ => ?_)
    · refine x_aload_n C d_Md_late_47 0 rfl ?_
      refine x_iload C d_Md_late_48 4 rfl ?_
      refine x_gd (fun h3 => ?_)
      refine x_callVI (As := [.int v4I]) C (c_Md_lateBy G l v0R v4I σ) (okO_iff.mp h3) rfl w2439 w117 w2437 w2440 w134 k_Md_lateBy rfl (by decide) (by decide) rfl (Nat.le_of_ble_eq_true rfl) d_Md_late_50 (fun r1 σ2 => ?_)
      refine x_aload_n C d_Md_late_53 0 rfl ?_
      refine x_iload_n C d_Md_late_54 3 rfl ?_
      refine x_gd (fun h6 => ?_)
      refine x_callVI (As := [.int v3I]) C (c_Md_lateBy G l v0R v3I σ2) (okO_iff.mp h6) rfl w2439 w117 w2437 w2440 w134 k_Md_lateBy rfl (by decide) (by decide) rfl (Nat.le_of_ble_eq_true rfl) d_Md_late_55 (fun r4 σ5 => ?_)
      refine x_icmp_le (tgt := 66) C d_Md_late_58 (by decide) (fun _ => ?_) (fun _ => ?_)
      · refine x_iload C d_Md_late_61 4 rfl ?_
        refine x_goto (tgt := 67) C d_Md_late_63 (by decide) ?_
        refine x_lv [0, 1, 2, 4] rfl ?_
        exact IH.2.2.2.2.1 v0R v1I v2I v4I v4I (σ5)
      · refine x_iload_n C d_Md_late_66 3 rfl ?_
        refine x_lv [0, 1, 2, 4] rfl ?_
        exact IH.2.2.2.2.1 v0R v1I v2I v4I v3I (σ5)
    · refine x_lv [0, 2, 3] rfl ?_
      exact IH.2.2.2.2.2.1 v0R v2I v3I (σ)
  · refine x_lv [0, 2, 3] rfl ?_
    exact IH.2.2.2.2.2.1 v0R v2I v3I (σ)
set_option maxRecDepth 20000 in
theorem s_Md_late_4 {G : GX} {p : Program} {l : Launch} {e : Env} {s : State} {m : MethodId} {args : Array Value} {below : List Frame} {meth : Method} {c : Code} {z0 u0 n : Nat} (C : Cx G p s m args meth c prog_14_method_107_code 5 "BellPlateModel" ((some FieldType.int))) (IH : I_Md_late G p l e s m args below meth c z0 u0 n) (v0R : Nat) (v1I : Int32) (v2I : Int32) (v4I : Int32) (s0I : Int32) (σ : AM) : VX (QM eI G args s below z0 u0) G p l e s m args below meth c 2 z0 u0 5 (lpK (lpn F_Md_late n) (T_Md_late_4 v0R v1I v2I v4I s0I σ)) 67 [(0, .ref v0R), (1, .int v1I), (2, .int v2I), (4, .int v4I)] [.int s0I] σ := by
  unfold T_Md_late_4
  refine x_istore_n (lv' := [(3, .int s0I), (0, .ref v0R), (1, .int v1I), (2, .int v2I), (4, .int v4I)]) C d_Md_late_67 (by decide) rfl rfl ?_
  refine x_iinc (v := v4I + (1 : Int32)) (lv' := [(4, .int (v4I + (1 : Int32))), (3, .int s0I), (0, .ref v0R), (1, .int v1I), (2, .int v2I)]) C d_Md_late_68 4 rfl rfl (by decide) rfl ?_
  refine x_goto (tgt := 36) C d_Md_late_71 (by decide) ?_
  refine x_lv [2, 3, 4, 1, 0] rfl ?_
  exact IH.2.2.2.1 v0R v1I v2I s0I (v4I + (1 : Int32)) (σ)
set_option maxRecDepth 20000 in
theorem s_Md_late_5 {G : GX} {p : Program} {l : Launch} {e : Env} {s : State} {m : MethodId} {args : Array Value} {below : List Frame} {meth : Method} {c : Code} {z0 u0 n : Nat} (C : Cx G p s m args meth c prog_14_method_107_code 5 "BellPlateModel" ((some FieldType.int))) (IH : I_Md_late G p l e s m args below meth c z0 u0 n) (v0R : Nat) (v2I : Int32) (v3I : Int32) (σ : AM) : VX (QM eI G args s below z0 u0) G p l e s m args below meth c 2 z0 u0 5 (lpK (lpn F_Md_late n) (T_Md_late_5 v0R v2I v3I σ)) 74 [(0, .ref v0R), (2, .int v2I), (3, .int v3I)] [] σ := by
  unfold T_Md_late_5
  refine x_iload_n C d_Md_late_74 1 rfl ?_
  refine x_if_ne (tgt := 86) C d_Md_late_75 (by decide) (fun _ => ?_) (fun _ => ?_)
  · refine x_aload_n C d_Md_late_78 0 rfl ?_
    refine x_iload_n C d_Md_late_79 2 rfl ?_
    refine x_gd (fun h3 => ?_)
    refine x_callVI (As := [.int v3I]) C (c_Md_lateBy G l v0R v3I σ) (okO_iff.mp h3) rfl w2439 w117 w2437 w2440 w134 k_Md_lateBy rfl (by decide) (by decide) rfl (Nat.le_of_ble_eq_true rfl) d_Md_late_80 (fun r1 σ2 => ?_)
    refine x_goto (tgt := 87) C d_Md_late_83 (by decide) ?_
    refine x_lv [] rfl ?_
    exact IH.2.2.2.2.2.2 r1 (σ2)
  · refine x_iload_n C d_Md_late_86 2 rfl ?_
    refine x_lv [] rfl ?_
    exact IH.2.2.2.2.2.2 v3I (σ)
set_option maxRecDepth 20000 in
theorem s_Md_late_6 {G : GX} {p : Program} {l : Launch} {e : Env} {s : State} {m : MethodId} {args : Array Value} {below : List Frame} {meth : Method} {c : Code} {z0 u0 n : Nat} (C : Cx G p s m args meth c prog_14_method_107_code 5 "BellPlateModel" ((some FieldType.int))) (IH : I_Md_late G p l e s m args below meth c z0 u0 n) (s0I : Int32) (σ : AM) : VX (QM eI G args s below z0 u0) G p l e s m args below meth c 2 z0 u0 5 (lpK (lpn F_Md_late n) (T_Md_late_6 s0I σ)) 87 [] [.int s0I] σ := by
  unfold T_Md_late_6
  exact x_iret C d_Md_late_87
theorem i_Md_late {G : GX} {p : Program} {l : Launch} {e : Env} {s : State} {m : MethodId} {args : Array Value} {below : List Frame} {meth : Method} {c : Code} {z0 u0 : Nat} (C : Cx G p s m args meth c prog_14_method_107_code 5 "BellPlateModel" ((some FieldType.int))) (n : Nat) : I_Md_late G p l e s m args below meth c z0 u0 n := by
  induction n with
  | zero => exact ⟨fun _ _ _ _ => x_none, fun _ => x_none, fun _ _ _ _ _ => x_none, fun _ _ _ _ _ _ => x_none, fun _ _ _ _ _ _ => x_none, fun _ _ _ _ => x_none, fun _ _ => x_none⟩
  | succ n IH => exact ⟨fun v0R v1I v2I σ => s_Md_late_0 C IH v0R v1I v2I σ, fun σ => s_Md_late_1 C IH σ, fun v0R v1I v2I s0I σ => s_Md_late_2 C IH v0R v1I v2I s0I σ, fun v0R v1I v2I v3I v4I σ => s_Md_late_3 C IH v0R v1I v2I v3I v4I σ, fun v0R v1I v2I v4I s0I σ => s_Md_late_4 C IH v0R v1I v2I v4I s0I σ, fun v0R v2I v3I σ => s_Md_late_5 C IH v0R v2I v3I σ, fun s0I σ => s_Md_late_6 C IH s0I σ⟩
theorem c_Md_late (G : GX) (l : Launch) (v0R : Nat) (v1I : Int32) (v2I : Int32) (σ : AM) : CT eI G l 2 y_Md_late prog_14_method_107_code 5 ((some FieldType.int)) [.ref v0R, .int v1I, .int v2I] σ (M_Md_late v0R v1I v2I σ) := by
  refine ct_of (by decide +kernel) (Nat.le_of_ble_eq_true rfl) (fun p e s m args below meth c C hin => ?_)
  refine x_lve (lv' := [(0, .ref v0R), (1, .int v1I), (2, .int v2I)]) rfl ?_
  intro r σ' h
  obtain ⟨n, hn⟩ := (lp_iff _ _ _).mp h
  exact (i_Md_late C n).1 v0R v1I v2I σ r σ' hn
/-! BellPlateModel.bells()I -/
abbrev y_Md_bells : MethodName := ⟨"BellPlateModel", "bells", "()I"⟩
theorem k_Md_bells : y_Md_bells.cls ≠ "java/lang/invoke/MethodHandle" ∧ y_Md_bells.cls ≠ "java/lang/invoke/VarHandle" ∧ (parseMethodDescriptor y_Md_bells.desc).map (fun d => d.parameters.length) = some 0 := by decide +kernel
theorem d_Md_bells_0 : decode prog_14_method_108_code 0 = .ok (.aload_n 0, 1) := by decide +kernel
theorem d_Md_bells_1 : decode prog_14_method_108_code 1 = .ok (.iconst 0, 1) := by decide +kernel
theorem d_Md_bells_2 : decode prog_14_method_108_code 2 = .ok (.putfield 1, 3) := by decide +kernel
theorem d_Md_bells_5 : decode prog_14_method_108_code 5 = .ok (.aload_n 0, 1) := by decide +kernel
theorem d_Md_bells_6 : decode prog_14_method_108_code 6 = .ok (.invokevirtual 369, 3) := by decide +kernel
theorem d_Md_bells_9 : decode prog_14_method_108_code 9 = .ok (.aload_n 0, 1) := by decide +kernel
theorem d_Md_bells_10 : decode prog_14_method_108_code 10 = .ok (.getfield 343, 3) := by decide +kernel
theorem d_Md_bells_13 : decode prog_14_method_108_code 13 = .ok (.lconst 0, 1) := by decide +kernel
theorem d_Md_bells_14 : decode prog_14_method_108_code 14 = .ok (.lcmp, 1) := by decide +kernel
theorem d_Md_bells_15 : decode prog_14_method_108_code 15 = .ok (.ifCond .ne 5, 3) := by decide +kernel
theorem d_Md_bells_18 : decode prog_14_method_108_code 18 = .ok (.iconst 0, 1) := by decide +kernel
theorem d_Md_bells_19 : decode prog_14_method_108_code 19 = .ok (.ireturn, 1) := by decide +kernel
theorem d_Md_bells_20 : decode prog_14_method_108_code 20 = .ok (.aload_n 0, 1) := by decide +kernel
theorem d_Md_bells_21 : decode prog_14_method_108_code 21 = .ok (.iconst 0, 1) := by decide +kernel
theorem d_Md_bells_22 : decode prog_14_method_108_code 22 = .ok (.putfield 532, 3) := by decide +kernel
theorem d_Md_bells_25 : decode prog_14_method_108_code 25 = .ok (.iconst 0, 1) := by decide +kernel
theorem d_Md_bells_26 : decode prog_14_method_108_code 26 = .ok (.istore_n 1, 1) := by decide +kernel
theorem d_Md_bells_27 : decode prog_14_method_108_code 27 = .ok (.iconst 0, 1) := by decide +kernel
theorem d_Md_bells_28 : decode prog_14_method_108_code 28 = .ok (.istore_n 2, 1) := by decide +kernel
theorem d_Md_bells_29 : decode prog_14_method_108_code 29 = .ok (.iload_n 2, 1) := by decide +kernel
theorem d_Md_bells_30 : decode prog_14_method_108_code 30 = .ok (.aload_n 0, 1) := by decide +kernel
theorem d_Md_bells_31 : decode prog_14_method_108_code 31 = .ok (.getfield 316, 3) := by decide +kernel
theorem d_Md_bells_34 : decode prog_14_method_108_code 34 = .ok (.if_icmp .ge 82, 3) := by decide +kernel
theorem d_Md_bells_37 : decode prog_14_method_108_code 37 = .ok (.aload_n 0, 1) := by decide +kernel
theorem d_Md_bells_38 : decode prog_14_method_108_code 38 = .ok (.getfield 82, 3) := by decide +kernel
theorem d_Md_bells_41 : decode prog_14_method_108_code 41 = .ok (.iload_n 2, 1) := by decide +kernel
theorem d_Md_bells_42 : decode prog_14_method_108_code 42 = .ok (.laload, 1) := by decide +kernel
theorem d_Md_bells_43 : decode prog_14_method_108_code 43 = .ok (.aload_n 0, 1) := by decide +kernel
theorem d_Md_bells_44 : decode prog_14_method_108_code 44 = .ok (.getfield 347, 3) := by decide +kernel
theorem d_Md_bells_47 : decode prog_14_method_108_code 47 = .ok (.land, 1) := by decide +kernel
theorem d_Md_bells_48 : decode prog_14_method_108_code 48 = .ok (.lconst 0, 1) := by decide +kernel
theorem d_Md_bells_49 : decode prog_14_method_108_code 49 = .ok (.lcmp, 1) := by decide +kernel
theorem d_Md_bells_50 : decode prog_14_method_108_code 50 = .ok (.ifCond .ne 60, 3) := by decide +kernel
theorem d_Md_bells_53 : decode prog_14_method_108_code 53 = .ok (.aload_n 0, 1) := by decide +kernel
theorem d_Md_bells_54 : decode prog_14_method_108_code 54 = .ok (.getfield 143, 3) := by decide +kernel
theorem d_Md_bells_57 : decode prog_14_method_108_code 57 = .ok (.aload_n 0, 1) := by decide +kernel
theorem d_Md_bells_58 : decode prog_14_method_108_code 58 = .ok (.getfield 532, 3) := by decide +kernel
theorem d_Md_bells_61 : decode prog_14_method_108_code 61 = .ok (.aload_n 0, 1) := by decide +kernel
theorem d_Md_bells_62 : decode prog_14_method_108_code 62 = .ok (.getfield 82, 3) := by decide +kernel
theorem d_Md_bells_65 : decode prog_14_method_108_code 65 = .ok (.iload_n 2, 1) := by decide +kernel
theorem d_Md_bells_66 : decode prog_14_method_108_code 66 = .ok (.laload, 1) := by decide +kernel
theorem d_Md_bells_67 : decode prog_14_method_108_code 67 = .ok (.aload_n 0, 1) := by decide +kernel
theorem d_Md_bells_68 : decode prog_14_method_108_code 68 = .ok (.getfield 343, 3) := by decide +kernel
theorem d_Md_bells_71 : decode prog_14_method_108_code 71 = .ok (.land, 1) := by decide +kernel
theorem d_Md_bells_72 : decode prog_14_method_108_code 72 = .ok (.lastore, 1) := by decide +kernel
theorem d_Md_bells_73 : decode prog_14_method_108_code 73 = .ok (.iload_n 1, 1) := by decide +kernel
theorem d_Md_bells_74 : decode prog_14_method_108_code 74 = .ok (.ifCond .ne 20, 3) := by decide +kernel
theorem d_Md_bells_77 : decode prog_14_method_108_code 77 = .ok (.aload_n 0, 1) := by decide +kernel
theorem d_Md_bells_78 : decode prog_14_method_108_code 78 = .ok (.getfield 143, 3) := by decide +kernel
theorem d_Md_bells_81 : decode prog_14_method_108_code 81 = .ok (.aload_n 0, 1) := by decide +kernel
theorem d_Md_bells_82 : decode prog_14_method_108_code 82 = .ok (.getfield 532, 3) := by decide +kernel
theorem d_Md_bells_85 : decode prog_14_method_108_code 85 = .ok (.laload, 1) := by decide +kernel
theorem d_Md_bells_86 : decode prog_14_method_108_code 86 = .ok (.aload_n 0, 1) := by decide +kernel
theorem d_Md_bells_87 : decode prog_14_method_108_code 87 = .ok (.getfield 343, 3) := by decide +kernel
theorem d_Md_bells_90 : decode prog_14_method_108_code 90 = .ok (.lcmp, 1) := by decide +kernel
theorem d_Md_bells_91 : decode prog_14_method_108_code 91 = .ok (.ifCond .ne 7, 3) := by decide +kernel
theorem d_Md_bells_94 : decode prog_14_method_108_code 94 = .ok (.iconst 1, 1) := by decide +kernel
theorem d_Md_bells_95 : decode prog_14_method_108_code 95 = .ok (.goto 4, 3) := by decide +kernel
theorem d_Md_bells_98 : decode prog_14_method_108_code 98 = .ok (.iconst 0, 1) := by decide +kernel
theorem d_Md_bells_99 : decode prog_14_method_108_code 99 = .ok (.istore_n 1, 1) := by decide +kernel
theorem d_Md_bells_100 : decode prog_14_method_108_code 100 = .ok (.aload_n 0, 1) := by decide +kernel
theorem d_Md_bells_101 : decode prog_14_method_108_code 101 = .ok (.dup, 1) := by decide +kernel
theorem d_Md_bells_102 : decode prog_14_method_108_code 102 = .ok (.getfield 532, 3) := by decide +kernel
theorem d_Md_bells_105 : decode prog_14_method_108_code 105 = .ok (.iconst 1, 1) := by decide +kernel
theorem d_Md_bells_106 : decode prog_14_method_108_code 106 = .ok (.iadd, 1) := by decide +kernel
theorem d_Md_bells_107 : decode prog_14_method_108_code 107 = .ok (.putfield 532, 3) := by decide +kernel
theorem d_Md_bells_110 : decode prog_14_method_108_code 110 = .ok (.iinc 2 1, 3) := by decide +kernel
theorem d_Md_bells_113 : decode prog_14_method_108_code 113 = .ok (.goto (-84), 3) := by decide +kernel
theorem d_Md_bells_116 : decode prog_14_method_108_code 116 = .ok (.iload_n 1, 1) := by decide +kernel
theorem d_Md_bells_117 : decode prog_14_method_108_code 117 = .ok (.ifCond .eq 5, 3) := by decide +kernel
theorem d_Md_bells_120 : decode prog_14_method_108_code 120 = .ok (.iconst 1, 1) := by decide +kernel
theorem d_Md_bells_121 : decode prog_14_method_108_code 121 = .ok (.ireturn, 1) := by decide +kernel
theorem d_Md_bells_122 : decode prog_14_method_108_code 122 = .ok (.iconst 0, 1) := by decide +kernel
theorem d_Md_bells_123 : decode prog_14_method_108_code 123 = .ok (.istore_n 2, 1) := by decide +kernel
theorem d_Md_bells_124 : decode prog_14_method_108_code 124 = .ok (.iload_n 2, 1) := by decide +kernel
theorem d_Md_bells_125 : decode prog_14_method_108_code 125 = .ok (.aload_n 0, 1) := by decide +kernel
theorem d_Md_bells_126 : decode prog_14_method_108_code 126 = .ok (.getfield 532, 3) := by decide +kernel
theorem d_Md_bells_129 : decode prog_14_method_108_code 129 = .ok (.if_icmp .ge 50, 3) := by decide +kernel
theorem d_Md_bells_132 : decode prog_14_method_108_code 132 = .ok (.iload_n 2, 1) := by decide +kernel
theorem d_Md_bells_133 : decode prog_14_method_108_code 133 = .ok (.iconst 1, 1) := by decide +kernel
theorem d_Md_bells_134 : decode prog_14_method_108_code 134 = .ok (.iadd, 1) := by decide +kernel
theorem d_Md_bells_135 : decode prog_14_method_108_code 135 = .ok (.istore_n 3, 1) := by decide +kernel
theorem d_Md_bells_136 : decode prog_14_method_108_code 136 = .ok (.iload_n 3, 1) := by decide +kernel
theorem d_Md_bells_137 : decode prog_14_method_108_code 137 = .ok (.aload_n 0, 1) := by decide +kernel
theorem d_Md_bells_138 : decode prog_14_method_108_code 138 = .ok (.getfield 532, 3) := by decide +kernel
theorem d_Md_bells_141 : decode prog_14_method_108_code 141 = .ok (.if_icmp .ge 32, 3) := by decide +kernel
theorem d_Md_bells_144 : decode prog_14_method_108_code 144 = .ok (.aload_n 0, 1) := by decide +kernel
theorem d_Md_bells_145 : decode prog_14_method_108_code 145 = .ok (.getfield 143, 3) := by decide +kernel
theorem d_Md_bells_148 : decode prog_14_method_108_code 148 = .ok (.iload_n 2, 1) := by decide +kernel
theorem d_Md_bells_149 : decode prog_14_method_108_code 149 = .ok (.laload, 1) := by decide +kernel
theorem d_Md_bells_150 : decode prog_14_method_108_code 150 = .ok (.aload_n 0, 1) := by decide +kernel
theorem d_Md_bells_151 : decode prog_14_method_108_code 151 = .ok (.getfield 143, 3) := by decide +kernel
theorem d_Md_bells_154 : decode prog_14_method_108_code 154 = .ok (.iload_n 3, 1) := by decide +kernel
theorem d_Md_bells_155 : decode prog_14_method_108_code 155 = .ok (.laload, 1) := by decide +kernel
theorem d_Md_bells_156 : decode prog_14_method_108_code 156 = .ok (.lor, 1) := by decide +kernel
theorem d_Md_bells_157 : decode prog_14_method_108_code 157 = .ok (.aload_n 0, 1) := by decide +kernel
theorem d_Md_bells_158 : decode prog_14_method_108_code 158 = .ok (.getfield 343, 3) := by decide +kernel
theorem d_Md_bells_161 : decode prog_14_method_108_code 161 = .ok (.lcmp, 1) := by decide +kernel
theorem d_Md_bells_162 : decode prog_14_method_108_code 162 = .ok (.ifCond .ne 5, 3) := by decide +kernel
theorem d_Md_bells_165 : decode prog_14_method_108_code 165 = .ok (.iconst 2, 1) := by decide +kernel
theorem d_Md_bells_166 : decode prog_14_method_108_code 166 = .ok (.ireturn, 1) := by decide +kernel
theorem d_Md_bells_167 : decode prog_14_method_108_code 167 = .ok (.iinc 3 1, 3) := by decide +kernel
theorem d_Md_bells_170 : decode prog_14_method_108_code 170 = .ok (.goto (-34), 3) := by decide +kernel
theorem d_Md_bells_173 : decode prog_14_method_108_code 173 = .ok (.iinc 2 1, 3) := by decide +kernel
theorem d_Md_bells_176 : decode prog_14_method_108_code 176 = .ok (.goto (-52), 3) := by decide +kernel
theorem d_Md_bells_179 : decode prog_14_method_108_code 179 = .ok (.iconst (-1), 1) := by decide +kernel
theorem d_Md_bells_180 : decode prog_14_method_108_code 180 = .ok (.ireturn, 1) := by decide +kernel
abbrev S_Md_bells : Type := Nat × Nat × Int32 × Int32 × Int32 × Int32 × AM
noncomputable def T_Md_bells_0 (v0R : Nat) (σ : AM) : S_Md_bells ⊕ Option (Int32 × AM) :=
  gdT (okO σ v0R 12) <| letT (sI σ v0R 0 (0 : Int32)) fun σ2 => bndT (M_Md_findMust v0R σ2) fun _ σ5 => gdT (okO σ5 v0R 12) <| if (lg_cmp (aL σ5 v0R 40) (0 : Int64)) = 0 then (.inr (some ((0 : Int32), σ5))) else (letT (sI σ5 v0R 68 (0 : Int32)) fun σ7 => .inl (1, v0R, (0 : Int32), (0 : Int32), 0, 0, σ7))
noncomputable def T_Md_bells_1 (v0R : Nat) (v1I : Int32) (v2I : Int32) (σ : AM) : S_Md_bells ⊕ Option (Int32 × AM) :=
  gdT (okO σ v0R 12) <| if v2I < (aI σ v0R 29) then (gdT (okO σ (aR σ v0R 30) 102) <| gdT (inB v2I (aN σ (aR σ v0R 30))) <| if (lg_cmp ((aL σ (aR σ v0R 30) v2I.toNatClampNeg) &&& (aL σ v0R 41)) (0 : Int64)) = 0 then (gdT (okO σ (aR σ v0R 67) 102) <| gdT (inB (aI σ v0R 68) (aN σ (aR σ v0R 67))) <| letT (sL σ (aR σ v0R 67) (aI σ v0R 68).toNatClampNeg ((aL σ (aR σ v0R 30) v2I.toNatClampNeg) &&& (aL σ v0R 40))) fun σ6 => if v1I = 0 then (gdT (okO σ6 (aR σ6 v0R 67) 102) <| gdT (inB (aI σ6 v0R 68) (aN σ6 (aR σ6 v0R 67))) <| if (lg_cmp (aL σ6 (aR σ6 v0R 67) (aI σ6 v0R 68).toNatClampNeg) (aL σ6 v0R 40)) = 0 then (.inl (2, v0R, 0, v2I, 0, 0, σ6)) else (.inl (3, v0R, 0, v2I, 0, (0 : Int32), σ6))) else (.inl (2, v0R, 0, v2I, 0, 0, σ6))) else (.inl (4, v0R, v1I, v2I, 0, 0, σ))) else (if v1I = 0 then (.inl (5, v0R, 0, (0 : Int32), 0, 0, σ)) else (.inr (some ((1 : Int32), σ))))
noncomputable def T_Md_bells_2 (v0R : Nat) (v2I : Int32) (σ : AM) : S_Md_bells ⊕ Option (Int32 × AM) :=
  .inl (3, v0R, 0, v2I, 0, (1 : Int32), σ)
noncomputable def T_Md_bells_3 (v0R : Nat) (v2I : Int32) (s0I : Int32) (σ : AM) : S_Md_bells ⊕ Option (Int32 × AM) :=
  gdT (okO σ v0R 12) <| letT (sI σ v0R 68 ((aI σ v0R 68) + (1 : Int32))) fun σ2 => .inl (4, v0R, s0I, v2I, 0, 0, σ2)
noncomputable def T_Md_bells_4 (v0R : Nat) (v1I : Int32) (v2I : Int32) (σ : AM) : S_Md_bells ⊕ Option (Int32 × AM) :=
  .inl (1, v0R, v1I, v2I + (1 : Int32), 0, 0, σ)
noncomputable def T_Md_bells_5 (v0R : Nat) (v2I : Int32) (σ : AM) : S_Md_bells ⊕ Option (Int32 × AM) :=
  gdT (okO σ v0R 12) <| if v2I < (aI σ v0R 68) then (letT (v2I + (1 : Int32)) fun x2 => .inl (6, v0R, 0, v2I, x2, 0, σ)) else (.inr (some (((-1) : Int32), σ)))
noncomputable def T_Md_bells_6 (v0R : Nat) (v2I : Int32) (v3I : Int32) (σ : AM) : S_Md_bells ⊕ Option (Int32 × AM) :=
  gdT (okO σ v0R 12) <| if v3I < (aI σ v0R 68) then (gdT (okO σ (aR σ v0R 67) 102) <| gdT (inB v2I (aN σ (aR σ v0R 67))) <| gdT (inB v3I (aN σ (aR σ v0R 67))) <| if (lg_cmp ((aL σ (aR σ v0R 67) v2I.toNatClampNeg) ||| (aL σ (aR σ v0R 67) v3I.toNatClampNeg)) (aL σ v0R 40)) = 0 then (.inr (some ((2 : Int32), σ))) else (.inl (6, v0R, 0, v2I, v3I + (1 : Int32), 0, σ))) else (.inl (5, v0R, 0, v2I + (1 : Int32), 0, 0, σ))
noncomputable def F_Md_bells : S_Md_bells → S_Md_bells ⊕ Option (Int32 × AM) := fun s => match s.1 with
  | 0 => T_Md_bells_0 (s.2.1) (s.2.2.2.2.2.2)
  | 1 => T_Md_bells_1 (s.2.1) (s.2.2.1) (s.2.2.2.1) (s.2.2.2.2.2.2)
  | 2 => T_Md_bells_2 (s.2.1) (s.2.2.2.1) (s.2.2.2.2.2.2)
  | 3 => T_Md_bells_3 (s.2.1) (s.2.2.2.1) (s.2.2.2.2.2.1) (s.2.2.2.2.2.2)
  | 4 => T_Md_bells_4 (s.2.1) (s.2.2.1) (s.2.2.2.1) (s.2.2.2.2.2.2)
  | 5 => T_Md_bells_5 (s.2.1) (s.2.2.2.1) (s.2.2.2.2.2.2)
  | _ => T_Md_bells_6 (s.2.1) (s.2.2.2.1) (s.2.2.2.2.1) (s.2.2.2.2.2.2)
noncomputable def L_Md_bells_0 (v0R : Nat) (σ : AM) : Option (Int32 × AM) := lp F_Md_bells (0, v0R, 0, 0, 0, 0, σ)
noncomputable def L_Md_bells_1 (v0R : Nat) (v1I : Int32) (v2I : Int32) (σ : AM) : Option (Int32 × AM) := lp F_Md_bells (1, v0R, v1I, v2I, 0, 0, σ)
noncomputable def L_Md_bells_2 (v0R : Nat) (v2I : Int32) (σ : AM) : Option (Int32 × AM) := lp F_Md_bells (2, v0R, 0, v2I, 0, 0, σ)
noncomputable def L_Md_bells_3 (v0R : Nat) (v2I : Int32) (s0I : Int32) (σ : AM) : Option (Int32 × AM) := lp F_Md_bells (3, v0R, 0, v2I, 0, s0I, σ)
noncomputable def L_Md_bells_4 (v0R : Nat) (v1I : Int32) (v2I : Int32) (σ : AM) : Option (Int32 × AM) := lp F_Md_bells (4, v0R, v1I, v2I, 0, 0, σ)
noncomputable def L_Md_bells_5 (v0R : Nat) (v2I : Int32) (σ : AM) : Option (Int32 × AM) := lp F_Md_bells (5, v0R, 0, v2I, 0, 0, σ)
noncomputable def L_Md_bells_6 (v0R : Nat) (v2I : Int32) (v3I : Int32) (σ : AM) : Option (Int32 × AM) := lp F_Md_bells (6, v0R, 0, v2I, v3I, 0, σ)
set_option maxRecDepth 20000 in
theorem E_Md_bells_0 (v0R : Nat) (σ : AM) : L_Md_bells_0 v0R σ = (gd (okO σ v0R 12) <| letT (sI σ v0R 0 (0 : Int32)) fun σ2 => bnd (M_Md_findMust v0R σ2) fun _ σ5 => gd (okO σ5 v0R 12) <| if (lg_cmp (aL σ5 v0R 40) (0 : Int64)) = 0 then ((some ((0 : Int32), σ5))) else (letT (sI σ5 v0R 68 (0 : Int32)) fun σ7 => L_Md_bells_1 v0R ((0 : Int32)) ((0 : Int32)) σ7)) := by
  unfold L_Md_bells_0
  rw [lp_eq]
  show lpK (lp F_Md_bells) (T_Md_bells_0 v0R σ) = _
  unfold T_Md_bells_0
  simp only [lpK_ite, lq_inl, lq_inr, lpK_bnd, lpK_gd, lq_let]
  try rfl
set_option maxRecDepth 20000 in
theorem E_Md_bells_1 (v0R : Nat) (v1I : Int32) (v2I : Int32) (σ : AM) : L_Md_bells_1 v0R v1I v2I σ = (gd (okO σ v0R 12) <| if v2I < (aI σ v0R 29) then (gd (okO σ (aR σ v0R 30) 102) <| gd (inB v2I (aN σ (aR σ v0R 30))) <| if (lg_cmp ((aL σ (aR σ v0R 30) v2I.toNatClampNeg) &&& (aL σ v0R 41)) (0 : Int64)) = 0 then (gd (okO σ (aR σ v0R 67) 102) <| gd (inB (aI σ v0R 68) (aN σ (aR σ v0R 67))) <| letT (sL σ (aR σ v0R 67) (aI σ v0R 68).toNatClampNeg ((aL σ (aR σ v0R 30) v2I.toNatClampNeg) &&& (aL σ v0R 40))) fun σ6 => if v1I = 0 then (gd (okO σ6 (aR σ6 v0R 67) 102) <| gd (inB (aI σ6 v0R 68) (aN σ6 (aR σ6 v0R 67))) <| if (lg_cmp (aL σ6 (aR σ6 v0R 67) (aI σ6 v0R 68).toNatClampNeg) (aL σ6 v0R 40)) = 0 then (L_Md_bells_2 v0R v2I σ6) else (L_Md_bells_3 v0R v2I ((0 : Int32)) σ6)) else (L_Md_bells_2 v0R v2I σ6)) else (L_Md_bells_4 v0R v1I v2I σ)) else (if v1I = 0 then (L_Md_bells_5 v0R ((0 : Int32)) σ) else ((some ((1 : Int32), σ))))) := by
  unfold L_Md_bells_1
  rw [lp_eq]
  show lpK (lp F_Md_bells) (T_Md_bells_1 v0R v1I v2I σ) = _
  unfold T_Md_bells_1
  simp only [lpK_ite, lq_inl, lq_inr, lpK_bnd, lpK_gd, lq_let]
  try rfl
set_option maxRecDepth 20000 in
theorem E_Md_bells_2 (v0R : Nat) (v2I : Int32) (σ : AM) : L_Md_bells_2 v0R v2I σ = (L_Md_bells_3 v0R v2I ((1 : Int32)) σ) := by
  unfold L_Md_bells_2
  rw [lp_eq]
  show lpK (lp F_Md_bells) (T_Md_bells_2 v0R v2I σ) = _
  unfold T_Md_bells_2
  simp only [lpK_ite, lq_inl, lq_inr, lpK_bnd, lpK_gd, lq_let]
  try rfl
set_option maxRecDepth 20000 in
theorem E_Md_bells_3 (v0R : Nat) (v2I : Int32) (s0I : Int32) (σ : AM) : L_Md_bells_3 v0R v2I s0I σ = (gd (okO σ v0R 12) <| letT (sI σ v0R 68 ((aI σ v0R 68) + (1 : Int32))) fun σ2 => L_Md_bells_4 v0R s0I v2I σ2) := by
  unfold L_Md_bells_3
  rw [lp_eq]
  show lpK (lp F_Md_bells) (T_Md_bells_3 v0R v2I s0I σ) = _
  unfold T_Md_bells_3
  simp only [lpK_ite, lq_inl, lq_inr, lpK_bnd, lpK_gd, lq_let]
  try rfl
set_option maxRecDepth 20000 in
theorem E_Md_bells_4 (v0R : Nat) (v1I : Int32) (v2I : Int32) (σ : AM) : L_Md_bells_4 v0R v1I v2I σ = (L_Md_bells_1 v0R v1I (v2I + (1 : Int32)) σ) := by
  unfold L_Md_bells_4
  rw [lp_eq]
  show lpK (lp F_Md_bells) (T_Md_bells_4 v0R v1I v2I σ) = _
  unfold T_Md_bells_4
  simp only [lpK_ite, lq_inl, lq_inr, lpK_bnd, lpK_gd, lq_let]
  try rfl
set_option maxRecDepth 20000 in
theorem E_Md_bells_5 (v0R : Nat) (v2I : Int32) (σ : AM) : L_Md_bells_5 v0R v2I σ = (gd (okO σ v0R 12) <| if v2I < (aI σ v0R 68) then (letT (v2I + (1 : Int32)) fun x2 => L_Md_bells_6 v0R v2I x2 σ) else ((some (((-1) : Int32), σ)))) := by
  unfold L_Md_bells_5
  rw [lp_eq]
  show lpK (lp F_Md_bells) (T_Md_bells_5 v0R v2I σ) = _
  unfold T_Md_bells_5
  simp only [lpK_ite, lq_inl, lq_inr, lpK_bnd, lpK_gd, lq_let]
  try rfl
set_option maxRecDepth 20000 in
theorem E_Md_bells_6 (v0R : Nat) (v2I : Int32) (v3I : Int32) (σ : AM) : L_Md_bells_6 v0R v2I v3I σ = (gd (okO σ v0R 12) <| if v3I < (aI σ v0R 68) then (gd (okO σ (aR σ v0R 67) 102) <| gd (inB v2I (aN σ (aR σ v0R 67))) <| gd (inB v3I (aN σ (aR σ v0R 67))) <| if (lg_cmp ((aL σ (aR σ v0R 67) v2I.toNatClampNeg) ||| (aL σ (aR σ v0R 67) v3I.toNatClampNeg)) (aL σ v0R 40)) = 0 then ((some ((2 : Int32), σ))) else (L_Md_bells_6 v0R v2I (v3I + (1 : Int32)) σ)) else (L_Md_bells_5 v0R (v2I + (1 : Int32)) σ)) := by
  unfold L_Md_bells_6
  rw [lp_eq]
  show lpK (lp F_Md_bells) (T_Md_bells_6 v0R v2I v3I σ) = _
  unfold T_Md_bells_6
  simp only [lpK_ite, lq_inl, lq_inr, lpK_bnd, lpK_gd, lq_let]
  try rfl
noncomputable def M_Md_bells (v0R : Nat) (σ : AM) : Option (Int32 × AM) := mw σ (L_Md_bells_0 v0R σ)
def I_Md_bells (G : GX) (p : Program) (l : Launch) (e : Env) (s : State) (m : MethodId) (args : Array Value) (below : List Frame) (meth : Method) (c : Code) (z0 u0 n : Nat) : Prop :=
  (∀ (v0R : Nat) (σ : AM), VX (QM eI G args s below z0 u0) G p l e s m args below meth c 1 z0 u0 4 (lpn F_Md_bells n (0, v0R, 0, 0, 0, 0, σ)) 0 [(0, .ref v0R)] [] σ) ∧
  (∀ (v0R : Nat) (v1I : Int32) (v2I : Int32) (σ : AM), VX (QM eI G args s below z0 u0) G p l e s m args below meth c 1 z0 u0 4 (lpn F_Md_bells n (1, v0R, v1I, v2I, 0, 0, σ)) 29 [(0, .ref v0R), (1, .int v1I), (2, .int v2I)] [] σ) ∧
  (∀ (v0R : Nat) (v2I : Int32) (σ : AM), VX (QM eI G args s below z0 u0) G p l e s m args below meth c 1 z0 u0 4 (lpn F_Md_bells n (2, v0R, 0, v2I, 0, 0, σ)) 94 [(0, .ref v0R), (2, .int v2I)] [] σ) ∧
  (∀ (v0R : Nat) (v2I : Int32) (s0I : Int32) (σ : AM), VX (QM eI G args s below z0 u0) G p l e s m args below meth c 1 z0 u0 4 (lpn F_Md_bells n (3, v0R, 0, v2I, 0, s0I, σ)) 99 [(0, .ref v0R), (2, .int v2I)] [.int s0I] σ) ∧
  (∀ (v0R : Nat) (v1I : Int32) (v2I : Int32) (σ : AM), VX (QM eI G args s below z0 u0) G p l e s m args below meth c 1 z0 u0 4 (lpn F_Md_bells n (4, v0R, v1I, v2I, 0, 0, σ)) 110 [(0, .ref v0R), (1, .int v1I), (2, .int v2I)] [] σ) ∧
  (∀ (v0R : Nat) (v2I : Int32) (σ : AM), VX (QM eI G args s below z0 u0) G p l e s m args below meth c 1 z0 u0 4 (lpn F_Md_bells n (5, v0R, 0, v2I, 0, 0, σ)) 124 [(0, .ref v0R), (2, .int v2I)] [] σ) ∧
  (∀ (v0R : Nat) (v2I : Int32) (v3I : Int32) (σ : AM), VX (QM eI G args s below z0 u0) G p l e s m args below meth c 1 z0 u0 4 (lpn F_Md_bells n (6, v0R, 0, v2I, v3I, 0, σ)) 136 [(0, .ref v0R), (2, .int v2I), (3, .int v3I)] [] σ)
set_option maxRecDepth 20000 in
theorem s_Md_bells_0 {G : GX} {p : Program} {l : Launch} {e : Env} {s : State} {m : MethodId} {args : Array Value} {below : List Frame} {meth : Method} {c : Code} {z0 u0 n : Nat} (C : Cx G p s m args meth c prog_14_method_108_code 4 "BellPlateModel" ((some FieldType.int))) (IH : I_Md_bells G p l e s m args below meth c z0 u0 n) (v0R : Nat) (σ : AM) : VX (QM eI G args s below z0 u0) G p l e s m args below meth c 1 z0 u0 4 (lpK (lpn F_Md_bells n) (T_Md_bells_0 v0R σ)) 0 [(0, .ref v0R)] [] σ := by
  unfold T_Md_bells_0
  refine x_aload_n C d_Md_bells_0 0 rfl ?_
  refine x_iconst (v := (0 : Int32)) C d_Md_bells_1 (by decide) ?_
  refine x_gd (fun h1 => ?_)
  refine x_putI (k := 0) C (okO_iff.mp h1) rfl j11_ok y11_ok n11_ok (by decide) rfl rfl rfl rfl w1852 d_Md_bells_2 ?_
  refine x_letS (fun σ2 e3 => ?_)
  refine x_aload_n C d_Md_bells_5 0 rfl ?_
  refine x_callVV (As := []) C (c_Md_findMust G l v0R  σ2) (by first | exact (okO_iff.mp h1) | (rw [e3]; exact (okO_iff.mp h1))) rfl w2217 w86 w2215 w2218 w134 k_Md_findMust rfl (by decide) (by decide) rfl (Nat.le_of_ble_eq_true rfl) d_Md_bells_6 (fun r4 σ5 => ?_)
  refine x_aload_n C d_Md_bells_9 0 rfl ?_
  refine x_gd (fun h6 => ?_)
  refine x_getJ (k := 40) C (okO_iff.mp h6) rfl j11_ok (by decide) rfl w1892 d_Md_bells_10 ?_
  refine x_lconst (v := (0 : Int64)) C d_Md_bells_13 (by decide) ?_
  refine x_lcmp C d_Md_bells_14 ?_
  refine x_if_ne (tgt := 20) C d_Md_bells_15 (by decide) (fun _ => ?_) (fun _ => ?_)
  · refine x_iconst (v := (0 : Int32)) C d_Md_bells_18 (by decide) ?_
    exact x_iret C d_Md_bells_19
  · refine x_aload_n C d_Md_bells_20 0 rfl ?_
    refine x_iconst (v := (0 : Int32)) C d_Md_bells_21 (by decide) ?_
    refine x_putI (k := 68) C (okO_iff.mp h6) rfl j11_ok y11_ok n11_ok (by decide) rfl rfl rfl rfl w1920 d_Md_bells_22 ?_
    refine x_letS (fun σ7 e8 => ?_)
    refine x_iconst (v := (0 : Int32)) C d_Md_bells_25 (by decide) ?_
    refine x_istore_n (lv' := [(1, .int (0 : Int32)), (0, .ref v0R)]) C d_Md_bells_26 (by decide) rfl rfl ?_
    refine x_iconst (v := (0 : Int32)) C d_Md_bells_27 (by decide) ?_
    refine x_istore_n (lv' := [(2, .int (0 : Int32)), (1, .int (0 : Int32)), (0, .ref v0R)]) C d_Md_bells_28 (by decide) rfl rfl ?_
    refine x_lv [2, 1, 0] rfl ?_
    exact IH.2.1 v0R ((0 : Int32)) ((0 : Int32)) (σ7)
set_option maxRecDepth 20000 in
theorem s_Md_bells_1 {G : GX} {p : Program} {l : Launch} {e : Env} {s : State} {m : MethodId} {args : Array Value} {below : List Frame} {meth : Method} {c : Code} {z0 u0 n : Nat} (C : Cx G p s m args meth c prog_14_method_108_code 4 "BellPlateModel" ((some FieldType.int))) (IH : I_Md_bells G p l e s m args below meth c z0 u0 n) (v0R : Nat) (v1I : Int32) (v2I : Int32) (σ : AM) : VX (QM eI G args s below z0 u0) G p l e s m args below meth c 1 z0 u0 4 (lpK (lpn F_Md_bells n) (T_Md_bells_1 v0R v1I v2I σ)) 29 [(0, .ref v0R), (1, .int v1I), (2, .int v2I)] [] σ := by
  unfold T_Md_bells_1
  refine x_iload_n C d_Md_bells_29 2 rfl ?_
  refine x_aload_n C d_Md_bells_30 0 rfl ?_
  refine x_gd (fun h1 => ?_)
  refine x_getI (k := 29) C (okO_iff.mp h1) rfl j11_ok (by decide) rfl w1881 d_Md_bells_31 ?_
  refine x_icmp_ge (tgt := 116) C d_Md_bells_34 (by decide) (fun _ => ?_) (fun _ => ?_)
  · refine x_aload_n C d_Md_bells_37 0 rfl ?_
    refine x_gd (fun h2 => ?_)
    refine x_getR (k := 30) (kv := 102) C (okO_iff.mp h1) rfl j11_ok (by decide) rfl (okO_iff.mp h2) (by decide) w1882 d_Md_bells_38 ?_
    refine x_iload_n C d_Md_bells_41 2 rfl ?_
    refine x_gd (fun h3 => ?_)
    refine x_aldJ C (okO_iff.mp h2) (inB_iff.mp h3) d_Md_bells_42 ?_
    refine x_aload_n C d_Md_bells_43 0 rfl ?_
    refine x_getJ (k := 41) C (okO_iff.mp h1) rfl j11_ok (by decide) rfl w1893 d_Md_bells_44 ?_
    refine x_land C d_Md_bells_47 ?_
    refine x_lconst (v := (0 : Int64)) C d_Md_bells_48 (by decide) ?_
    refine x_lcmp C d_Md_bells_49 ?_
    refine x_if_ne (tgt := 110) C d_Md_bells_50 (by decide) (fun _ => ?_) (fun _ => ?_)
    · refine x_aload_n C d_Md_bells_53 0 rfl ?_
      refine x_gd (fun h4 => ?_)
      refine x_getR (k := 67) (kv := 102) C (okO_iff.mp h1) rfl j11_ok (by decide) rfl (okO_iff.mp h4) (by decide) w1919 d_Md_bells_54 ?_
      refine x_aload_n C d_Md_bells_57 0 rfl ?_
      refine x_getI (k := 68) C (okO_iff.mp h1) rfl j11_ok (by decide) rfl w1920 d_Md_bells_58 ?_
      refine x_aload_n C d_Md_bells_61 0 rfl ?_
      refine x_getR (k := 30) (kv := 102) C (okO_iff.mp h1) rfl j11_ok (by decide) rfl (okO_iff.mp h2) (by decide) w1882 d_Md_bells_62 ?_
      refine x_iload_n C d_Md_bells_65 2 rfl ?_
      refine x_aldJ C (okO_iff.mp h2) (inB_iff.mp h3) d_Md_bells_66 ?_
      refine x_aload_n C d_Md_bells_67 0 rfl ?_
      refine x_getJ (k := 40) C (okO_iff.mp h1) rfl j11_ok (by decide) rfl w1892 d_Md_bells_68 ?_
      refine x_land C d_Md_bells_71 ?_
      refine x_gd (fun h5 => ?_)
      refine x_astJ C (okO_iff.mp h4) (inB_iff.mp h5) d_Md_bells_72 ?_
      refine x_letS (fun σ6 e7 => ?_)
      refine x_iload_n C d_Md_bells_73 1 rfl ?_
      refine x_if_ne (tgt := 94) C d_Md_bells_74 (by decide) (fun _ => ?_) (fun _ => ?_)
      · refine x_aload_n C d_Md_bells_77 0 rfl ?_
        refine x_gd (fun h8 => ?_)
        refine x_getR (k := 67) (kv := 102) C (by first | exact (okO_iff.mp h1) | (rw [e7]; exact (okO_iff.mp h1))) rfl j11_ok (by decide) rfl (okO_iff.mp h8) (by decide) w1919 d_Md_bells_78 ?_
        refine x_aload_n C d_Md_bells_81 0 rfl ?_
        refine x_getI (k := 68) C (by first | exact (okO_iff.mp h1) | (rw [e7]; exact (okO_iff.mp h1))) rfl j11_ok (by decide) rfl w1920 d_Md_bells_82 ?_
        refine x_gd (fun h9 => ?_)
        refine x_aldJ C (okO_iff.mp h8) (inB_iff.mp h9) d_Md_bells_85 ?_
        refine x_aload_n C d_Md_bells_86 0 rfl ?_
        refine x_getJ (k := 40) C (by first | exact (okO_iff.mp h1) | (rw [e7]; exact (okO_iff.mp h1))) rfl j11_ok (by decide) rfl w1892 d_Md_bells_87 ?_
        refine x_lcmp C d_Md_bells_90 ?_
        refine x_if_ne (tgt := 98) C d_Md_bells_91 (by decide) (fun _ => ?_) (fun _ => ?_)
        · refine x_lv [0, 2] rfl ?_
          exact IH.2.2.1 v0R v2I (σ6)
        · refine x_iconst (v := (0 : Int32)) C d_Md_bells_98 (by decide) ?_
          refine x_lv [0, 2] rfl ?_
          exact IH.2.2.2.1 v0R v2I ((0 : Int32)) (σ6)
      · refine x_lv [0, 2] rfl ?_
        exact IH.2.2.1 v0R v2I (σ6)
    · exact IH.2.2.2.2.1 v0R v1I v2I (σ)
  · refine x_iload_n C d_Md_bells_116 1 rfl ?_
    refine x_if_eq (tgt := 122) C d_Md_bells_117 (by decide) (fun _ => ?_) (fun _ => ?_)
    · refine x_iconst (v := (0 : Int32)) C d_Md_bells_122 (by decide) ?_
      refine x_istore_n (lv' := [(2, .int (0 : Int32)), (0, .ref v0R), (1, .int v1I)]) C d_Md_bells_123 (by decide) rfl rfl ?_
      refine x_lv [1, 0] rfl ?_
      exact IH.2.2.2.2.2.1 v0R ((0 : Int32)) (σ)
    · refine x_iconst (v := (1 : Int32)) C d_Md_bells_120 (by decide) ?_
      exact x_iret C d_Md_bells_121
set_option maxRecDepth 20000 in
theorem s_Md_bells_2 {G : GX} {p : Program} {l : Launch} {e : Env} {s : State} {m : MethodId} {args : Array Value} {below : List Frame} {meth : Method} {c : Code} {z0 u0 n : Nat} (C : Cx G p s m args meth c prog_14_method_108_code 4 "BellPlateModel" ((some FieldType.int))) (IH : I_Md_bells G p l e s m args below meth c z0 u0 n) (v0R : Nat) (v2I : Int32) (σ : AM) : VX (QM eI G args s below z0 u0) G p l e s m args below meth c 1 z0 u0 4 (lpK (lpn F_Md_bells n) (T_Md_bells_2 v0R v2I σ)) 94 [(0, .ref v0R), (2, .int v2I)] [] σ := by
  unfold T_Md_bells_2
  refine x_iconst (v := (1 : Int32)) C d_Md_bells_94 (by decide) ?_
  refine x_goto (tgt := 99) C d_Md_bells_95 (by decide) ?_
  exact IH.2.2.2.1 v0R v2I ((1 : Int32)) (σ)
set_option maxRecDepth 20000 in
theorem s_Md_bells_3 {G : GX} {p : Program} {l : Launch} {e : Env} {s : State} {m : MethodId} {args : Array Value} {below : List Frame} {meth : Method} {c : Code} {z0 u0 n : Nat} (C : Cx G p s m args meth c prog_14_method_108_code 4 "BellPlateModel" ((some FieldType.int))) (IH : I_Md_bells G p l e s m args below meth c z0 u0 n) (v0R : Nat) (v2I : Int32) (s0I : Int32) (σ : AM) : VX (QM eI G args s below z0 u0) G p l e s m args below meth c 1 z0 u0 4 (lpK (lpn F_Md_bells n) (T_Md_bells_3 v0R v2I s0I σ)) 99 [(0, .ref v0R), (2, .int v2I)] [.int s0I] σ := by
  unfold T_Md_bells_3
  refine x_istore_n (lv' := [(1, .int s0I), (0, .ref v0R), (2, .int v2I)]) C d_Md_bells_99 (by decide) rfl rfl ?_
  refine x_aload_n C d_Md_bells_100 1 rfl ?_
  refine x_dup C d_Md_bells_101 rfl ?_
  refine x_gd (fun h1 => ?_)
  refine x_getI (k := 68) C (okO_iff.mp h1) rfl j11_ok (by decide) rfl w1920 d_Md_bells_102 ?_
  refine x_iconst (v := (1 : Int32)) C d_Md_bells_105 (by decide) ?_
  refine x_iadd C d_Md_bells_106 ?_
  refine x_putI (k := 68) C (okO_iff.mp h1) rfl j11_ok y11_ok n11_ok (by decide) rfl rfl rfl rfl w1920 d_Md_bells_107 ?_
  refine x_letS (fun σ2 e3 => ?_)
  refine x_lv [1, 0, 2] rfl ?_
  exact IH.2.2.2.2.1 v0R s0I v2I (σ2)
set_option maxRecDepth 20000 in
theorem s_Md_bells_4 {G : GX} {p : Program} {l : Launch} {e : Env} {s : State} {m : MethodId} {args : Array Value} {below : List Frame} {meth : Method} {c : Code} {z0 u0 n : Nat} (C : Cx G p s m args meth c prog_14_method_108_code 4 "BellPlateModel" ((some FieldType.int))) (IH : I_Md_bells G p l e s m args below meth c z0 u0 n) (v0R : Nat) (v1I : Int32) (v2I : Int32) (σ : AM) : VX (QM eI G args s below z0 u0) G p l e s m args below meth c 1 z0 u0 4 (lpK (lpn F_Md_bells n) (T_Md_bells_4 v0R v1I v2I σ)) 110 [(0, .ref v0R), (1, .int v1I), (2, .int v2I)] [] σ := by
  unfold T_Md_bells_4
  refine x_iinc (v := v2I + (1 : Int32)) (lv' := [(2, .int (v2I + (1 : Int32))), (0, .ref v0R), (1, .int v1I)]) C d_Md_bells_110 2 rfl rfl (by decide) rfl ?_
  refine x_goto (tgt := 29) C d_Md_bells_113 (by decide) ?_
  refine x_lv [1, 2, 0] rfl ?_
  exact IH.2.1 v0R v1I (v2I + (1 : Int32)) (σ)
set_option maxRecDepth 20000 in
theorem s_Md_bells_5 {G : GX} {p : Program} {l : Launch} {e : Env} {s : State} {m : MethodId} {args : Array Value} {below : List Frame} {meth : Method} {c : Code} {z0 u0 n : Nat} (C : Cx G p s m args meth c prog_14_method_108_code 4 "BellPlateModel" ((some FieldType.int))) (IH : I_Md_bells G p l e s m args below meth c z0 u0 n) (v0R : Nat) (v2I : Int32) (σ : AM) : VX (QM eI G args s below z0 u0) G p l e s m args below meth c 1 z0 u0 4 (lpK (lpn F_Md_bells n) (T_Md_bells_5 v0R v2I σ)) 124 [(0, .ref v0R), (2, .int v2I)] [] σ := by
  unfold T_Md_bells_5
  refine x_iload_n C d_Md_bells_124 1 rfl ?_
  refine x_aload_n C d_Md_bells_125 0 rfl ?_
  refine x_gd (fun h1 => ?_)
  refine x_getI (k := 68) C (okO_iff.mp h1) rfl j11_ok (by decide) rfl w1920 d_Md_bells_126 ?_
  refine x_icmp_ge (tgt := 179) C d_Md_bells_129 (by decide) (fun _ => ?_) (fun _ => ?_)
  · refine x_iload_n C d_Md_bells_132 1 rfl ?_
    refine x_iconst (v := (1 : Int32)) C d_Md_bells_133 (by decide) ?_
    refine x_iadd C d_Md_bells_134 ?_
    refine x_letI (fun x2 _ => ?_)
    refine x_istore_n (lv' := [(3, .int x2), (0, .ref v0R), (2, .int v2I)]) C d_Md_bells_135 (by decide) rfl rfl ?_
    refine x_lv [1, 2, 0] rfl ?_
    exact IH.2.2.2.2.2.2 v0R v2I x2 (σ)
  · refine x_iconst (v := ((-1) : Int32)) C d_Md_bells_179 (by decide) ?_
    exact x_iret C d_Md_bells_180
set_option maxRecDepth 20000 in
theorem s_Md_bells_6 {G : GX} {p : Program} {l : Launch} {e : Env} {s : State} {m : MethodId} {args : Array Value} {below : List Frame} {meth : Method} {c : Code} {z0 u0 n : Nat} (C : Cx G p s m args meth c prog_14_method_108_code 4 "BellPlateModel" ((some FieldType.int))) (IH : I_Md_bells G p l e s m args below meth c z0 u0 n) (v0R : Nat) (v2I : Int32) (v3I : Int32) (σ : AM) : VX (QM eI G args s below z0 u0) G p l e s m args below meth c 1 z0 u0 4 (lpK (lpn F_Md_bells n) (T_Md_bells_6 v0R v2I v3I σ)) 136 [(0, .ref v0R), (2, .int v2I), (3, .int v3I)] [] σ := by
  unfold T_Md_bells_6
  refine x_iload_n C d_Md_bells_136 2 rfl ?_
  refine x_aload_n C d_Md_bells_137 0 rfl ?_
  refine x_gd (fun h1 => ?_)
  refine x_getI (k := 68) C (okO_iff.mp h1) rfl j11_ok (by decide) rfl w1920 d_Md_bells_138 ?_
  refine x_icmp_ge (tgt := 173) C d_Md_bells_141 (by decide) (fun _ => ?_) (fun _ => ?_)
  · refine x_aload_n C d_Md_bells_144 0 rfl ?_
    refine x_gd (fun h2 => ?_)
    refine x_getR (k := 67) (kv := 102) C (okO_iff.mp h1) rfl j11_ok (by decide) rfl (okO_iff.mp h2) (by decide) w1919 d_Md_bells_145 ?_
    refine x_iload_n C d_Md_bells_148 1 rfl ?_
    refine x_gd (fun h3 => ?_)
    refine x_aldJ C (okO_iff.mp h2) (inB_iff.mp h3) d_Md_bells_149 ?_
    refine x_aload_n C d_Md_bells_150 0 rfl ?_
    refine x_getR (k := 67) (kv := 102) C (okO_iff.mp h1) rfl j11_ok (by decide) rfl (okO_iff.mp h2) (by decide) w1919 d_Md_bells_151 ?_
    refine x_iload_n C d_Md_bells_154 2 rfl ?_
    refine x_gd (fun h4 => ?_)
    refine x_aldJ C (okO_iff.mp h2) (inB_iff.mp h4) d_Md_bells_155 ?_
    refine x_lor C d_Md_bells_156 ?_
    refine x_aload_n C d_Md_bells_157 0 rfl ?_
    refine x_getJ (k := 40) C (okO_iff.mp h1) rfl j11_ok (by decide) rfl w1892 d_Md_bells_158 ?_
    refine x_lcmp C d_Md_bells_161 ?_
    refine x_if_ne (tgt := 167) C d_Md_bells_162 (by decide) (fun _ => ?_) (fun _ => ?_)
    · refine x_iconst (v := (2 : Int32)) C d_Md_bells_165 (by decide) ?_
      exact x_iret C d_Md_bells_166
    · refine x_iinc (v := v3I + (1 : Int32)) (lv' := [(3, .int (v3I + (1 : Int32))), (0, .ref v0R), (2, .int v2I)]) C d_Md_bells_167 2 rfl rfl (by decide) rfl ?_
      refine x_goto (tgt := 136) C d_Md_bells_170 (by decide) ?_
      refine x_lv [1, 2, 0] rfl ?_
      exact IH.2.2.2.2.2.2 v0R v2I (v3I + (1 : Int32)) (σ)
  · refine x_iinc (v := v2I + (1 : Int32)) (lv' := [(2, .int (v2I + (1 : Int32))), (0, .ref v0R), (3, .int v3I)]) C d_Md_bells_173 1 rfl rfl (by decide) rfl ?_
    refine x_goto (tgt := 124) C d_Md_bells_176 (by decide) ?_
    refine x_lv [1, 0] rfl ?_
    exact IH.2.2.2.2.2.1 v0R (v2I + (1 : Int32)) (σ)
theorem i_Md_bells {G : GX} {p : Program} {l : Launch} {e : Env} {s : State} {m : MethodId} {args : Array Value} {below : List Frame} {meth : Method} {c : Code} {z0 u0 : Nat} (C : Cx G p s m args meth c prog_14_method_108_code 4 "BellPlateModel" ((some FieldType.int))) (n : Nat) : I_Md_bells G p l e s m args below meth c z0 u0 n := by
  induction n with
  | zero => exact ⟨fun _ _ => x_none, fun _ _ _ _ => x_none, fun _ _ _ => x_none, fun _ _ _ _ => x_none, fun _ _ _ _ => x_none, fun _ _ _ => x_none, fun _ _ _ _ => x_none⟩
  | succ n IH => exact ⟨fun v0R σ => s_Md_bells_0 C IH v0R σ, fun v0R v1I v2I σ => s_Md_bells_1 C IH v0R v1I v2I σ, fun v0R v2I σ => s_Md_bells_2 C IH v0R v2I σ, fun v0R v2I s0I σ => s_Md_bells_3 C IH v0R v2I s0I σ, fun v0R v1I v2I σ => s_Md_bells_4 C IH v0R v1I v2I σ, fun v0R v2I σ => s_Md_bells_5 C IH v0R v2I σ, fun v0R v2I v3I σ => s_Md_bells_6 C IH v0R v2I v3I σ⟩
theorem c_Md_bells (G : GX) (l : Launch) (v0R : Nat) (σ : AM) : CT eI G l 1 y_Md_bells prog_14_method_108_code 4 ((some FieldType.int)) [.ref v0R] σ (M_Md_bells v0R σ) := by
  refine ct_of (by decide +kernel) (Nat.le_of_ble_eq_true rfl) (fun p e s m args below meth c C hin => ?_)
  refine x_lve (lv' := [(0, .ref v0R)]) rfl ?_
  intro r σ' h
  obtain ⟨n, hn⟩ := (lp_iff _ _ _).mp h
  exact (i_Md_bells C n).1 v0R σ r σ' hn
/-! BellPlateModel.often(I)I -/
abbrev y_Md_often : MethodName := ⟨"BellPlateModel", "often", "(I)I"⟩
theorem k_Md_often : y_Md_often.cls ≠ "java/lang/invoke/MethodHandle" ∧ y_Md_often.cls ≠ "java/lang/invoke/VarHandle" ∧ (parseMethodDescriptor y_Md_often.desc).map (fun d => d.parameters.length) = some 1 := by decide +kernel
theorem d_Md_often_0 : decode prog_14_method_109_code 0 = .ok (.aload_n 0, 1) := by decide +kernel
theorem d_Md_often_1 : decode prog_14_method_109_code 1 = .ok (.iconst 0, 1) := by decide +kernel
theorem d_Md_often_2 : decode prog_14_method_109_code 2 = .ok (.putfield 1, 3) := by decide +kernel
theorem d_Md_often_5 : decode prog_14_method_109_code 5 = .ok (.iload_n 1, 1) := by decide +kernel
theorem d_Md_often_6 : decode prog_14_method_109_code 6 = .ok (.invokestatic 453, 3) := by decide +kernel
theorem d_Md_often_9 : decode prog_14_method_109_code 9 = .ok (.ifCond .ne 5, 3) := by decide +kernel
theorem d_Md_often_12 : decode prog_14_method_109_code 12 = .ok (.iconst (-1), 1) := by decide +kernel
theorem d_Md_often_13 : decode prog_14_method_109_code 13 = .ok (.ireturn, 1) := by decide +kernel
theorem d_Md_often_14 : decode prog_14_method_109_code 14 = .ok (.aload_n 0, 1) := by decide +kernel
theorem d_Md_often_15 : decode prog_14_method_109_code 15 = .ok (.invokevirtual 381, 3) := by decide +kernel
theorem d_Md_often_18 : decode prog_14_method_109_code 18 = .ok (.iconst (-1), 1) := by decide +kernel
theorem d_Md_often_19 : decode prog_14_method_109_code 19 = .ok (.istore_n 2, 1) := by decide +kernel
theorem d_Md_often_20 : decode prog_14_method_109_code 20 = .ok (.iconst 0, 1) := by decide +kernel
theorem d_Md_often_21 : decode prog_14_method_109_code 21 = .ok (.istore_n 3, 1) := by decide +kernel
theorem d_Md_often_22 : decode prog_14_method_109_code 22 = .ok (.iload_n 3, 1) := by decide +kernel
theorem d_Md_often_23 : decode prog_14_method_109_code 23 = .ok (.aload_n 0, 1) := by decide +kernel
theorem d_Md_often_24 : decode prog_14_method_109_code 24 = .ok (.getfield 372, 3) := by decide +kernel
theorem d_Md_often_27 : decode prog_14_method_109_code 27 = .ok (.if_icmp .ge 68, 3) := by decide +kernel
theorem d_Md_often_30 : decode prog_14_method_109_code 30 = .ok (.aload_n 0, 1) := by decide +kernel
theorem d_Md_often_31 : decode prog_14_method_109_code 31 = .ok (.aload_n 0, 1) := by decide +kernel
theorem d_Md_often_32 : decode prog_14_method_109_code 32 = .ok (.getfield 82, 3) := by decide +kernel
theorem d_Md_often_35 : decode prog_14_method_109_code 35 = .ok (.aload_n 0, 1) := by decide +kernel
theorem d_Md_often_36 : decode prog_14_method_109_code 36 = .ok (.getfield 116, 3) := by decide +kernel
theorem d_Md_often_39 : decode prog_14_method_109_code 39 = .ok (.iload_n 3, 1) := by decide +kernel
theorem d_Md_often_40 : decode prog_14_method_109_code 40 = .ok (.iaload, 1) := by decide +kernel
theorem d_Md_often_41 : decode prog_14_method_109_code 41 = .ok (.laload, 1) := by decide +kernel
theorem d_Md_often_42 : decode prog_14_method_109_code 42 = .ok (.invokevirtual 472, 3) := by decide +kernel
theorem d_Md_often_45 : decode prog_14_method_109_code 45 = .ok (.istore 4, 2) := by decide +kernel
theorem d_Md_often_47 : decode prog_14_method_109_code 47 = .ok (.iload_n 2, 1) := by decide +kernel
theorem d_Md_often_48 : decode prog_14_method_109_code 48 = .ok (.ifCond .lt 22, 3) := by decide +kernel
theorem d_Md_often_51 : decode prog_14_method_109_code 51 = .ok (.iload_n 1, 1) := by decide +kernel
theorem d_Md_often_52 : decode prog_14_method_109_code 52 = .ok (.ifCond .ne 12, 3) := by decide +kernel
theorem d_Md_often_55 : decode prog_14_method_109_code 55 = .ok (.iload 4, 2) := by decide +kernel
theorem d_Md_often_57 : decode prog_14_method_109_code 57 = .ok (.iload_n 2, 1) := by decide +kernel
theorem d_Md_often_58 : decode prog_14_method_109_code 58 = .ok (.if_icmp .ge 16, 3) := by decide +kernel
theorem d_Md_often_61 : decode prog_14_method_109_code 61 = .ok (.goto 9, 3) := by decide +kernel
theorem d_Md_often_64 : decode prog_14_method_109_code 64 = .ok (.iload 4, 2) := by decide +kernel
theorem d_Md_often_66 : decode prog_14_method_109_code 66 = .ok (.iload_n 2, 1) := by decide +kernel
theorem d_Md_often_67 : decode prog_14_method_109_code 67 = .ok (.if_icmp .le 7, 3) := by decide +kernel
theorem d_Md_often_70 : decode prog_14_method_109_code 70 = .ok (.iconst 1, 1) := by decide +kernel
theorem d_Md_often_71 : decode prog_14_method_109_code 71 = .ok (.goto 4, 3) := by decide +kernel
theorem d_Md_often_74 : decode prog_14_method_109_code 74 = .ok (.iconst 0, 1) := by decide +kernel
theorem d_Md_often_75 : decode prog_14_method_109_code 75 = .ok (.istore 5, 2) := by decide +kernel
theorem d_Md_often_77 : decode prog_14_method_109_code 77 = .ok (.iload 5, 2) := by decide +kernel
theorem d_Md_often_79 : decode prog_14_method_109_code 79 = .ok (.ifCond .eq 8, 3) := by decide +kernel
theorem d_Md_often_82 : decode prog_14_method_109_code 82 = .ok (.iload 4, 2) := by decide +kernel
theorem d_Md_often_84 : decode prog_14_method_109_code 84 = .ok (.goto 4, 3) := by decide +kernel
theorem d_Md_often_87 : decode prog_14_method_109_code 87 = .ok (.iload_n 2, 1) := by decide +kernel
theorem d_Md_often_88 : decode prog_14_method_109_code 88 = .ok (.istore_n 2, 1) := by decide +kernel
theorem d_Md_often_89 : decode prog_14_method_109_code 89 = .ok (.iinc 3 1, 3) := by decide +kernel
theorem d_Md_often_92 : decode prog_14_method_109_code 92 = .ok (.goto (-70), 3) := by decide +kernel
theorem d_Md_often_95 : decode prog_14_method_109_code 95 = .ok (.iload_n 2, 1) := by decide +kernel
theorem d_Md_often_96 : decode prog_14_method_109_code 96 = .ok (.ireturn, 1) := by decide +kernel
abbrev S_Md_often : Type := Nat × Nat × Int32 × Int32 × Int32 × Int32 × Int32 × AM
noncomputable def T_Md_often_0 (v0R : Nat) (v1I : Int32) (σ : AM) : S_Md_often ⊕ Option (Int32 × AM) :=
  gdT (okO σ v0R 12) <| letT (sI σ v0R 0 (0 : Int32)) fun σ2 => bndT (M_Md_isWhat v1I σ2) fun r4 σ5 => if r4 = 0 then (.inr (some (((-1) : Int32), σ5))) else (gdT (okO σ5 v0R 12) <| bndT (M_Md_findLeft v0R σ5) fun _ σ7 => .inl (1, v0R, v1I, ((-1) : Int32), (0 : Int32), 0, 0, σ7))
noncomputable def T_Md_often_1 (v0R : Nat) (v1I : Int32) (v2I : Int32) (v3I : Int32) (σ : AM) : S_Md_often ⊕ Option (Int32 × AM) :=
  gdT (okO σ v0R 12) <| if v3I < (aI σ v0R 46) then (gdT (okO σ (aR σ v0R 30) 102) <| gdT (okO σ (aR σ v0R 45) 101) <| gdT (inB v3I (aN σ (aR σ v0R 45))) <| gdT (inB (aI σ (aR σ v0R 45) v3I.toNatClampNeg) (aN σ (aR σ v0R 30))) <| bndT (M_Md_ringCount v0R (aL σ (aR σ v0R 30) (aI σ (aR σ v0R 45) v3I.toNatClampNeg).toNatClampNeg) σ) fun r6 σ7 => if v2I < 0 then (.inl (2, v0R, v1I, v2I, v3I, r6, 0, σ7)) else (if v1I = 0 then (if r6 < v2I then (.inl (2, v0R, v1I, v2I, v3I, r6, 0, σ7)) else (.inl (3, v0R, v1I, v2I, v3I, r6, 0, σ7))) else (if v2I < r6 then (.inl (2, v0R, v1I, v2I, v3I, r6, 0, σ7)) else (.inl (3, v0R, v1I, v2I, v3I, r6, 0, σ7))))) else (.inr (some (v2I, σ)))
noncomputable def T_Md_often_2 (v0R : Nat) (v1I : Int32) (v2I : Int32) (v3I : Int32) (v4I : Int32) (σ : AM) : S_Md_often ⊕ Option (Int32 × AM) :=
  .inl (4, v0R, v1I, v2I, v3I, v4I, (1 : Int32), σ)
noncomputable def T_Md_often_3 (v0R : Nat) (v1I : Int32) (v2I : Int32) (v3I : Int32) (v4I : Int32) (σ : AM) : S_Md_often ⊕ Option (Int32 × AM) :=
  .inl (4, v0R, v1I, v2I, v3I, v4I, (0 : Int32), σ)
noncomputable def T_Md_often_4 (v0R : Nat) (v1I : Int32) (v2I : Int32) (v3I : Int32) (v4I : Int32) (s0I : Int32) (σ : AM) : S_Md_often ⊕ Option (Int32 × AM) :=
  if s0I = 0 then (.inl (5, v0R, v1I, 0, v3I, 0, v2I, σ)) else (.inl (5, v0R, v1I, 0, v3I, 0, v4I, σ))
noncomputable def T_Md_often_5 (v0R : Nat) (v1I : Int32) (v3I : Int32) (s0I : Int32) (σ : AM) : S_Md_often ⊕ Option (Int32 × AM) :=
  .inl (1, v0R, v1I, s0I, v3I + (1 : Int32), 0, 0, σ)
noncomputable def F_Md_often : S_Md_often → S_Md_often ⊕ Option (Int32 × AM) := fun s => match s.1 with
  | 0 => T_Md_often_0 (s.2.1) (s.2.2.1) (s.2.2.2.2.2.2.2)
  | 1 => T_Md_often_1 (s.2.1) (s.2.2.1) (s.2.2.2.1) (s.2.2.2.2.1) (s.2.2.2.2.2.2.2)
  | 2 => T_Md_often_2 (s.2.1) (s.2.2.1) (s.2.2.2.1) (s.2.2.2.2.1) (s.2.2.2.2.2.1) (s.2.2.2.2.2.2.2)
  | 3 => T_Md_often_3 (s.2.1) (s.2.2.1) (s.2.2.2.1) (s.2.2.2.2.1) (s.2.2.2.2.2.1) (s.2.2.2.2.2.2.2)
  | 4 => T_Md_often_4 (s.2.1) (s.2.2.1) (s.2.2.2.1) (s.2.2.2.2.1) (s.2.2.2.2.2.1) (s.2.2.2.2.2.2.1) (s.2.2.2.2.2.2.2)
  | _ => T_Md_often_5 (s.2.1) (s.2.2.1) (s.2.2.2.2.1) (s.2.2.2.2.2.2.1) (s.2.2.2.2.2.2.2)
noncomputable def L_Md_often_0 (v0R : Nat) (v1I : Int32) (σ : AM) : Option (Int32 × AM) := lp F_Md_often (0, v0R, v1I, 0, 0, 0, 0, σ)
noncomputable def L_Md_often_1 (v0R : Nat) (v1I : Int32) (v2I : Int32) (v3I : Int32) (σ : AM) : Option (Int32 × AM) := lp F_Md_often (1, v0R, v1I, v2I, v3I, 0, 0, σ)
noncomputable def L_Md_often_2 (v0R : Nat) (v1I : Int32) (v2I : Int32) (v3I : Int32) (v4I : Int32) (σ : AM) : Option (Int32 × AM) := lp F_Md_often (2, v0R, v1I, v2I, v3I, v4I, 0, σ)
noncomputable def L_Md_often_3 (v0R : Nat) (v1I : Int32) (v2I : Int32) (v3I : Int32) (v4I : Int32) (σ : AM) : Option (Int32 × AM) := lp F_Md_often (3, v0R, v1I, v2I, v3I, v4I, 0, σ)
noncomputable def L_Md_often_4 (v0R : Nat) (v1I : Int32) (v2I : Int32) (v3I : Int32) (v4I : Int32) (s0I : Int32) (σ : AM) : Option (Int32 × AM) := lp F_Md_often (4, v0R, v1I, v2I, v3I, v4I, s0I, σ)
noncomputable def L_Md_often_5 (v0R : Nat) (v1I : Int32) (v3I : Int32) (s0I : Int32) (σ : AM) : Option (Int32 × AM) := lp F_Md_often (5, v0R, v1I, 0, v3I, 0, s0I, σ)
set_option maxRecDepth 20000 in
theorem E_Md_often_0 (v0R : Nat) (v1I : Int32) (σ : AM) : L_Md_often_0 v0R v1I σ = (gd (okO σ v0R 12) <| letT (sI σ v0R 0 (0 : Int32)) fun σ2 => bnd (M_Md_isWhat v1I σ2) fun r4 σ5 => if r4 = 0 then ((some (((-1) : Int32), σ5))) else (gd (okO σ5 v0R 12) <| bnd (M_Md_findLeft v0R σ5) fun _ σ7 => L_Md_often_1 v0R v1I (((-1) : Int32)) ((0 : Int32)) σ7)) := by
  unfold L_Md_often_0
  rw [lp_eq]
  show lpK (lp F_Md_often) (T_Md_often_0 v0R v1I σ) = _
  unfold T_Md_often_0
  simp only [lpK_ite, lq_inl, lq_inr, lpK_bnd, lpK_gd, lq_let]
  try rfl
set_option maxRecDepth 20000 in
theorem E_Md_often_1 (v0R : Nat) (v1I : Int32) (v2I : Int32) (v3I : Int32) (σ : AM) : L_Md_often_1 v0R v1I v2I v3I σ = (gd (okO σ v0R 12) <| if v3I < (aI σ v0R 46) then (gd (okO σ (aR σ v0R 30) 102) <| gd (okO σ (aR σ v0R 45) 101) <| gd (inB v3I (aN σ (aR σ v0R 45))) <| gd (inB (aI σ (aR σ v0R 45) v3I.toNatClampNeg) (aN σ (aR σ v0R 30))) <| bnd (M_Md_ringCount v0R (aL σ (aR σ v0R 30) (aI σ (aR σ v0R 45) v3I.toNatClampNeg).toNatClampNeg) σ) fun r6 σ7 => if v2I < 0 then (L_Md_often_2 v0R v1I v2I v3I r6 σ7) else (if v1I = 0 then (if r6 < v2I then (L_Md_often_2 v0R v1I v2I v3I r6 σ7) else (L_Md_often_3 v0R v1I v2I v3I r6 σ7)) else (if v2I < r6 then (L_Md_often_2 v0R v1I v2I v3I r6 σ7) else (L_Md_often_3 v0R v1I v2I v3I r6 σ7)))) else ((some (v2I, σ)))) := by
  unfold L_Md_often_1
  rw [lp_eq]
  show lpK (lp F_Md_often) (T_Md_often_1 v0R v1I v2I v3I σ) = _
  unfold T_Md_often_1
  simp only [lpK_ite, lq_inl, lq_inr, lpK_bnd, lpK_gd, lq_let]
  try rfl
set_option maxRecDepth 20000 in
theorem E_Md_often_2 (v0R : Nat) (v1I : Int32) (v2I : Int32) (v3I : Int32) (v4I : Int32) (σ : AM) : L_Md_often_2 v0R v1I v2I v3I v4I σ = (L_Md_often_4 v0R v1I v2I v3I v4I ((1 : Int32)) σ) := by
  unfold L_Md_often_2
  rw [lp_eq]
  show lpK (lp F_Md_often) (T_Md_often_2 v0R v1I v2I v3I v4I σ) = _
  unfold T_Md_often_2
  simp only [lpK_ite, lq_inl, lq_inr, lpK_bnd, lpK_gd, lq_let]
  try rfl
set_option maxRecDepth 20000 in
theorem E_Md_often_3 (v0R : Nat) (v1I : Int32) (v2I : Int32) (v3I : Int32) (v4I : Int32) (σ : AM) : L_Md_often_3 v0R v1I v2I v3I v4I σ = (L_Md_often_4 v0R v1I v2I v3I v4I ((0 : Int32)) σ) := by
  unfold L_Md_often_3
  rw [lp_eq]
  show lpK (lp F_Md_often) (T_Md_often_3 v0R v1I v2I v3I v4I σ) = _
  unfold T_Md_often_3
  simp only [lpK_ite, lq_inl, lq_inr, lpK_bnd, lpK_gd, lq_let]
  try rfl
set_option maxRecDepth 20000 in
theorem E_Md_often_4 (v0R : Nat) (v1I : Int32) (v2I : Int32) (v3I : Int32) (v4I : Int32) (s0I : Int32) (σ : AM) : L_Md_often_4 v0R v1I v2I v3I v4I s0I σ = (if s0I = 0 then (L_Md_often_5 v0R v1I v3I v2I σ) else (L_Md_often_5 v0R v1I v3I v4I σ)) := by
  unfold L_Md_often_4
  rw [lp_eq]
  show lpK (lp F_Md_often) (T_Md_often_4 v0R v1I v2I v3I v4I s0I σ) = _
  unfold T_Md_often_4
  simp only [lpK_ite, lq_inl, lq_inr, lpK_bnd, lpK_gd, lq_let]
  try rfl
set_option maxRecDepth 20000 in
theorem E_Md_often_5 (v0R : Nat) (v1I : Int32) (v3I : Int32) (s0I : Int32) (σ : AM) : L_Md_often_5 v0R v1I v3I s0I σ = (L_Md_often_1 v0R v1I s0I (v3I + (1 : Int32)) σ) := by
  unfold L_Md_often_5
  rw [lp_eq]
  show lpK (lp F_Md_often) (T_Md_often_5 v0R v1I v3I s0I σ) = _
  unfold T_Md_often_5
  simp only [lpK_ite, lq_inl, lq_inr, lpK_bnd, lpK_gd, lq_let]
  try rfl
noncomputable def M_Md_often (v0R : Nat) (v1I : Int32) (σ : AM) : Option (Int32 × AM) := mw σ (L_Md_often_0 v0R v1I σ)
def I_Md_often (G : GX) (p : Program) (l : Launch) (e : Env) (s : State) (m : MethodId) (args : Array Value) (below : List Frame) (meth : Method) (c : Code) (z0 u0 n : Nat) : Prop :=
  (∀ (v0R : Nat) (v1I : Int32) (σ : AM), VX (QM eI G args s below z0 u0) G p l e s m args below meth c 4 z0 u0 6 (lpn F_Md_often n (0, v0R, v1I, 0, 0, 0, 0, σ)) 0 [(0, .ref v0R), (1, .int v1I)] [] σ) ∧
  (∀ (v0R : Nat) (v1I : Int32) (v2I : Int32) (v3I : Int32) (σ : AM), VX (QM eI G args s below z0 u0) G p l e s m args below meth c 4 z0 u0 6 (lpn F_Md_often n (1, v0R, v1I, v2I, v3I, 0, 0, σ)) 22 [(0, .ref v0R), (1, .int v1I), (2, .int v2I), (3, .int v3I)] [] σ) ∧
  (∀ (v0R : Nat) (v1I : Int32) (v2I : Int32) (v3I : Int32) (v4I : Int32) (σ : AM), VX (QM eI G args s below z0 u0) G p l e s m args below meth c 4 z0 u0 6 (lpn F_Md_often n (2, v0R, v1I, v2I, v3I, v4I, 0, σ)) 70 [(0, .ref v0R), (1, .int v1I), (2, .int v2I), (3, .int v3I), (4, .int v4I)] [] σ) ∧
  (∀ (v0R : Nat) (v1I : Int32) (v2I : Int32) (v3I : Int32) (v4I : Int32) (σ : AM), VX (QM eI G args s below z0 u0) G p l e s m args below meth c 4 z0 u0 6 (lpn F_Md_often n (3, v0R, v1I, v2I, v3I, v4I, 0, σ)) 74 [(0, .ref v0R), (1, .int v1I), (2, .int v2I), (3, .int v3I), (4, .int v4I)] [] σ) ∧
  (∀ (v0R : Nat) (v1I : Int32) (v2I : Int32) (v3I : Int32) (v4I : Int32) (s0I : Int32) (σ : AM), VX (QM eI G args s below z0 u0) G p l e s m args below meth c 4 z0 u0 6 (lpn F_Md_often n (4, v0R, v1I, v2I, v3I, v4I, s0I, σ)) 75 [(0, .ref v0R), (1, .int v1I), (2, .int v2I), (3, .int v3I), (4, .int v4I)] [.int s0I] σ) ∧
  (∀ (v0R : Nat) (v1I : Int32) (v3I : Int32) (s0I : Int32) (σ : AM), VX (QM eI G args s below z0 u0) G p l e s m args below meth c 4 z0 u0 6 (lpn F_Md_often n (5, v0R, v1I, 0, v3I, 0, s0I, σ)) 88 [(0, .ref v0R), (1, .int v1I), (3, .int v3I)] [.int s0I] σ)
set_option maxRecDepth 20000 in
theorem s_Md_often_0 {G : GX} {p : Program} {l : Launch} {e : Env} {s : State} {m : MethodId} {args : Array Value} {below : List Frame} {meth : Method} {c : Code} {z0 u0 n : Nat} (C : Cx G p s m args meth c prog_14_method_109_code 6 "BellPlateModel" ((some FieldType.int))) (IH : I_Md_often G p l e s m args below meth c z0 u0 n) (v0R : Nat) (v1I : Int32) (σ : AM) : VX (QM eI G args s below z0 u0) G p l e s m args below meth c 4 z0 u0 6 (lpK (lpn F_Md_often n) (T_Md_often_0 v0R v1I σ)) 0 [(0, .ref v0R), (1, .int v1I)] [] σ := by
  unfold T_Md_often_0
  refine x_aload_n C d_Md_often_0 0 rfl ?_
  refine x_iconst (v := (0 : Int32)) C d_Md_often_1 (by decide) ?_
  refine x_gd (fun h1 => ?_)
  refine x_putI (k := 0) C (okO_iff.mp h1) rfl j11_ok y11_ok n11_ok (by decide) rfl rfl rfl rfl w1852 d_Md_often_2 ?_
  refine x_letS (fun σ2 e3 => ?_)
  refine x_iload_n C d_Md_often_5 1 rfl ?_
  refine x_callSI (As := [.int v1I]) C (c_Md_isWhat G l v1I σ2) w2328 w2327 w2329 w134 k_Md_isWhat rfl (by decide) (by decide) rfl (Nat.le_of_ble_eq_true rfl) d_Md_often_6 (fun r4 σ5 => ?_)
  refine x_if_ne (tgt := 14) C d_Md_often_9 (by decide) (fun _ => ?_) (fun _ => ?_)
  · refine x_iconst (v := ((-1) : Int32)) C d_Md_often_12 (by decide) ?_
    exact x_iret C d_Md_often_13
  · refine x_aload_n C d_Md_often_14 0 rfl ?_
    refine x_gd (fun h8 => ?_)
    refine x_callVV (As := []) C (c_Md_findLeft G l v0R  σ5) (okO_iff.mp h8) rfl w2213 w85 w2211 w2214 w134 k_Md_findLeft rfl (by decide) (by decide) rfl (Nat.le_of_ble_eq_true rfl) d_Md_often_15 (fun r6 σ7 => ?_)
    refine x_iconst (v := ((-1) : Int32)) C d_Md_often_18 (by decide) ?_
    refine x_istore_n (lv' := [(2, .int ((-1) : Int32)), (0, .ref v0R), (1, .int v1I)]) C d_Md_often_19 (by decide) rfl rfl ?_
    refine x_iconst (v := (0 : Int32)) C d_Md_often_20 (by decide) ?_
    refine x_istore_n (lv' := [(3, .int (0 : Int32)), (2, .int ((-1) : Int32)), (0, .ref v0R), (1, .int v1I)]) C d_Md_often_21 (by decide) rfl rfl ?_
    refine x_lv [2, 3, 1, 0] rfl ?_
    exact IH.2.1 v0R v1I (((-1) : Int32)) ((0 : Int32)) (σ7)
set_option maxRecDepth 20000 in
theorem s_Md_often_1 {G : GX} {p : Program} {l : Launch} {e : Env} {s : State} {m : MethodId} {args : Array Value} {below : List Frame} {meth : Method} {c : Code} {z0 u0 n : Nat} (C : Cx G p s m args meth c prog_14_method_109_code 6 "BellPlateModel" ((some FieldType.int))) (IH : I_Md_often G p l e s m args below meth c z0 u0 n) (v0R : Nat) (v1I : Int32) (v2I : Int32) (v3I : Int32) (σ : AM) : VX (QM eI G args s below z0 u0) G p l e s m args below meth c 4 z0 u0 6 (lpK (lpn F_Md_often n) (T_Md_often_1 v0R v1I v2I v3I σ)) 22 [(0, .ref v0R), (1, .int v1I), (2, .int v2I), (3, .int v3I)] [] σ := by
  unfold T_Md_often_1
  refine x_iload_n C d_Md_often_22 3 rfl ?_
  refine x_aload_n C d_Md_often_23 0 rfl ?_
  refine x_gd (fun h1 => ?_)
  refine x_getI (k := 46) C (okO_iff.mp h1) rfl j11_ok (by decide) rfl w1898 d_Md_often_24 ?_
  refine x_icmp_ge (tgt := 95) C d_Md_often_27 (by decide) (fun _ => ?_) (fun _ => ?_)
  · refine x_aload_n C d_Md_often_30 0 rfl ?_
    refine x_aload_n C d_Md_often_31 0 rfl ?_
    refine x_gd (fun h2 => ?_)
    refine x_getR (k := 30) (kv := 102) C (okO_iff.mp h1) rfl j11_ok (by decide) rfl (okO_iff.mp h2) (by decide) w1882 d_Md_often_32 ?_
    refine x_aload_n C d_Md_often_35 0 rfl ?_
    refine x_gd (fun h3 => ?_)
    refine x_getR (k := 45) (kv := 101) C (okO_iff.mp h1) rfl j11_ok (by decide) rfl (okO_iff.mp h3) (by decide) w1897 d_Md_often_36 ?_
    refine x_iload_n C d_Md_often_39 3 rfl ?_
    refine x_gd (fun h4 => ?_)
    refine x_aldI C (okO_iff.mp h3) (inB_iff.mp h4) d_Md_often_40 ?_
    refine x_gd (fun h5 => ?_)
    refine x_aldJ C (okO_iff.mp h2) (inB_iff.mp h5) d_Md_often_41 ?_
    refine x_callVI (As := [.long (aL σ (aR σ v0R 30) (aI σ (aR σ v0R 45) v3I.toNatClampNeg).toNatClampNeg)]) C (c_Md_ringCount G l v0R (aL σ (aR σ v0R 30) (aI σ (aR σ v0R 45) v3I.toNatClampNeg).toNatClampNeg) σ) (okO_iff.mp h1) rfl w2350 w104 w2348 w2351 w134 k_Md_ringCount rfl (by decide) (by decide) rfl (Nat.le_of_ble_eq_true rfl) d_Md_often_42 (fun r6 σ7 => ?_)
    refine x_istore (lv' := [(4, .int r6), (0, .ref v0R), (1, .int v1I), (2, .int v2I), (3, .int v3I)]) C d_Md_often_45 (by decide) rfl ?_
    refine x_iload_n C d_Md_often_47 3 rfl ?_
    refine x_if_lt (tgt := 70) C d_Md_often_48 (by decide) (fun _ => ?_) (fun _ => ?_)
    · refine x_lv [1, 2, 3, 4, 0] rfl ?_
      exact IH.2.2.1 v0R v1I v2I v3I r6 (σ7)
    · refine x_iload_n C d_Md_often_51 2 rfl ?_
      refine x_if_ne (tgt := 64) C d_Md_often_52 (by decide) (fun _ => ?_) (fun _ => ?_)
      · refine x_iload C d_Md_often_55 0 rfl ?_
        refine x_iload_n C d_Md_often_57 3 rfl ?_
        refine x_icmp_ge (tgt := 74) C d_Md_often_58 (by decide) (fun _ => ?_) (fun _ => ?_)
        · refine x_goto (tgt := 70) C d_Md_often_61 (by decide) ?_
          refine x_lv [1, 2, 3, 4, 0] rfl ?_
          exact IH.2.2.1 v0R v1I v2I v3I r6 (σ7)
        · refine x_lv [1, 2, 3, 4, 0] rfl ?_
          exact IH.2.2.2.1 v0R v1I v2I v3I r6 (σ7)
      · refine x_iload C d_Md_often_64 0 rfl ?_
        refine x_iload_n C d_Md_often_66 3 rfl ?_
        refine x_icmp_le (tgt := 74) C d_Md_often_67 (by decide) (fun _ => ?_) (fun _ => ?_)
        · refine x_lv [1, 2, 3, 4, 0] rfl ?_
          exact IH.2.2.1 v0R v1I v2I v3I r6 (σ7)
        · refine x_lv [1, 2, 3, 4, 0] rfl ?_
          exact IH.2.2.2.1 v0R v1I v2I v3I r6 (σ7)
  · refine x_iload_n C d_Md_often_95 2 rfl ?_
    exact x_iret C d_Md_often_96
set_option maxRecDepth 20000 in
theorem s_Md_often_2 {G : GX} {p : Program} {l : Launch} {e : Env} {s : State} {m : MethodId} {args : Array Value} {below : List Frame} {meth : Method} {c : Code} {z0 u0 n : Nat} (C : Cx G p s m args meth c prog_14_method_109_code 6 "BellPlateModel" ((some FieldType.int))) (IH : I_Md_often G p l e s m args below meth c z0 u0 n) (v0R : Nat) (v1I : Int32) (v2I : Int32) (v3I : Int32) (v4I : Int32) (σ : AM) : VX (QM eI G args s below z0 u0) G p l e s m args below meth c 4 z0 u0 6 (lpK (lpn F_Md_often n) (T_Md_often_2 v0R v1I v2I v3I v4I σ)) 70 [(0, .ref v0R), (1, .int v1I), (2, .int v2I), (3, .int v3I), (4, .int v4I)] [] σ := by
  unfold T_Md_often_2
  refine x_iconst (v := (1 : Int32)) C d_Md_often_70 (by decide) ?_
  refine x_goto (tgt := 75) C d_Md_often_71 (by decide) ?_
  exact IH.2.2.2.2.1 v0R v1I v2I v3I v4I ((1 : Int32)) (σ)
set_option maxRecDepth 20000 in
theorem s_Md_often_3 {G : GX} {p : Program} {l : Launch} {e : Env} {s : State} {m : MethodId} {args : Array Value} {below : List Frame} {meth : Method} {c : Code} {z0 u0 n : Nat} (C : Cx G p s m args meth c prog_14_method_109_code 6 "BellPlateModel" ((some FieldType.int))) (IH : I_Md_often G p l e s m args below meth c z0 u0 n) (v0R : Nat) (v1I : Int32) (v2I : Int32) (v3I : Int32) (v4I : Int32) (σ : AM) : VX (QM eI G args s below z0 u0) G p l e s m args below meth c 4 z0 u0 6 (lpK (lpn F_Md_often n) (T_Md_often_3 v0R v1I v2I v3I v4I σ)) 74 [(0, .ref v0R), (1, .int v1I), (2, .int v2I), (3, .int v3I), (4, .int v4I)] [] σ := by
  unfold T_Md_often_3
  refine x_iconst (v := (0 : Int32)) C d_Md_often_74 (by decide) ?_
  exact IH.2.2.2.2.1 v0R v1I v2I v3I v4I ((0 : Int32)) (σ)
set_option maxRecDepth 20000 in
theorem s_Md_often_4 {G : GX} {p : Program} {l : Launch} {e : Env} {s : State} {m : MethodId} {args : Array Value} {below : List Frame} {meth : Method} {c : Code} {z0 u0 n : Nat} (C : Cx G p s m args meth c prog_14_method_109_code 6 "BellPlateModel" ((some FieldType.int))) (IH : I_Md_often G p l e s m args below meth c z0 u0 n) (v0R : Nat) (v1I : Int32) (v2I : Int32) (v3I : Int32) (v4I : Int32) (s0I : Int32) (σ : AM) : VX (QM eI G args s below z0 u0) G p l e s m args below meth c 4 z0 u0 6 (lpK (lpn F_Md_often n) (T_Md_often_4 v0R v1I v2I v3I v4I s0I σ)) 75 [(0, .ref v0R), (1, .int v1I), (2, .int v2I), (3, .int v3I), (4, .int v4I)] [.int s0I] σ := by
  unfold T_Md_often_4
  refine x_istore (lv' := [(5, .int s0I), (0, .ref v0R), (1, .int v1I), (2, .int v2I), (3, .int v3I), (4, .int v4I)]) C d_Md_often_75 (by decide) rfl ?_
  refine x_iload C d_Md_often_77 0 rfl ?_
  refine x_if_eq (tgt := 87) C d_Md_often_79 (by decide) (fun _ => ?_) (fun _ => ?_)
  · refine x_iload_n C d_Md_often_87 3 rfl ?_
    refine x_lv [1, 2, 4] rfl ?_
    exact IH.2.2.2.2.2 v0R v1I v3I v2I (σ)
  · refine x_iload C d_Md_often_82 5 rfl ?_
    refine x_goto (tgt := 88) C d_Md_often_84 (by decide) ?_
    refine x_lv [1, 2, 4] rfl ?_
    exact IH.2.2.2.2.2 v0R v1I v3I v4I (σ)
set_option maxRecDepth 20000 in
theorem s_Md_often_5 {G : GX} {p : Program} {l : Launch} {e : Env} {s : State} {m : MethodId} {args : Array Value} {below : List Frame} {meth : Method} {c : Code} {z0 u0 n : Nat} (C : Cx G p s m args meth c prog_14_method_109_code 6 "BellPlateModel" ((some FieldType.int))) (IH : I_Md_often G p l e s m args below meth c z0 u0 n) (v0R : Nat) (v1I : Int32) (v3I : Int32) (s0I : Int32) (σ : AM) : VX (QM eI G args s below z0 u0) G p l e s m args below meth c 4 z0 u0 6 (lpK (lpn F_Md_often n) (T_Md_often_5 v0R v1I v3I s0I σ)) 88 [(0, .ref v0R), (1, .int v1I), (3, .int v3I)] [.int s0I] σ := by
  unfold T_Md_often_5
  refine x_istore_n (lv' := [(2, .int s0I), (0, .ref v0R), (1, .int v1I), (3, .int v3I)]) C d_Md_often_88 (by decide) rfl rfl ?_
  refine x_iinc (v := v3I + (1 : Int32)) (lv' := [(3, .int (v3I + (1 : Int32))), (2, .int s0I), (0, .ref v0R), (1, .int v1I)]) C d_Md_often_89 3 rfl rfl (by decide) rfl ?_
  refine x_goto (tgt := 22) C d_Md_often_92 (by decide) ?_
  refine x_lv [2, 3, 1, 0] rfl ?_
  exact IH.2.1 v0R v1I s0I (v3I + (1 : Int32)) (σ)
theorem i_Md_often {G : GX} {p : Program} {l : Launch} {e : Env} {s : State} {m : MethodId} {args : Array Value} {below : List Frame} {meth : Method} {c : Code} {z0 u0 : Nat} (C : Cx G p s m args meth c prog_14_method_109_code 6 "BellPlateModel" ((some FieldType.int))) (n : Nat) : I_Md_often G p l e s m args below meth c z0 u0 n := by
  induction n with
  | zero => exact ⟨fun _ _ _ => x_none, fun _ _ _ _ _ => x_none, fun _ _ _ _ _ _ => x_none, fun _ _ _ _ _ _ => x_none, fun _ _ _ _ _ _ _ => x_none, fun _ _ _ _ _ => x_none⟩
  | succ n IH => exact ⟨fun v0R v1I σ => s_Md_often_0 C IH v0R v1I σ, fun v0R v1I v2I v3I σ => s_Md_often_1 C IH v0R v1I v2I v3I σ, fun v0R v1I v2I v3I v4I σ => s_Md_often_2 C IH v0R v1I v2I v3I v4I σ, fun v0R v1I v2I v3I v4I σ => s_Md_often_3 C IH v0R v1I v2I v3I v4I σ, fun v0R v1I v2I v3I v4I s0I σ => s_Md_often_4 C IH v0R v1I v2I v3I v4I s0I σ, fun v0R v1I v3I s0I σ => s_Md_often_5 C IH v0R v1I v3I s0I σ⟩
theorem c_Md_often (G : GX) (l : Launch) (v0R : Nat) (v1I : Int32) (σ : AM) : CT eI G l 4 y_Md_often prog_14_method_109_code 6 ((some FieldType.int)) [.ref v0R, .int v1I] σ (M_Md_often v0R v1I σ) := by
  refine ct_of (by decide +kernel) (Nat.le_of_ble_eq_true rfl) (fun p e s m args below meth c C hin => ?_)
  refine x_lve (lv' := [(0, .ref v0R), (1, .int v1I)]) rfl ?_
  intro r σ' h
  obtain ⟨n, hn⟩ := (lp_iff _ _ _).mp h
  exact (i_Md_often C n).1 v0R v1I σ r σ' hn
/-! BellPlateModel.rings(I)I -/
abbrev y_Md_rings : MethodName := ⟨"BellPlateModel", "rings", "(I)I"⟩
theorem k_Md_rings : y_Md_rings.cls ≠ "java/lang/invoke/MethodHandle" ∧ y_Md_rings.cls ≠ "java/lang/invoke/VarHandle" ∧ (parseMethodDescriptor y_Md_rings.desc).map (fun d => d.parameters.length) = some 1 := by decide +kernel
theorem d_Md_rings_0 : decode prog_14_method_110_code 0 = .ok (.aload_n 0, 1) := by decide +kernel
theorem d_Md_rings_1 : decode prog_14_method_110_code 1 = .ok (.iconst 0, 1) := by decide +kernel
theorem d_Md_rings_2 : decode prog_14_method_110_code 2 = .ok (.putfield 1, 3) := by decide +kernel
theorem d_Md_rings_5 : decode prog_14_method_110_code 5 = .ok (.iload_n 1, 1) := by decide +kernel
theorem d_Md_rings_6 : decode prog_14_method_110_code 6 = .ok (.iconst 0, 1) := by decide +kernel
theorem d_Md_rings_7 : decode prog_14_method_110_code 7 = .ok (.bipush 64, 2) := by decide +kernel
theorem d_Md_rings_9 : decode prog_14_method_110_code 9 = .ok (.invokestatic 350, 3) := by decide +kernel
theorem d_Md_rings_12 : decode prog_14_method_110_code 12 = .ok (.ifCond .ne 5, 3) := by decide +kernel
theorem d_Md_rings_15 : decode prog_14_method_110_code 15 = .ok (.iconst (-1), 1) := by decide +kernel
theorem d_Md_rings_16 : decode prog_14_method_110_code 16 = .ok (.ireturn, 1) := by decide +kernel
theorem d_Md_rings_17 : decode prog_14_method_110_code 17 = .ok (.aload_n 0, 1) := by decide +kernel
theorem d_Md_rings_18 : decode prog_14_method_110_code 18 = .ok (.invokevirtual 381, 3) := by decide +kernel
theorem d_Md_rings_21 : decode prog_14_method_110_code 21 = .ok (.iconst 0, 1) := by decide +kernel
theorem d_Md_rings_22 : decode prog_14_method_110_code 22 = .ok (.istore_n 2, 1) := by decide +kernel
theorem d_Md_rings_23 : decode prog_14_method_110_code 23 = .ok (.iconst 0, 1) := by decide +kernel
theorem d_Md_rings_24 : decode prog_14_method_110_code 24 = .ok (.istore_n 3, 1) := by decide +kernel
theorem d_Md_rings_25 : decode prog_14_method_110_code 25 = .ok (.iload_n 3, 1) := by decide +kernel
theorem d_Md_rings_26 : decode prog_14_method_110_code 26 = .ok (.aload_n 0, 1) := by decide +kernel
theorem d_Md_rings_27 : decode prog_14_method_110_code 27 = .ok (.getfield 372, 3) := by decide +kernel
theorem d_Md_rings_30 : decode prog_14_method_110_code 30 = .ok (.if_icmp .ge 36, 3) := by decide +kernel
theorem d_Md_rings_33 : decode prog_14_method_110_code 33 = .ok (.iload_n 2, 1) := by decide +kernel
theorem d_Md_rings_34 : decode prog_14_method_110_code 34 = .ok (.aload_n 0, 1) := by decide +kernel
theorem d_Md_rings_35 : decode prog_14_method_110_code 35 = .ok (.aload_n 0, 1) := by decide +kernel
theorem d_Md_rings_36 : decode prog_14_method_110_code 36 = .ok (.getfield 82, 3) := by decide +kernel
theorem d_Md_rings_39 : decode prog_14_method_110_code 39 = .ok (.aload_n 0, 1) := by decide +kernel
theorem d_Md_rings_40 : decode prog_14_method_110_code 40 = .ok (.getfield 116, 3) := by decide +kernel
theorem d_Md_rings_43 : decode prog_14_method_110_code 43 = .ok (.iload_n 3, 1) := by decide +kernel
theorem d_Md_rings_44 : decode prog_14_method_110_code 44 = .ok (.iaload, 1) := by decide +kernel
theorem d_Md_rings_45 : decode prog_14_method_110_code 45 = .ok (.laload, 1) := by decide +kernel
theorem d_Md_rings_46 : decode prog_14_method_110_code 46 = .ok (.invokevirtual 472, 3) := by decide +kernel
theorem d_Md_rings_49 : decode prog_14_method_110_code 49 = .ok (.iload_n 1, 1) := by decide +kernel
theorem d_Md_rings_50 : decode prog_14_method_110_code 50 = .ok (.if_icmp .ne 7, 3) := by decide +kernel
theorem d_Md_rings_53 : decode prog_14_method_110_code 53 = .ok (.iconst 1, 1) := by decide +kernel
theorem d_Md_rings_54 : decode prog_14_method_110_code 54 = .ok (.goto 4, 3) := by decide +kernel
theorem d_Md_rings_57 : decode prog_14_method_110_code 57 = .ok (.iconst 0, 1) := by decide +kernel
theorem d_Md_rings_58 : decode prog_14_method_110_code 58 = .ok (.iadd, 1) := by decide +kernel
theorem d_Md_rings_59 : decode prog_14_method_110_code 59 = .ok (.istore_n 2, 1) := by decide +kernel
theorem d_Md_rings_60 : decode prog_14_method_110_code 60 = .ok (.iinc 3 1, 3) := by decide +kernel
theorem d_Md_rings_63 : decode prog_14_method_110_code 63 = .ok (.goto (-38), 3) := by decide +kernel
theorem d_Md_rings_66 : decode prog_14_method_110_code 66 = .ok (.iload_n 2, 1) := by decide +kernel
theorem d_Md_rings_67 : decode prog_14_method_110_code 67 = .ok (.ireturn, 1) := by decide +kernel
abbrev S_Md_rings : Type := Nat × Nat × Int32 × Int32 × Int32 × Int32 × Int32 × AM
noncomputable def T_Md_rings_0 (v0R : Nat) (v1I : Int32) (σ : AM) : S_Md_rings ⊕ Option (Int32 × AM) :=
  gdT (okO σ v0R 12) <| letT (sI σ v0R 0 (0 : Int32)) fun σ2 => bndT (M_Md_within v1I (0 : Int32) (64 : Int32) σ2) fun r4 σ5 => if r4 = 0 then (.inr (some (((-1) : Int32), σ5))) else (gdT (okO σ5 v0R 12) <| bndT (M_Md_findLeft v0R σ5) fun _ σ7 => .inl (1, v0R, v1I, (0 : Int32), (0 : Int32), 0, 0, σ7))
noncomputable def T_Md_rings_1 (v0R : Nat) (v1I : Int32) (v2I : Int32) (v3I : Int32) (σ : AM) : S_Md_rings ⊕ Option (Int32 × AM) :=
  gdT (okO σ v0R 12) <| if v3I < (aI σ v0R 46) then (gdT (okO σ (aR σ v0R 30) 102) <| gdT (okO σ (aR σ v0R 45) 101) <| gdT (inB v3I (aN σ (aR σ v0R 45))) <| gdT (inB (aI σ (aR σ v0R 45) v3I.toNatClampNeg) (aN σ (aR σ v0R 30))) <| bndT (M_Md_ringCount v0R (aL σ (aR σ v0R 30) (aI σ (aR σ v0R 45) v3I.toNatClampNeg).toNatClampNeg) σ) fun r6 σ7 => if r6 = v1I then (.inl (2, v0R, v1I, 0, v3I, v2I, (1 : Int32), σ7)) else (.inl (2, v0R, v1I, 0, v3I, v2I, (0 : Int32), σ7))) else (.inr (some (v2I, σ)))
noncomputable def T_Md_rings_2 (v0R : Nat) (v1I : Int32) (v3I : Int32) (s0I : Int32) (s1I : Int32) (σ : AM) : S_Md_rings ⊕ Option (Int32 × AM) :=
  letT (s0I + s1I) fun x1 => .inl (1, v0R, v1I, x1, v3I + (1 : Int32), 0, 0, σ)
noncomputable def F_Md_rings : S_Md_rings → S_Md_rings ⊕ Option (Int32 × AM) := fun s => match s.1 with
  | 0 => T_Md_rings_0 (s.2.1) (s.2.2.1) (s.2.2.2.2.2.2.2)
  | 1 => T_Md_rings_1 (s.2.1) (s.2.2.1) (s.2.2.2.1) (s.2.2.2.2.1) (s.2.2.2.2.2.2.2)
  | _ => T_Md_rings_2 (s.2.1) (s.2.2.1) (s.2.2.2.2.1) (s.2.2.2.2.2.1) (s.2.2.2.2.2.2.1) (s.2.2.2.2.2.2.2)
noncomputable def L_Md_rings_0 (v0R : Nat) (v1I : Int32) (σ : AM) : Option (Int32 × AM) := lp F_Md_rings (0, v0R, v1I, 0, 0, 0, 0, σ)
noncomputable def L_Md_rings_1 (v0R : Nat) (v1I : Int32) (v2I : Int32) (v3I : Int32) (σ : AM) : Option (Int32 × AM) := lp F_Md_rings (1, v0R, v1I, v2I, v3I, 0, 0, σ)
noncomputable def L_Md_rings_2 (v0R : Nat) (v1I : Int32) (v3I : Int32) (s0I : Int32) (s1I : Int32) (σ : AM) : Option (Int32 × AM) := lp F_Md_rings (2, v0R, v1I, 0, v3I, s0I, s1I, σ)
set_option maxRecDepth 20000 in
theorem E_Md_rings_0 (v0R : Nat) (v1I : Int32) (σ : AM) : L_Md_rings_0 v0R v1I σ = (gd (okO σ v0R 12) <| letT (sI σ v0R 0 (0 : Int32)) fun σ2 => bnd (M_Md_within v1I (0 : Int32) (64 : Int32) σ2) fun r4 σ5 => if r4 = 0 then ((some (((-1) : Int32), σ5))) else (gd (okO σ5 v0R 12) <| bnd (M_Md_findLeft v0R σ5) fun _ σ7 => L_Md_rings_1 v0R v1I ((0 : Int32)) ((0 : Int32)) σ7)) := by
  unfold L_Md_rings_0
  rw [lp_eq]
  show lpK (lp F_Md_rings) (T_Md_rings_0 v0R v1I σ) = _
  unfold T_Md_rings_0
  simp only [lpK_ite, lq_inl, lq_inr, lpK_bnd, lpK_gd, lq_let]
  try rfl
set_option maxRecDepth 20000 in
theorem E_Md_rings_1 (v0R : Nat) (v1I : Int32) (v2I : Int32) (v3I : Int32) (σ : AM) : L_Md_rings_1 v0R v1I v2I v3I σ = (gd (okO σ v0R 12) <| if v3I < (aI σ v0R 46) then (gd (okO σ (aR σ v0R 30) 102) <| gd (okO σ (aR σ v0R 45) 101) <| gd (inB v3I (aN σ (aR σ v0R 45))) <| gd (inB (aI σ (aR σ v0R 45) v3I.toNatClampNeg) (aN σ (aR σ v0R 30))) <| bnd (M_Md_ringCount v0R (aL σ (aR σ v0R 30) (aI σ (aR σ v0R 45) v3I.toNatClampNeg).toNatClampNeg) σ) fun r6 σ7 => if r6 = v1I then (L_Md_rings_2 v0R v1I v3I v2I ((1 : Int32)) σ7) else (L_Md_rings_2 v0R v1I v3I v2I ((0 : Int32)) σ7)) else ((some (v2I, σ)))) := by
  unfold L_Md_rings_1
  rw [lp_eq]
  show lpK (lp F_Md_rings) (T_Md_rings_1 v0R v1I v2I v3I σ) = _
  unfold T_Md_rings_1
  simp only [lpK_ite, lq_inl, lq_inr, lpK_bnd, lpK_gd, lq_let]
  try rfl
set_option maxRecDepth 20000 in
theorem E_Md_rings_2 (v0R : Nat) (v1I : Int32) (v3I : Int32) (s0I : Int32) (s1I : Int32) (σ : AM) : L_Md_rings_2 v0R v1I v3I s0I s1I σ = (letT (s0I + s1I) fun x1 => L_Md_rings_1 v0R v1I x1 (v3I + (1 : Int32)) σ) := by
  unfold L_Md_rings_2
  rw [lp_eq]
  show lpK (lp F_Md_rings) (T_Md_rings_2 v0R v1I v3I s0I s1I σ) = _
  unfold T_Md_rings_2
  simp only [lpK_ite, lq_inl, lq_inr, lpK_bnd, lpK_gd, lq_let]
  try rfl
noncomputable def M_Md_rings (v0R : Nat) (v1I : Int32) (σ : AM) : Option (Int32 × AM) := mw σ (L_Md_rings_0 v0R v1I σ)
def I_Md_rings (G : GX) (p : Program) (l : Launch) (e : Env) (s : State) (m : MethodId) (args : Array Value) (below : List Frame) (meth : Method) (c : Code) (z0 u0 n : Nat) : Prop :=
  (∀ (v0R : Nat) (v1I : Int32) (σ : AM), VX (QM eI G args s below z0 u0) G p l e s m args below meth c 4 z0 u0 4 (lpn F_Md_rings n (0, v0R, v1I, 0, 0, 0, 0, σ)) 0 [(0, .ref v0R), (1, .int v1I)] [] σ) ∧
  (∀ (v0R : Nat) (v1I : Int32) (v2I : Int32) (v3I : Int32) (σ : AM), VX (QM eI G args s below z0 u0) G p l e s m args below meth c 4 z0 u0 4 (lpn F_Md_rings n (1, v0R, v1I, v2I, v3I, 0, 0, σ)) 25 [(0, .ref v0R), (1, .int v1I), (2, .int v2I), (3, .int v3I)] [] σ) ∧
  (∀ (v0R : Nat) (v1I : Int32) (v3I : Int32) (s0I : Int32) (s1I : Int32) (σ : AM), VX (QM eI G args s below z0 u0) G p l e s m args below meth c 4 z0 u0 4 (lpn F_Md_rings n (2, v0R, v1I, 0, v3I, s0I, s1I, σ)) 58 [(0, .ref v0R), (1, .int v1I), (3, .int v3I)] [.int s1I, .int s0I] σ)
set_option maxRecDepth 20000 in
theorem s_Md_rings_0 {G : GX} {p : Program} {l : Launch} {e : Env} {s : State} {m : MethodId} {args : Array Value} {below : List Frame} {meth : Method} {c : Code} {z0 u0 n : Nat} (C : Cx G p s m args meth c prog_14_method_110_code 4 "BellPlateModel" ((some FieldType.int))) (IH : I_Md_rings G p l e s m args below meth c z0 u0 n) (v0R : Nat) (v1I : Int32) (σ : AM) : VX (QM eI G args s below z0 u0) G p l e s m args below meth c 4 z0 u0 4 (lpK (lpn F_Md_rings n) (T_Md_rings_0 v0R v1I σ)) 0 [(0, .ref v0R), (1, .int v1I)] [] σ := by
  unfold T_Md_rings_0
  refine x_aload_n C d_Md_rings_0 0 rfl ?_
  refine x_iconst (v := (0 : Int32)) C d_Md_rings_1 (by decide) ?_
  refine x_gd (fun h1 => ?_)
  refine x_putI (k := 0) C (okO_iff.mp h1) rfl j11_ok y11_ok n11_ok (by decide) rfl rfl rfl rfl w1852 d_Md_rings_2 ?_
  refine x_letS (fun σ2 e3 => ?_)
  refine x_iload_n C d_Md_rings_5 1 rfl ?_
  refine x_iconst (v := (0 : Int32)) C d_Md_rings_6 (by decide) ?_
  refine x_bipush (v := (64 : Int32)) C d_Md_rings_7 (by decide) ?_
  refine x_callSI (As := [.int v1I, .int (0 : Int32), .int (64 : Int32)]) C (c_Md_within G l v1I (0 : Int32) (64 : Int32) σ2) w2205 w2204 w2206 w134 k_Md_within rfl (by decide) (by decide) rfl (Nat.le_of_ble_eq_true rfl) d_Md_rings_9 (fun r4 σ5 => ?_)
  refine x_if_ne (tgt := 17) C d_Md_rings_12 (by decide) (fun _ => ?_) (fun _ => ?_)
  · refine x_iconst (v := ((-1) : Int32)) C d_Md_rings_15 (by decide) ?_
    exact x_iret C d_Md_rings_16
  · refine x_aload_n C d_Md_rings_17 0 rfl ?_
    refine x_gd (fun h8 => ?_)
    refine x_callVV (As := []) C (c_Md_findLeft G l v0R  σ5) (okO_iff.mp h8) rfl w2213 w85 w2211 w2214 w134 k_Md_findLeft rfl (by decide) (by decide) rfl (Nat.le_of_ble_eq_true rfl) d_Md_rings_18 (fun r6 σ7 => ?_)
    refine x_iconst (v := (0 : Int32)) C d_Md_rings_21 (by decide) ?_
    refine x_istore_n (lv' := [(2, .int (0 : Int32)), (0, .ref v0R), (1, .int v1I)]) C d_Md_rings_22 (by decide) rfl rfl ?_
    refine x_iconst (v := (0 : Int32)) C d_Md_rings_23 (by decide) ?_
    refine x_istore_n (lv' := [(3, .int (0 : Int32)), (2, .int (0 : Int32)), (0, .ref v0R), (1, .int v1I)]) C d_Md_rings_24 (by decide) rfl rfl ?_
    refine x_lv [2, 3, 1, 0] rfl ?_
    exact IH.2.1 v0R v1I ((0 : Int32)) ((0 : Int32)) (σ7)
set_option maxRecDepth 20000 in
theorem s_Md_rings_1 {G : GX} {p : Program} {l : Launch} {e : Env} {s : State} {m : MethodId} {args : Array Value} {below : List Frame} {meth : Method} {c : Code} {z0 u0 n : Nat} (C : Cx G p s m args meth c prog_14_method_110_code 4 "BellPlateModel" ((some FieldType.int))) (IH : I_Md_rings G p l e s m args below meth c z0 u0 n) (v0R : Nat) (v1I : Int32) (v2I : Int32) (v3I : Int32) (σ : AM) : VX (QM eI G args s below z0 u0) G p l e s m args below meth c 4 z0 u0 4 (lpK (lpn F_Md_rings n) (T_Md_rings_1 v0R v1I v2I v3I σ)) 25 [(0, .ref v0R), (1, .int v1I), (2, .int v2I), (3, .int v3I)] [] σ := by
  unfold T_Md_rings_1
  refine x_iload_n C d_Md_rings_25 3 rfl ?_
  refine x_aload_n C d_Md_rings_26 0 rfl ?_
  refine x_gd (fun h1 => ?_)
  refine x_getI (k := 46) C (okO_iff.mp h1) rfl j11_ok (by decide) rfl w1898 d_Md_rings_27 ?_
  refine x_icmp_ge (tgt := 66) C d_Md_rings_30 (by decide) (fun _ => ?_) (fun _ => ?_)
  · refine x_iload_n C d_Md_rings_33 2 rfl ?_
    refine x_aload_n C d_Md_rings_34 0 rfl ?_
    refine x_aload_n C d_Md_rings_35 0 rfl ?_
    refine x_gd (fun h2 => ?_)
    refine x_getR (k := 30) (kv := 102) C (okO_iff.mp h1) rfl j11_ok (by decide) rfl (okO_iff.mp h2) (by decide) w1882 d_Md_rings_36 ?_
    refine x_aload_n C d_Md_rings_39 0 rfl ?_
    refine x_gd (fun h3 => ?_)
    refine x_getR (k := 45) (kv := 101) C (okO_iff.mp h1) rfl j11_ok (by decide) rfl (okO_iff.mp h3) (by decide) w1897 d_Md_rings_40 ?_
    refine x_iload_n C d_Md_rings_43 3 rfl ?_
    refine x_gd (fun h4 => ?_)
    refine x_aldI C (okO_iff.mp h3) (inB_iff.mp h4) d_Md_rings_44 ?_
    refine x_gd (fun h5 => ?_)
    refine x_aldJ C (okO_iff.mp h2) (inB_iff.mp h5) d_Md_rings_45 ?_
    refine x_callVI (As := [.long (aL σ (aR σ v0R 30) (aI σ (aR σ v0R 45) v3I.toNatClampNeg).toNatClampNeg)]) C (c_Md_ringCount G l v0R (aL σ (aR σ v0R 30) (aI σ (aR σ v0R 45) v3I.toNatClampNeg).toNatClampNeg) σ) (okO_iff.mp h1) rfl w2350 w104 w2348 w2351 w134 k_Md_ringCount rfl (by decide) (by decide) rfl (Nat.le_of_ble_eq_true rfl) d_Md_rings_46 (fun r6 σ7 => ?_)
    refine x_iload_n C d_Md_rings_49 1 rfl ?_
    refine x_icmp_ne (tgt := 57) C d_Md_rings_50 (by decide) (fun _ => ?_) (fun _ => ?_)
    · refine x_iconst (v := (1 : Int32)) C d_Md_rings_53 (by decide) ?_
      refine x_goto (tgt := 58) C d_Md_rings_54 (by decide) ?_
      refine x_lv [0, 1, 3] rfl ?_
      exact IH.2.2 v0R v1I v3I v2I ((1 : Int32)) (σ7)
    · refine x_iconst (v := (0 : Int32)) C d_Md_rings_57 (by decide) ?_
      refine x_lv [0, 1, 3] rfl ?_
      exact IH.2.2 v0R v1I v3I v2I ((0 : Int32)) (σ7)
  · refine x_iload_n C d_Md_rings_66 2 rfl ?_
    exact x_iret C d_Md_rings_67
set_option maxRecDepth 20000 in
theorem s_Md_rings_2 {G : GX} {p : Program} {l : Launch} {e : Env} {s : State} {m : MethodId} {args : Array Value} {below : List Frame} {meth : Method} {c : Code} {z0 u0 n : Nat} (C : Cx G p s m args meth c prog_14_method_110_code 4 "BellPlateModel" ((some FieldType.int))) (IH : I_Md_rings G p l e s m args below meth c z0 u0 n) (v0R : Nat) (v1I : Int32) (v3I : Int32) (s0I : Int32) (s1I : Int32) (σ : AM) : VX (QM eI G args s below z0 u0) G p l e s m args below meth c 4 z0 u0 4 (lpK (lpn F_Md_rings n) (T_Md_rings_2 v0R v1I v3I s0I s1I σ)) 58 [(0, .ref v0R), (1, .int v1I), (3, .int v3I)] [.int s1I, .int s0I] σ := by
  unfold T_Md_rings_2
  refine x_iadd C d_Md_rings_58 ?_
  refine x_letI (fun x1 _ => ?_)
  refine x_istore_n (lv' := [(2, .int x1), (0, .ref v0R), (1, .int v1I), (3, .int v3I)]) C d_Md_rings_59 (by decide) rfl rfl ?_
  refine x_iinc (v := v3I + (1 : Int32)) (lv' := [(3, .int (v3I + (1 : Int32))), (2, .int x1), (0, .ref v0R), (1, .int v1I)]) C d_Md_rings_60 3 rfl rfl (by decide) rfl ?_
  refine x_goto (tgt := 25) C d_Md_rings_63 (by decide) ?_
  refine x_lv [2, 3, 1, 0] rfl ?_
  exact IH.2.1 v0R v1I x1 (v3I + (1 : Int32)) (σ)
theorem i_Md_rings {G : GX} {p : Program} {l : Launch} {e : Env} {s : State} {m : MethodId} {args : Array Value} {below : List Frame} {meth : Method} {c : Code} {z0 u0 : Nat} (C : Cx G p s m args meth c prog_14_method_110_code 4 "BellPlateModel" ((some FieldType.int))) (n : Nat) : I_Md_rings G p l e s m args below meth c z0 u0 n := by
  induction n with
  | zero => exact ⟨fun _ _ _ => x_none, fun _ _ _ _ _ => x_none, fun _ _ _ _ _ _ => x_none⟩
  | succ n IH => exact ⟨fun v0R v1I σ => s_Md_rings_0 C IH v0R v1I σ, fun v0R v1I v2I v3I σ => s_Md_rings_1 C IH v0R v1I v2I v3I σ, fun v0R v1I v3I s0I s1I σ => s_Md_rings_2 C IH v0R v1I v3I s0I s1I σ⟩
theorem c_Md_rings (G : GX) (l : Launch) (v0R : Nat) (v1I : Int32) (σ : AM) : CT eI G l 4 y_Md_rings prog_14_method_110_code 4 ((some FieldType.int)) [.ref v0R, .int v1I] σ (M_Md_rings v0R v1I σ) := by
  refine ct_of (by decide +kernel) (Nat.le_of_ble_eq_true rfl) (fun p e s m args below meth c C hin => ?_)
  refine x_lve (lv' := [(0, .ref v0R), (1, .int v1I)]) rfl ?_
  intro r σ' h
  obtain ⟨n, hn⟩ := (lp_iff _ _ _).mp h
  exact (i_Md_rings C n).1 v0R v1I σ r σ' hn
