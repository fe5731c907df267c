/-! BellPlateModel.odds(II)I -/
abbrev y_Md_odds : MethodName := ⟨"BellPlateModel", "odds", "(II)I"⟩
theorem k_Md_odds : y_Md_odds.cls ≠ "java/lang/invoke/MethodHandle" ∧ y_Md_odds.cls ≠ "java/lang/invoke/VarHandle" ∧ (parseMethodDescriptor y_Md_odds.desc).map (fun d => d.parameters.length) = some 2 := by decide +kernel
theorem d_Md_odds_0 : decode prog_14_method_111_code 0 = .ok (.aload_n 0, 1) := by decide +kernel
theorem d_Md_odds_1 : decode prog_14_method_111_code 1 = .ok (.iconst 0, 1) := by decide +kernel
theorem d_Md_odds_2 : decode prog_14_method_111_code 2 = .ok (.putfield 1, 3) := by decide +kernel
theorem d_Md_odds_5 : decode prog_14_method_111_code 5 = .ok (.aload_n 0, 1) := by decide +kernel
theorem d_Md_odds_6 : decode prog_14_method_111_code 6 = .ok (.iload_n 1, 1) := by decide +kernel
theorem d_Md_odds_7 : decode prog_14_method_111_code 7 = .ok (.invokevirtual 340, 3) := by decide +kernel
theorem d_Md_odds_10 : decode prog_14_method_111_code 10 = .ok (.ifCond .eq 10, 3) := by decide +kernel
theorem d_Md_odds_13 : decode prog_14_method_111_code 13 = .ok (.iload_n 2, 1) := by decide +kernel
theorem d_Md_odds_14 : decode prog_14_method_111_code 14 = .ok (.invokestatic 453, 3) := by decide +kernel
theorem d_Md_odds_17 : decode prog_14_method_111_code 17 = .ok (.ifCond .ne 5, 3) := by decide +kernel
theorem d_Md_odds_20 : decode prog_14_method_111_code 20 = .ok (.iconst (-1), 1) := by decide +kernel
theorem d_Md_odds_21 : decode prog_14_method_111_code 21 = .ok (.ireturn, 1) := by decide +kernel
theorem d_Md_odds_22 : decode prog_14_method_111_code 22 = .ok (.aload_n 0, 1) := by decide +kernel
theorem d_Md_odds_23 : decode prog_14_method_111_code 23 = .ok (.invokevirtual 381, 3) := by decide +kernel
theorem d_Md_odds_26 : decode prog_14_method_111_code 26 = .ok (.lconst 0, 1) := by decide +kernel
theorem d_Md_odds_27 : decode prog_14_method_111_code 27 = .ok (.lstore_n 3, 1) := by decide +kernel
theorem d_Md_odds_28 : decode prog_14_method_111_code 28 = .ok (.iconst 0, 1) := by decide +kernel
theorem d_Md_odds_29 : decode prog_14_method_111_code 29 = .ok (.istore 5, 2) := by decide +kernel
theorem d_Md_odds_31 : decode prog_14_method_111_code 31 = .ok (.iload 5, 2) := by decide +kernel
theorem d_Md_odds_33 : decode prog_14_method_111_code 33 = .ok (.aload_n 0, 1) := by decide +kernel
theorem d_Md_odds_34 : decode prog_14_method_111_code 34 = .ok (.getfield 372, 3) := by decide +kernel
theorem d_Md_odds_37 : decode prog_14_method_111_code 37 = .ok (.if_icmp .ge 48, 3) := by decide +kernel
theorem d_Md_odds_40 : decode prog_14_method_111_code 40 = .ok (.lload_n 3, 1) := by decide +kernel
theorem d_Md_odds_41 : decode prog_14_method_111_code 41 = .ok (.aload_n 0, 1) := by decide +kernel
theorem d_Md_odds_42 : decode prog_14_method_111_code 42 = .ok (.getfield 82, 3) := by decide +kernel
theorem d_Md_odds_45 : decode prog_14_method_111_code 45 = .ok (.aload_n 0, 1) := by decide +kernel
theorem d_Md_odds_46 : decode prog_14_method_111_code 46 = .ok (.getfield 116, 3) := by decide +kernel
theorem d_Md_odds_49 : decode prog_14_method_111_code 49 = .ok (.iload 5, 2) := by decide +kernel
theorem d_Md_odds_51 : decode prog_14_method_111_code 51 = .ok (.iaload, 1) := by decide +kernel
theorem d_Md_odds_52 : decode prog_14_method_111_code 52 = .ok (.laload, 1) := by decide +kernel
theorem d_Md_odds_53 : decode prog_14_method_111_code 53 = .ok (.iload_n 1, 1) := by decide +kernel
theorem d_Md_odds_54 : decode prog_14_method_111_code 54 = .ok (.invokestatic 357, 3) := by decide +kernel
theorem d_Md_odds_57 : decode prog_14_method_111_code 57 = .ok (.ifCond .eq 19, 3) := by decide +kernel
theorem d_Md_odds_60 : decode prog_14_method_111_code 60 = .ok (.aload_n 0, 1) := by decide +kernel
theorem d_Md_odds_61 : decode prog_14_method_111_code 61 = .ok (.getfield 85, 3) := by decide +kernel
theorem d_Md_odds_64 : decode prog_14_method_111_code 64 = .ok (.aload_n 0, 1) := by decide +kernel
theorem d_Md_odds_65 : decode prog_14_method_111_code 65 = .ok (.getfield 116, 3) := by decide +kernel
theorem d_Md_odds_68 : decode prog_14_method_111_code 68 = .ok (.iload 5, 2) := by decide +kernel
theorem d_Md_odds_70 : decode prog_14_method_111_code 70 = .ok (.iaload, 1) := by decide +kernel
theorem d_Md_odds_71 : decode prog_14_method_111_code 71 = .ok (.iaload, 1) := by decide +kernel
theorem d_Md_odds_72 : decode prog_14_method_111_code 72 = .ok (.i2l, 1) := by decide +kernel
theorem d_Md_odds_73 : decode prog_14_method_111_code 73 = .ok (.goto 4, 3) := by decide +kernel
theorem d_Md_odds_76 : decode prog_14_method_111_code 76 = .ok (.lconst 0, 1) := by decide +kernel
theorem d_Md_odds_77 : decode prog_14_method_111_code 77 = .ok (.ladd, 1) := by decide +kernel
theorem d_Md_odds_78 : decode prog_14_method_111_code 78 = .ok (.lstore_n 3, 1) := by decide +kernel
theorem d_Md_odds_79 : decode prog_14_method_111_code 79 = .ok (.iinc 5 1, 3) := by decide +kernel
theorem d_Md_odds_82 : decode prog_14_method_111_code 82 = .ok (.goto (-51), 3) := by decide +kernel
theorem d_Md_odds_85 : decode prog_14_method_111_code 85 = .ok (.aload_n 0, 1) := by decide +kernel
theorem d_Md_odds_86 : decode prog_14_method_111_code 86 = .ok (.getfield 375, 3) := by decide +kernel
theorem d_Md_odds_89 : decode prog_14_method_111_code 89 = .ok (.ifCond .ne 7, 3) := by decide +kernel
theorem d_Md_odds_92 : decode prog_14_method_111_code 92 = .ok (.iconst (-1), 1) := by decide +kernel
theorem d_Md_odds_93 : decode prog_14_method_111_code 93 = .ok (.goto 13, 3) := by decide +kernel
theorem d_Md_odds_96 : decode prog_14_method_111_code 96 = .ok (.lload_n 3, 1) := by decide +kernel
theorem d_Md_odds_97 : decode prog_14_method_111_code 97 = .ok (.aload_n 0, 1) := by decide +kernel
theorem d_Md_odds_98 : decode prog_14_method_111_code 98 = .ok (.getfield 375, 3) := by decide +kernel
theorem d_Md_odds_101 : decode prog_14_method_111_code 101 = .ok (.i2l, 1) := by decide +kernel
theorem d_Md_odds_102 : decode prog_14_method_111_code 102 = .ok (.iload_n 2, 1) := by decide +kernel
theorem d_Md_odds_103 : decode prog_14_method_111_code 103 = .ok (.invokestatic 456, 3) := by decide +kernel
theorem d_Md_odds_106 : decode prog_14_method_111_code 106 = .ok (.ireturn, 1) := by decide +kernel
abbrev S_Md_odds : Type := Nat × Nat × Int32 × Int32 × Int64 × Int32 × Int32 × Int64 × Int64 × AM
noncomputable def T_Md_odds_0 (v0R : Nat) (v1I : Int32) (v2I : Int32) (σ : AM) : S_Md_odds ⊕ Option (Int32 × AM) :=
  gdT (okO σ v0R 12) <| letT (sI σ v0R 0 (0 : Int32)) fun σ2 => bndT (M_Md_isSet v0R v1I σ2) fun r4 σ5 => if r4 = 0 then (.inl (1, 0, 0, 0, 0, 0, 0, 0, 0, σ5)) else (bndT (M_Md_isWhat v2I σ5) fun r6 σ7 => if r6 = 0 then (.inl (1, 0, 0, 0, 0, 0, 0, 0, 0, σ7)) else (gdT (okO σ7 v0R 12) <| bndT (M_Md_findLeft v0R σ7) fun _ σ9 => .inl (2, v0R, v1I, v2I, (0 : Int64), (0 : Int32), 0, 0, 0, σ9)))
noncomputable def T_Md_odds_1  (σ : AM) : S_Md_odds ⊕ Option (Int32 × AM) :=
  .inr (some (((-1) : Int32), σ))
noncomputable def T_Md_odds_2 (v0R : Nat) (v1I : Int32) (v2I : Int32) (v3J : Int64) (v5I : Int32) (σ : AM) : S_Md_odds ⊕ Option (Int32 × AM) :=
  gdT (okO σ v0R 12) <| if v5I < (aI σ v0R 46) then (gdT (okO σ (aR σ v0R 30) 102) <| gdT (okO σ (aR σ v0R 45) 101) <| gdT (inB v5I (aN σ (aR σ v0R 45))) <| gdT (inB (aI σ (aR σ v0R 45) v5I.toNatClampNeg) (aN σ (aR σ v0R 30))) <| bndT (M_Md_doesRing (aL σ (aR σ v0R 30) (aI σ (aR σ v0R 45) v5I.toNatClampNeg).toNatClampNeg) v1I σ) fun r6 σ7 => if r6 = 0 then (.inl (3, v0R, v1I, v2I, 0, v5I, 0, v3J, (0 : Int64), σ7)) else (gdT (okO σ7 v0R 12) <| gdT (okO σ7 (aR σ7 v0R 31) 101) <| gdT (okO σ7 (aR σ7 v0R 45) 101) <| gdT (inB v5I (aN σ7 (aR σ7 v0R 45))) <| gdT (inB (aI σ7 (aR σ7 v0R 45) v5I.toNatClampNeg) (aN σ7 (aR σ7 v0R 31))) <| .inl (3, v0R, v1I, v2I, 0, v5I, 0, v3J, (aI σ7 (aR σ7 v0R 31) (aI σ7 (aR σ7 v0R 45) v5I.toNatClampNeg).toNatClampNeg).toInt64, σ7))) else (if (aI σ v0R 47) = 0 then (.inl (4, 0, 0, 0, 0, 0, ((-1) : Int32), 0, 0, σ)) else (bndT (M_Md_lowest v3J ((aI σ v0R 47).toInt64) v2I σ) fun r13 σ14 => .inl (4, 0, 0, 0, 0, 0, r13, 0, 0, σ14)))
noncomputable def T_Md_odds_3 (v0R : Nat) (v1I : Int32) (v2I : Int32) (v5I : Int32) (s0J : Int64) (s1J : Int64) (σ : AM) : S_Md_odds ⊕ Option (Int32 × AM) :=
  letT (s0J + s1J) fun x1 => .inl (2, v0R, v1I, v2I, x1, v5I + (1 : Int32), 0, 0, 0, σ)
noncomputable def T_Md_odds_4 (s0I : Int32) (σ : AM) : S_Md_odds ⊕ Option (Int32 × AM) :=
  .inr (some (s0I, σ))
noncomputable def F_Md_odds : S_Md_odds → S_Md_odds ⊕ Option (Int32 × AM) := fun s => match s.1 with
  | 0 => T_Md_odds_0 (s.2.1) (s.2.2.1) (s.2.2.2.1) (s.2.2.2.2.2.2.2.2.2)
  | 1 => T_Md_odds_1  (s.2.2.2.2.2.2.2.2.2)
  | 2 => T_Md_odds_2 (s.2.1) (s.2.2.1) (s.2.2.2.1) (s.2.2.2.2.1) (s.2.2.2.2.2.1) (s.2.2.2.2.2.2.2.2.2)
  | 3 => T_Md_odds_3 (s.2.1) (s.2.2.1) (s.2.2.2.1) (s.2.2.2.2.2.1) (s.2.2.2.2.2.2.2.1) (s.2.2.2.2.2.2.2.2.1) (s.2.2.2.2.2.2.2.2.2)
  | _ => T_Md_odds_4 (s.2.2.2.2.2.2.1) (s.2.2.2.2.2.2.2.2.2)
noncomputable def L_Md_odds_0 (v0R : Nat) (v1I : Int32) (v2I : Int32) (σ : AM) : Option (Int32 × AM) := lp F_Md_odds (0, v0R, v1I, v2I, 0, 0, 0, 0, 0, σ)
noncomputable def L_Md_odds_1  (σ : AM) : Option (Int32 × AM) := lp F_Md_odds (1, 0, 0, 0, 0, 0, 0, 0, 0, σ)
noncomputable def L_Md_odds_2 (v0R : Nat) (v1I : Int32) (v2I : Int32) (v3J : Int64) (v5I : Int32) (σ : AM) : Option (Int32 × AM) := lp F_Md_odds (2, v0R, v1I, v2I, v3J, v5I, 0, 0, 0, σ)
noncomputable def L_Md_odds_3 (v0R : Nat) (v1I : Int32) (v2I : Int32) (v5I : Int32) (s0J : Int64) (s1J : Int64) (σ : AM) : Option (Int32 × AM) := lp F_Md_odds (3, v0R, v1I, v2I, 0, v5I, 0, s0J, s1J, σ)
noncomputable def L_Md_odds_4 (s0I : Int32) (σ : AM) : Option (Int32 × AM) := lp F_Md_odds (4, 0, 0, 0, 0, 0, s0I, 0, 0, σ)
set_option maxRecDepth 20000 in
theorem E_Md_odds_0 (v0R : Nat) (v1I : Int32) (v2I : Int32) (σ : AM) : L_Md_odds_0 v0R v1I v2I σ = (gd (okO σ v0R 12) <| letT (sI σ v0R 0 (0 : Int32)) fun σ2 => bnd (M_Md_isSet v0R v1I σ2) fun r4 σ5 => if r4 = 0 then (L_Md_odds_1 σ5) else (bnd (M_Md_isWhat v2I σ5) fun r6 σ7 => if r6 = 0 then (L_Md_odds_1 σ7) else (gd (okO σ7 v0R 12) <| bnd (M_Md_findLeft v0R σ7) fun _ σ9 => L_Md_odds_2 v0R v1I v2I ((0 : Int64)) ((0 : Int32)) σ9))) := by
  unfold L_Md_odds_0
  rw [lp_eq]
  show lpK (lp F_Md_odds) (T_Md_odds_0 v0R v1I v2I σ) = _
  unfold T_Md_odds_0
  simp only [lpK_ite, lq_inl, lq_inr, lpK_bnd, lpK_gd, lq_let]
  try rfl
set_option maxRecDepth 20000 in
theorem E_Md_odds_1  (σ : AM) : L_Md_odds_1  σ = ((some (((-1) : Int32), σ))) := by
  unfold L_Md_odds_1
  rw [lp_eq]
  show lpK (lp F_Md_odds) (T_Md_odds_1  σ) = _
  unfold T_Md_odds_1
  simp only [lpK_ite, lq_inl, lq_inr, lpK_bnd, lpK_gd, lq_let]
  try rfl
set_option maxRecDepth 20000 in
theorem E_Md_odds_2 (v0R : Nat) (v1I : Int32) (v2I : Int32) (v3J : Int64) (v5I : Int32) (σ : AM) : L_Md_odds_2 v0R v1I v2I v3J v5I σ = (gd (okO σ v0R 12) <| if v5I < (aI σ v0R 46) then (gd (okO σ (aR σ v0R 30) 102) <| gd (okO σ (aR σ v0R 45) 101) <| gd (inB v5I (aN σ (aR σ v0R 45))) <| gd (inB (aI σ (aR σ v0R 45) v5I.toNatClampNeg) (aN σ (aR σ v0R 30))) <| bnd (M_Md_doesRing (aL σ (aR σ v0R 30) (aI σ (aR σ v0R 45) v5I.toNatClampNeg).toNatClampNeg) v1I σ) fun r6 σ7 => if r6 = 0 then (L_Md_odds_3 v0R v1I v2I v5I v3J ((0 : Int64)) σ7) else (gd (okO σ7 v0R 12) <| gd (okO σ7 (aR σ7 v0R 31) 101) <| gd (okO σ7 (aR σ7 v0R 45) 101) <| gd (inB v5I (aN σ7 (aR σ7 v0R 45))) <| gd (inB (aI σ7 (aR σ7 v0R 45) v5I.toNatClampNeg) (aN σ7 (aR σ7 v0R 31))) <| L_Md_odds_3 v0R v1I v2I v5I v3J ((aI σ7 (aR σ7 v0R 31) (aI σ7 (aR σ7 v0R 45) v5I.toNatClampNeg).toNatClampNeg).toInt64) σ7)) else (if (aI σ v0R 47) = 0 then (L_Md_odds_4 (((-1) : Int32)) σ) else (bnd (M_Md_lowest v3J ((aI σ v0R 47).toInt64) v2I σ) fun r13 σ14 => L_Md_odds_4 r13 σ14))) := by
  unfold L_Md_odds_2
  rw [lp_eq]
  show lpK (lp F_Md_odds) (T_Md_odds_2 v0R v1I v2I v3J v5I σ) = _
  unfold T_Md_odds_2
  simp only [lpK_ite, lq_inl, lq_inr, lpK_bnd, lpK_gd, lq_let]
  try rfl
set_option maxRecDepth 20000 in
theorem E_Md_odds_3 (v0R : Nat) (v1I : Int32) (v2I : Int32) (v5I : Int32) (s0J : Int64) (s1J : Int64) (σ : AM) : L_Md_odds_3 v0R v1I v2I v5I s0J s1J σ = (letT (s0J + s1J) fun x1 => L_Md_odds_2 v0R v1I v2I x1 (v5I + (1 : Int32)) σ) := by
  unfold L_Md_odds_3
  rw [lp_eq]
  show lpK (lp F_Md_odds) (T_Md_odds_3 v0R v1I v2I v5I s0J s1J σ) = _
  unfold T_Md_odds_3
  simp only [lpK_ite, lq_inl, lq_inr, lpK_bnd, lpK_gd, lq_let]
  try rfl
set_option maxRecDepth 20000 in
theorem E_Md_odds_4 (s0I : Int32) (σ : AM) : L_Md_odds_4 s0I σ = ((some (s0I, σ))) := by
  unfold L_Md_odds_4
  rw [lp_eq]
  show lpK (lp F_Md_odds) (T_Md_odds_4 s0I σ) = _
  unfold T_Md_odds_4
  simp only [lpK_ite, lq_inl, lq_inr, lpK_bnd, lpK_gd, lq_let]
  try rfl
noncomputable def M_Md_odds (v0R : Nat) (v1I : Int32) (v2I : Int32) (σ : AM) : Option (Int32 × AM) := mw σ (L_Md_odds_0 v0R v1I v2I σ)
def I_Md_odds (G : GX) (p : Program) (l : Launch) (e : Env) (s : State) (m : MethodId) (args : Array Value) (below : List Frame) (meth : Method) (c : Code) (z0 u0 n : Nat) : Prop :=
  (∀ (v0R : Nat) (v1I : Int32) (v2I : Int32) (σ : AM), VX (QM eI G args s below z0 u0) G p l e s m args below meth c 4 z0 u0 6 (lpn F_Md_odds n (0, v0R, v1I, v2I, 0, 0, 0, 0, 0, σ)) 0 [(0, .ref v0R), (1, .int v1I), (2, .int v2I)] [] σ) ∧
  (∀ (σ : AM), VX (QM eI G args s below z0 u0) G p l e s m args below meth c 4 z0 u0 6 (lpn F_Md_odds n (1, 0, 0, 0, 0, 0, 0, 0, 0, σ)) 20 [] [] σ) ∧
  (∀ (v0R : Nat) (v1I : Int32) (v2I : Int32) (v3J : Int64) (v5I : Int32) (σ : AM), VX (QM eI G args s below z0 u0) G p l e s m args below meth c 4 z0 u0 6 (lpn F_Md_odds n (2, v0R, v1I, v2I, v3J, v5I, 0, 0, 0, σ)) 31 [(0, .ref v0R), (1, .int v1I), (2, .int v2I), (3, .long v3J), (5, .int v5I)] [] σ) ∧
  (∀ (v0R : Nat) (v1I : Int32) (v2I : Int32) (v5I : Int32) (s0J : Int64) (s1J : Int64) (σ : AM), VX (QM eI G args s below z0 u0) G p l e s m args below meth c 4 z0 u0 6 (lpn F_Md_odds n (3, v0R, v1I, v2I, 0, v5I, 0, s0J, s1J, σ)) 77 [(0, .ref v0R), (1, .int v1I), (2, .int v2I), (5, .int v5I)] [.long s1J, .long s0J] σ) ∧
  (∀ (s0I : Int32) (σ : AM), VX (QM eI G args s below z0 u0) G p l e s m args below meth c 4 z0 u0 6 (lpn F_Md_odds n (4, 0, 0, 0, 0, 0, s0I, 0, 0, σ)) 106 [] [.int s0I] σ)
set_option maxRecDepth 20000 in
theorem s_Md_odds_0 {G : GX} {p : Program} {l : Launch} {e : Env} {s : State} {m : MethodId} {args : Array Value} {below : List Frame} {meth : Method} {c : Code} {z0 u0 n : Nat} (C : Cx G p s m args meth c prog_14_method_111_code 6 "BellPlateModel" ((some FieldType.int))) (IH : I_Md_odds G p l e s m args below meth c z0 u0 n) (v0R : Nat) (v1I : Int32) (v2I : Int32) (σ : AM) : VX (QM eI G args s below z0 u0) G p l e s m args below meth c 4 z0 u0 6 (lpK (lpn F_Md_odds n) (T_Md_odds_0 v0R v1I v2I σ)) 0 [(0, .ref v0R), (1, .int v1I), (2, .int v2I)] [] σ := by
  unfold T_Md_odds_0
  refine x_aload_n C d_Md_odds_0 0 rfl ?_
  refine x_iconst (v := (0 : Int32)) C d_Md_odds_1 (by decide) ?_
  refine x_gd (fun h1 => ?_)
  refine x_putI (k := 0) C (okO_iff.mp h1) rfl j11_ok y11_ok n11_ok (by decide) rfl rfl rfl rfl w1852 d_Md_odds_2 ?_
  refine x_letS (fun σ2 e3 => ?_)
  refine x_aload_n C d_Md_odds_5 0 rfl ?_
  refine x_iload_n C d_Md_odds_6 1 rfl ?_
  refine x_callVI (As := [.int v1I]) C (c_Md_isSet G l v0R v1I σ2) (by first | exact (okO_iff.mp h1) | (rw [e3]; exact (okO_iff.mp h1))) rfl w2194 w84 w2192 w2195 w134 k_Md_isSet rfl (by decide) (by decide) rfl (Nat.le_of_ble_eq_true rfl) d_Md_odds_7 (fun r4 σ5 => ?_)
  refine x_if_eq (tgt := 20) C d_Md_odds_10 (by decide) (fun _ => ?_) (fun _ => ?_)
  · refine x_lv [] rfl ?_
    exact IH.2.1  (σ5)
  · refine x_iload_n C d_Md_odds_13 2 rfl ?_
    refine x_callSI (As := [.int v2I]) C (c_Md_isWhat G l v2I σ5) w2328 w2327 w2329 w134 k_Md_isWhat rfl (by decide) (by decide) rfl (Nat.le_of_ble_eq_true rfl) d_Md_odds_14 (fun r6 σ7 => ?_)
    refine x_if_ne (tgt := 22) C d_Md_odds_17 (by decide) (fun _ => ?_) (fun _ => ?_)
    · refine x_lv [] rfl ?_
      exact IH.2.1  (σ7)
    · refine x_aload_n C d_Md_odds_22 0 rfl ?_
      refine x_gd (fun h10 => ?_)
      refine x_callVV (As := []) C (c_Md_findLeft G l v0R  σ7) (okO_iff.mp h10) rfl w2213 w85 w2211 w2214 w134 k_Md_findLeft rfl (by decide) (by decide) rfl (Nat.le_of_ble_eq_true rfl) d_Md_odds_23 (fun r8 σ9 => ?_)
      refine x_lconst (v := (0 : Int64)) C d_Md_odds_26 (by decide) ?_
      refine x_lstore_n (lv' := [(3, .long (0 : Int64)), (0, .ref v0R), (1, .int v1I), (2, .int v2I)]) C d_Md_odds_27 (by decide) rfl rfl ?_
      refine x_iconst (v := (0 : Int32)) C d_Md_odds_28 (by decide) ?_
      refine x_istore (lv' := [(5, .int (0 : Int32)), (3, .long (0 : Int64)), (0, .ref v0R), (1, .int v1I), (2, .int v2I)]) C d_Md_odds_29 (by decide) rfl ?_
      refine x_lv [2, 3, 4, 1, 0] rfl ?_
      exact IH.2.2.1 v0R v1I v2I ((0 : Int64)) ((0 : Int32)) (σ9)
set_option maxRecDepth 20000 in
theorem s_Md_odds_1 {G : GX} {p : Program} {l : Launch} {e : Env} {s : State} {m : MethodId} {args : Array Value} {below : List Frame} {meth : Method} {c : Code} {z0 u0 n : Nat} (C : Cx G p s m args meth c prog_14_method_111_code 6 "BellPlateModel" ((some FieldType.int))) (IH : I_Md_odds G p l e s m args below meth c z0 u0 n)  (σ : AM) : VX (QM eI G args s below z0 u0) G p l e s m args below meth c 4 z0 u0 6 (lpK (lpn F_Md_odds n) (T_Md_odds_1  σ)) 20 [] [] σ := by
  unfold T_Md_odds_1
  refine x_iconst (v := ((-1) : Int32)) C d_Md_odds_20 (by decide) ?_
  exact x_iret C d_Md_odds_21
set_option maxRecDepth 20000 in
theorem s_Md_odds_2 {G : GX} {p : Program} {l : Launch} {e : Env} {s : State} {m : MethodId} {args : Array Value} {below : List Frame} {meth : Method} {c : Code} {z0 u0 n : Nat} (C : Cx G p s m args meth c prog_14_method_111_code 6 "BellPlateModel" ((some FieldType.int))) (IH : I_Md_odds G p l e s m args below meth c z0 u0 n) (v0R : Nat) (v1I : Int32) (v2I : Int32) (v3J : Int64) (v5I : Int32) (σ : AM) : VX (QM eI G args s below z0 u0) G p l e s m args below meth c 4 z0 u0 6 (lpK (lpn F_Md_odds n) (T_Md_odds_2 v0R v1I v2I v3J v5I σ)) 31 [(0, .ref v0R), (1, .int v1I), (2, .int v2I), (3, .long v3J), (5, .int v5I)] [] σ := by
  unfold T_Md_odds_2
  refine x_iload C d_Md_odds_31 4 rfl ?_
  refine x_aload_n C d_Md_odds_33 0 rfl ?_
  refine x_gd (fun h1 => ?_)
  refine x_getI (k := 46) C (okO_iff.mp h1) rfl j11_ok (by decide) rfl w1898 d_Md_odds_34 ?_
  refine x_icmp_ge (tgt := 85) C d_Md_odds_37 (by decide) (fun _ => ?_) (fun _ => ?_)
  · refine x_lload_n C d_Md_odds_40 3 rfl ?_
    refine x_aload_n C d_Md_odds_41 0 rfl ?_
    refine x_gd (fun h2 => ?_)
    refine x_getR (k := 30) (kv := 102) C (okO_iff.mp h1) rfl j11_ok (by decide) rfl (okO_iff.mp h2) (by decide) w1882 d_Md_odds_42 ?_
    refine x_aload_n C d_Md_odds_45 0 rfl ?_
    refine x_gd (fun h3 => ?_)
    refine x_getR (k := 45) (kv := 101) C (okO_iff.mp h1) rfl j11_ok (by decide) rfl (okO_iff.mp h3) (by decide) w1897 d_Md_odds_46 ?_
    refine x_iload C d_Md_odds_49 4 rfl ?_
    refine x_gd (fun h4 => ?_)
    refine x_aldI C (okO_iff.mp h3) (inB_iff.mp h4) d_Md_odds_51 ?_
    refine x_gd (fun h5 => ?_)
    refine x_aldJ C (okO_iff.mp h2) (inB_iff.mp h5) d_Md_odds_52 ?_
    refine x_iload_n C d_Md_odds_53 1 rfl ?_
    refine x_callSI (As := [.long (aL σ (aR σ v0R 30) (aI σ (aR σ v0R 45) v5I.toNatClampNeg).toNatClampNeg), .int v1I]) C (c_Md_doesRing G l (aL σ (aR σ v0R 30) (aI σ (aR σ v0R 45) v5I.toNatClampNeg).toNatClampNeg) v1I σ) w2235 w2234 w2236 w134 k_Md_doesRing rfl (by decide) (by decide) rfl (Nat.le_of_ble_eq_true rfl) d_Md_odds_54 (fun r6 σ7 => ?_)
    refine x_if_eq (tgt := 76) C d_Md_odds_57 (by decide) (fun _ => ?_) (fun _ => ?_)
    · refine x_lconst (v := (0 : Int64)) C d_Md_odds_76 (by decide) ?_
      refine x_lv [0, 1, 2, 4] rfl ?_
      exact IH.2.2.2.1 v0R v1I v2I v5I v3J ((0 : Int64)) (σ7)
    · refine x_aload_n C d_Md_odds_60 0 rfl ?_
      refine x_gd (fun h8 => ?_)
      refine x_gd (fun h9 => ?_)
      refine x_getR (k := 31) (kv := 101) C (okO_iff.mp h8) rfl j11_ok (by decide) rfl (okO_iff.mp h9) (by decide) w1883 d_Md_odds_61 ?_
      refine x_aload_n C d_Md_odds_64 0 rfl ?_
      refine x_gd (fun h10 => ?_)
      refine x_getR (k := 45) (kv := 101) C (okO_iff.mp h8) rfl j11_ok (by decide) rfl (okO_iff.mp h10) (by decide) w1897 d_Md_odds_65 ?_
      refine x_iload C d_Md_odds_68 4 rfl ?_
      refine x_gd (fun h11 => ?_)
      refine x_aldI C (okO_iff.mp h10) (inB_iff.mp h11) d_Md_odds_70 ?_
      refine x_gd (fun h12 => ?_)
      refine x_aldI C (okO_iff.mp h9) (inB_iff.mp h12) d_Md_odds_71 ?_
      refine x_i2l C d_Md_odds_72 ?_
      refine x_goto (tgt := 77) C d_Md_odds_73 (by decide) ?_
      refine x_lv [0, 1, 2, 4] rfl ?_
      exact IH.2.2.2.1 v0R v1I v2I v5I v3J ((aI σ7 (aR σ7 v0R 31) (aI σ7 (aR σ7 v0R 45) v5I.toNatClampNeg).toNatClampNeg).toInt64) (σ7)
  · refine x_aload_n C d_Md_odds_85 0 rfl ?_
    refine x_getI (k := 47) C (okO_iff.mp h1) rfl j11_ok (by decide) rfl w1899 d_Md_odds_86 ?_
    refine x_if_ne (tgt := 96) C d_Md_odds_89 (by decide) (fun _ => ?_) (fun _ => ?_)
    · refine x_iconst (v := ((-1) : Int32)) C d_Md_odds_92 (by decide) ?_
      refine x_goto (tgt := 106) C d_Md_odds_93 (by decide) ?_
      refine x_lv [] rfl ?_
      exact IH.2.2.2.2 (((-1) : Int32)) (σ)
    · refine x_lload_n C d_Md_odds_96 3 rfl ?_
      refine x_aload_n C d_Md_odds_97 0 rfl ?_
      refine x_getI (k := 47) C (okO_iff.mp h1) rfl j11_ok (by decide) rfl w1899 d_Md_odds_98 ?_
      refine x_i2l C d_Md_odds_101 ?_
      refine x_iload_n C d_Md_odds_102 2 rfl ?_
      refine x_callSI (As := [.long v3J, .long ((aI σ v0R 47).toInt64), .int v2I]) C (c_Md_lowest G l v3J ((aI σ v0R 47).toInt64) v2I σ) w2331 w2330 w2332 w134 k_Md_lowest rfl (by decide) (by decide) rfl (Nat.le_of_ble_eq_true rfl) d_Md_odds_103 (fun r13 σ14 => ?_)
      refine x_lv [] rfl ?_
      exact IH.2.2.2.2 r13 (σ14)
set_option maxRecDepth 20000 in
theorem s_Md_odds_3 {G : GX} {p : Program} {l : Launch} {e : Env} {s : State} {m : MethodId} {args : Array Value} {below : List Frame} {meth : Method} {c : Code} {z0 u0 n : Nat} (C : Cx G p s m args meth c prog_14_method_111_code 6 "BellPlateModel" ((some FieldType.int))) (IH : I_Md_odds G p l e s m args below meth c z0 u0 n) (v0R : Nat) (v1I : Int32) (v2I : Int32) (v5I : Int32) (s0J : Int64) (s1J : Int64) (σ : AM) : VX (QM eI G args s below z0 u0) G p l e s m args below meth c 4 z0 u0 6 (lpK (lpn F_Md_odds n) (T_Md_odds_3 v0R v1I v2I v5I s0J s1J σ)) 77 [(0, .ref v0R), (1, .int v1I), (2, .int v2I), (5, .int v5I)] [.long s1J, .long s0J] σ := by
  unfold T_Md_odds_3
  refine x_ladd C d_Md_odds_77 ?_
  refine x_letJ (fun x1 _ => ?_)
  refine x_lstore_n (lv' := [(3, .long x1), (0, .ref v0R), (1, .int v1I), (2, .int v2I), (5, .int v5I)]) C d_Md_odds_78 (by decide) rfl rfl ?_
  refine x_iinc (v := v5I + (1 : Int32)) (lv' := [(5, .int (v5I + (1 : Int32))), (3, .long x1), (0, .ref v0R), (1, .int v1I), (2, .int v2I)]) C d_Md_odds_79 4 rfl rfl (by decide) rfl ?_
  refine x_goto (tgt := 31) C d_Md_odds_82 (by decide) ?_
  refine x_lv [2, 3, 4, 1, 0] rfl ?_
  exact IH.2.2.1 v0R v1I v2I x1 (v5I + (1 : Int32)) (σ)
set_option maxRecDepth 20000 in
theorem s_Md_odds_4 {G : GX} {p : Program} {l : Launch} {e : Env} {s : State} {m : MethodId} {args : Array Value} {below : List Frame} {meth : Method} {c : Code} {z0 u0 n : Nat} (C : Cx G p s m args meth c prog_14_method_111_code 6 "BellPlateModel" ((some FieldType.int))) (IH : I_Md_odds G p l e s m args below meth c z0 u0 n) (s0I : Int32) (σ : AM) : VX (QM eI G args s below z0 u0) G p l e s m args below meth c 4 z0 u0 6 (lpK (lpn F_Md_odds n) (T_Md_odds_4 s0I σ)) 106 [] [.int s0I] σ := by
  unfold T_Md_odds_4
  exact x_iret C d_Md_odds_106
theorem i_Md_odds {G : GX} {p : Program} {l : Launch} {e : Env} {s : State} {m : MethodId} {args : Array Value} {below : List Frame} {meth : Method} {c : Code} {z0 u0 : Nat} (C : Cx G p s m args meth c prog_14_method_111_code 6 "BellPlateModel" ((some FieldType.int))) (n : Nat) : I_Md_odds G p l e s m args below meth c z0 u0 n := by
  induction n with
  | zero => exact ⟨fun _ _ _ _ => x_none, fun _ => x_none, fun _ _ _ _ _ _ => x_none, fun _ _ _ _ _ _ _ => x_none, fun _ _ => x_none⟩
  | succ n IH => exact ⟨fun v0R v1I v2I σ => s_Md_odds_0 C IH v0R v1I v2I σ, fun σ => s_Md_odds_1 C IH σ, fun v0R v1I v2I v3J v5I σ => s_Md_odds_2 C IH v0R v1I v2I v3J v5I σ, fun v0R v1I v2I v5I s0J s1J σ => s_Md_odds_3 C IH v0R v1I v2I v5I s0J s1J σ, fun s0I σ => s_Md_odds_4 C IH s0I σ⟩
theorem c_Md_odds (G : GX) (l : Launch) (v0R : Nat) (v1I : Int32) (v2I : Int32) (σ : AM) : CT eI G l 4 y_Md_odds prog_14_method_111_code 6 ((some FieldType.int)) [.ref v0R, .int v1I, .int v2I] σ (M_Md_odds v0R v1I v2I σ) := by
  refine ct_of (by decide +kernel) (Nat.le_of_ble_eq_true rfl) (fun p e s m args below meth c C hin => ?_)
  refine x_lve (lv' := [(0, .ref v0R), (1, .int v1I), (2, .int v2I)]) rfl ?_
  intro r σ' h
  obtain ⟨n, hn⟩ := (lp_iff _ _ _).mp h
  exact (i_Md_odds C n).1 v0R v1I v2I σ r σ' hn
/-! BellPlateModel.guess(II)I -/
abbrev y_Md_guess : MethodName := ⟨"BellPlateModel", "guess", "(II)I"⟩
theorem k_Md_guess : y_Md_guess.cls ≠ "java/lang/invoke/MethodHandle" ∧ y_Md_guess.cls ≠ "java/lang/invoke/VarHandle" ∧ (parseMethodDescriptor y_Md_guess.desc).map (fun d => d.parameters.length) = some 2 := by decide +kernel
theorem d_Md_guess_0 : decode prog_14_method_112_code 0 = .ok (.aload_n 0, 1) := by decide +kernel
theorem d_Md_guess_1 : decode prog_14_method_112_code 1 = .ok (.iconst 0, 1) := by decide +kernel
theorem d_Md_guess_2 : decode prog_14_method_112_code 2 = .ok (.putfield 1, 3) := by decide +kernel
theorem d_Md_guess_5 : decode prog_14_method_112_code 5 = .ok (.aload_n 0, 1) := by decide +kernel
theorem d_Md_guess_6 : decode prog_14_method_112_code 6 = .ok (.iload_n 1, 1) := by decide +kernel
theorem d_Md_guess_7 : decode prog_14_method_112_code 7 = .ok (.invokevirtual 393, 3) := by decide +kernel
theorem d_Md_guess_10 : decode prog_14_method_112_code 10 = .ok (.ifCond .eq 12, 3) := by decide +kernel
theorem d_Md_guess_13 : decode prog_14_method_112_code 13 = .ok (.iload_n 2, 1) := by decide +kernel
theorem d_Md_guess_14 : decode prog_14_method_112_code 14 = .ok (.iconst 0, 1) := by decide +kernel
theorem d_Md_guess_15 : decode prog_14_method_112_code 15 = .ok (.iconst 2, 1) := by decide +kernel
theorem d_Md_guess_16 : decode prog_14_method_112_code 16 = .ok (.invokestatic 350, 3) := by decide +kernel
theorem d_Md_guess_19 : decode prog_14_method_112_code 19 = .ok (.ifCond .ne 5, 3) := by decide +kernel
theorem d_Md_guess_22 : decode prog_14_method_112_code 22 = .ok (.iconst (-1), 1) := by decide +kernel
theorem d_Md_guess_23 : decode prog_14_method_112_code 23 = .ok (.ireturn, 1) := by decide +kernel
theorem d_Md_guess_24 : decode prog_14_method_112_code 24 = .ok (.aload_n 0, 1) := by decide +kernel
theorem d_Md_guess_25 : decode prog_14_method_112_code 25 = .ok (.invokevirtual 381, 3) := by decide +kernel
theorem d_Md_guess_28 : decode prog_14_method_112_code 28 = .ok (.iconst 0, 1) := by decide +kernel
theorem d_Md_guess_29 : decode prog_14_method_112_code 29 = .ok (.istore_n 3, 1) := by decide +kernel
theorem d_Md_guess_30 : decode prog_14_method_112_code 30 = .ok (.iload_n 3, 1) := by decide +kernel
theorem d_Md_guess_31 : decode prog_14_method_112_code 31 = .ok (.bipush 10, 2) := by decide +kernel
theorem d_Md_guess_33 : decode prog_14_method_112_code 33 = .ok (.if_icmp .ge 16, 3) := by decide +kernel
theorem d_Md_guess_36 : decode prog_14_method_112_code 36 = .ok (.aload_n 0, 1) := by decide +kernel
theorem d_Md_guess_37 : decode prog_14_method_112_code 37 = .ok (.getfield 146, 3) := by decide +kernel
theorem d_Md_guess_40 : decode prog_14_method_112_code 40 = .ok (.iload_n 3, 1) := by decide +kernel
theorem d_Md_guess_41 : decode prog_14_method_112_code 41 = .ok (.iconst 0, 1) := by decide +kernel
theorem d_Md_guess_42 : decode prog_14_method_112_code 42 = .ok (.iastore, 1) := by decide +kernel
theorem d_Md_guess_43 : decode prog_14_method_112_code 43 = .ok (.iinc 3 1, 3) := by decide +kernel
theorem d_Md_guess_46 : decode prog_14_method_112_code 46 = .ok (.goto (-16), 3) := by decide +kernel
theorem d_Md_guess_49 : decode prog_14_method_112_code 49 = .ok (.iconst 0, 1) := by decide +kernel
theorem d_Md_guess_50 : decode prog_14_method_112_code 50 = .ok (.istore_n 3, 1) := by decide +kernel
theorem d_Md_guess_51 : decode prog_14_method_112_code 51 = .ok (.iload_n 3, 1) := by decide +kernel
theorem d_Md_guess_52 : decode prog_14_method_112_code 52 = .ok (.aload_n 0, 1) := by decide +kernel
theorem d_Md_guess_53 : decode prog_14_method_112_code 53 = .ok (.getfield 313, 3) := by decide +kernel
theorem d_Md_guess_56 : decode prog_14_method_112_code 56 = .ok (.if_icmp .ge 37, 3) := by decide +kernel
theorem d_Md_guess_59 : decode prog_14_method_112_code 59 = .ok (.aload_n 0, 1) := by decide +kernel
theorem d_Md_guess_60 : decode prog_14_method_112_code 60 = .ok (.iload_n 3, 1) := by decide +kernel
theorem d_Md_guess_61 : decode prog_14_method_112_code 61 = .ok (.invokevirtual 384, 3) := by decide +kernel
theorem d_Md_guess_64 : decode prog_14_method_112_code 64 = .ok (.ifCond .eq 23, 3) := by decide +kernel
theorem d_Md_guess_67 : decode prog_14_method_112_code 67 = .ok (.aload_n 0, 1) := by decide +kernel
theorem d_Md_guess_68 : decode prog_14_method_112_code 68 = .ok (.iload_n 3, 1) := by decide +kernel
theorem d_Md_guess_69 : decode prog_14_method_112_code 69 = .ok (.invokevirtual 319, 3) := by decide +kernel
theorem d_Md_guess_72 : decode prog_14_method_112_code 72 = .ok (.aload_n 0, 1) := by decide +kernel
theorem d_Md_guess_73 : decode prog_14_method_112_code 73 = .ok (.getfield 146, 3) := by decide +kernel
theorem d_Md_guess_76 : decode prog_14_method_112_code 76 = .ok (.aload_n 0, 1) := by decide +kernel
theorem d_Md_guess_77 : decode prog_14_method_112_code 77 = .ok (.getfield 95, 3) := by decide +kernel
theorem d_Md_guess_80 : decode prog_14_method_112_code 80 = .ok (.iload_n 1, 1) := by decide +kernel
theorem d_Md_guess_81 : decode prog_14_method_112_code 81 = .ok (.iaload, 1) := by decide +kernel
theorem d_Md_guess_82 : decode prog_14_method_112_code 82 = .ok (.dup2, 1) := by decide +kernel
theorem d_Md_guess_83 : decode prog_14_method_112_code 83 = .ok (.iaload, 1) := by decide +kernel
theorem d_Md_guess_84 : decode prog_14_method_112_code 84 = .ok (.iconst 1, 1) := by decide +kernel
theorem d_Md_guess_85 : decode prog_14_method_112_code 85 = .ok (.iadd, 1) := by decide +kernel
theorem d_Md_guess_86 : decode prog_14_method_112_code 86 = .ok (.iastore, 1) := by decide +kernel
theorem d_Md_guess_87 : decode prog_14_method_112_code 87 = .ok (.iinc 3 1, 3) := by decide +kernel
theorem d_Md_guess_90 : decode prog_14_method_112_code 90 = .ok (.goto (-39), 3) := by decide +kernel
theorem d_Md_guess_93 : decode prog_14_method_112_code 93 = .ok (.iconst (-1), 1) := by decide +kernel
theorem d_Md_guess_94 : decode prog_14_method_112_code 94 = .ok (.istore_n 3, 1) := by decide +kernel
theorem d_Md_guess_95 : decode prog_14_method_112_code 95 = .ok (.iconst (-1), 1) := by decide +kernel
theorem d_Md_guess_96 : decode prog_14_method_112_code 96 = .ok (.istore 4, 2) := by decide +kernel
theorem d_Md_guess_98 : decode prog_14_method_112_code 98 = .ok (.iconst (-1), 1) := by decide +kernel
theorem d_Md_guess_99 : decode prog_14_method_112_code 99 = .ok (.istore 5, 2) := by decide +kernel
theorem d_Md_guess_101 : decode prog_14_method_112_code 101 = .ok (.iconst 0, 1) := by decide +kernel
theorem d_Md_guess_102 : decode prog_14_method_112_code 102 = .ok (.istore 6, 2) := by decide +kernel
theorem d_Md_guess_104 : decode prog_14_method_112_code 104 = .ok (.iload 6, 2) := by decide +kernel
theorem d_Md_guess_106 : decode prog_14_method_112_code 106 = .ok (.bipush 10, 2) := by decide +kernel
theorem d_Md_guess_108 : decode prog_14_method_112_code 108 = .ok (.if_icmp .ge 64, 3) := by decide +kernel
theorem d_Md_guess_111 : decode prog_14_method_112_code 111 = .ok (.aload_n 0, 1) := by decide +kernel
theorem d_Md_guess_112 : decode prog_14_method_112_code 112 = .ok (.getfield 146, 3) := by decide +kernel
theorem d_Md_guess_115 : decode prog_14_method_112_code 115 = .ok (.iload 6, 2) := by decide +kernel
theorem d_Md_guess_117 : decode prog_14_method_112_code 117 = .ok (.iaload, 1) := by decide +kernel
theorem d_Md_guess_118 : decode prog_14_method_112_code 118 = .ok (.ifCond .le 48, 3) := by decide +kernel
theorem d_Md_guess_121 : decode prog_14_method_112_code 121 = .ok (.iload_n 3, 1) := by decide +kernel
theorem d_Md_guess_122 : decode prog_14_method_112_code 122 = .ok (.ifCond .lt 19, 3) := by decide +kernel
theorem d_Md_guess_125 : decode prog_14_method_112_code 125 = .ok (.aload_n 0, 1) := by decide +kernel
theorem d_Md_guess_126 : decode prog_14_method_112_code 126 = .ok (.getfield 146, 3) := by decide +kernel
theorem d_Md_guess_129 : decode prog_14_method_112_code 129 = .ok (.iload 6, 2) := by decide +kernel
theorem d_Md_guess_131 : decode prog_14_method_112_code 131 = .ok (.iaload, 1) := by decide +kernel
theorem d_Md_guess_132 : decode prog_14_method_112_code 132 = .ok (.aload_n 0, 1) := by decide +kernel
theorem d_Md_guess_133 : decode prog_14_method_112_code 133 = .ok (.getfield 146, 3) := by decide +kernel
theorem d_Md_guess_136 : decode prog_14_method_112_code 136 = .ok (.iload_n 3, 1) := by decide +kernel
theorem d_Md_guess_137 : decode prog_14_method_112_code 137 = .ok (.iaload, 1) := by decide +kernel
theorem d_Md_guess_138 : decode prog_14_method_112_code 138 = .ok (.if_icmp .le 8, 3) := by decide +kernel
theorem d_Md_guess_141 : decode prog_14_method_112_code 141 = .ok (.iload 6, 2) := by decide +kernel
theorem d_Md_guess_143 : decode prog_14_method_112_code 143 = .ok (.goto 4, 3) := by decide +kernel
theorem d_Md_guess_146 : decode prog_14_method_112_code 146 = .ok (.iload_n 3, 1) := by decide +kernel
theorem d_Md_guess_147 : decode prog_14_method_112_code 147 = .ok (.istore_n 3, 1) := by decide +kernel
theorem d_Md_guess_148 : decode prog_14_method_112_code 148 = .ok (.iload 4, 2) := by decide +kernel
theorem d_Md_guess_150 : decode prog_14_method_112_code 150 = .ok (.ifCond .ge 8, 3) := by decide +kernel
theorem d_Md_guess_153 : decode prog_14_method_112_code 153 = .ok (.iload 6, 2) := by decide +kernel
theorem d_Md_guess_155 : decode prog_14_method_112_code 155 = .ok (.goto 5, 3) := by decide +kernel
theorem d_Md_guess_158 : decode prog_14_method_112_code 158 = .ok (.iload 4, 2) := by decide +kernel
theorem d_Md_guess_160 : decode prog_14_method_112_code 160 = .ok (.istore 4, 2) := by decide +kernel
theorem d_Md_guess_162 : decode prog_14_method_112_code 162 = .ok (.iload 6, 2) := by decide +kernel
theorem d_Md_guess_164 : decode prog_14_method_112_code 164 = .ok (.istore 5, 2) := by decide +kernel
theorem d_Md_guess_166 : decode prog_14_method_112_code 166 = .ok (.iinc 6 1, 3) := by decide +kernel
theorem d_Md_guess_169 : decode prog_14_method_112_code 169 = .ok (.goto (-65), 3) := by decide +kernel
theorem d_Md_guess_172 : decode prog_14_method_112_code 172 = .ok (.iload_n 2, 1) := by decide +kernel
theorem d_Md_guess_173 : decode prog_14_method_112_code 173 = .ok (.ifCond .ne 7, 3) := by decide +kernel
theorem d_Md_guess_176 : decode prog_14_method_112_code 176 = .ok (.iload_n 3, 1) := by decide +kernel
theorem d_Md_guess_177 : decode prog_14_method_112_code 177 = .ok (.goto 15, 3) := by decide +kernel
theorem d_Md_guess_180 : decode prog_14_method_112_code 180 = .ok (.iload_n 2, 1) := by decide +kernel
theorem d_Md_guess_181 : decode prog_14_method_112_code 181 = .ok (.iconst 1, 1) := by decide +kernel
theorem d_Md_guess_182 : decode prog_14_method_112_code 182 = .ok (.if_icmp .ne 8, 3) := by decide +kernel
theorem d_Md_guess_185 : decode prog_14_method_112_code 185 = .ok (.iload 4, 2) := by decide +kernel
theorem d_Md_guess_187 : decode prog_14_method_112_code 187 = .ok (.goto 5, 3) := by decide +kernel
theorem d_Md_guess_190 : decode prog_14_method_112_code 190 = .ok (.iload 5, 2) := by decide +kernel
theorem d_Md_guess_192 : decode prog_14_method_112_code 192 = .ok (.ireturn, 1) := by decide +kernel
abbrev S_Md_guess : Type := Nat × Nat × Int32 × Int32 × Int32 × Int32 × Int32 × Int32 × Int32 × AM
noncomputable def T_Md_guess_0 (v0R : Nat) (v1I : Int32) (v2I : Int32) (σ : AM) : S_Md_guess ⊕ Option (Int32 × AM) :=
  gdT (okO σ v0R 12) <| letT (sI σ v0R 0 (0 : Int32)) fun σ2 => bndT (M_Md_isThing v0R v1I σ2) fun r4 σ5 => if r4 = 0 then (.inl (1, 0, 0, 0, 0, 0, 0, 0, 0, σ5)) else (bndT (M_Md_within v2I (0 : Int32) (2 : Int32) σ5) fun r6 σ7 => if r6 = 0 then (.inl (1, 0, 0, 0, 0, 0, 0, 0, 0, σ7)) else (gdT (okO σ7 v0R 12) <| bndT (M_Md_findLeft v0R σ7) fun _ σ9 => .inl (2, v0R, v1I, v2I, (0 : Int32), 0, 0, 0, 0, σ9)))
noncomputable def T_Md_guess_1  (σ : AM) : S_Md_guess ⊕ Option (Int32 × AM) :=
  .inr (some (((-1) : Int32), σ))
noncomputable def T_Md_guess_2 (v0R : Nat) (v1I : Int32) (v2I : Int32) (v3I : Int32) (σ : AM) : S_Md_guess ⊕ Option (Int32 × AM) :=
  if v3I < (10 : Int32) then (gdT (okO σ v0R 12) <| gdT (okO σ (aR σ v0R 69) 101) <| gdT (inB v3I (aN σ (aR σ v0R 69))) <| letT (sI σ (aR σ v0R 69) v3I.toNatClampNeg (0 : Int32)) fun σ4 => .inl (2, v0R, v1I, v2I, v3I + (1 : Int32), 0, 0, 0, 0, σ4)) else (.inl (3, v0R, v1I, v2I, (0 : Int32), 0, 0, 0, 0, σ))
noncomputable def T_Md_guess_3 (v0R : Nat) (v1I : Int32) (v2I : Int32) (v3I : Int32) (σ : AM) : S_Md_guess ⊕ Option (Int32 × AM) :=
  gdT (okO σ v0R 12) <| if v3I < (aI σ v0R 26) then (bndT (M_Md_isLeft v0R v3I σ) fun r2 σ3 => if r2 = 0 then (.inl (4, v0R, v1I, v2I, v3I, 0, 0, 0, 0, σ3)) else (gdT (okO σ3 v0R 12) <| bndT (M_Md_unpacks v0R v3I σ3) fun _ σ5 => gdT (okO σ5 v0R 12) <| gdT (okO σ5 (aR σ5 v0R 69) 101) <| gdT (okO σ5 (aR σ5 v0R 34) 101) <| gdT (inB v1I (aN σ5 (aR σ5 v0R 34))) <| gdT (inB (aI σ5 (aR σ5 v0R 34) v1I.toNatClampNeg) (aN σ5 (aR σ5 v0R 69))) <| letT (sI σ5 (aR σ5 v0R 69) (aI σ5 (aR σ5 v0R 34) v1I.toNatClampNeg).toNatClampNeg ((aI σ5 (aR σ5 v0R 69) (aI σ5 (aR σ5 v0R 34) v1I.toNatClampNeg).toNatClampNeg) + (1 : Int32))) fun σ12 => .inl (4, v0R, v1I, v2I, v3I, 0, 0, 0, 0, σ12))) else (.inl (5, v0R, 0, v2I, ((-1) : Int32), ((-1) : Int32), ((-1) : Int32), (0 : Int32), 0, σ))
noncomputable def T_Md_guess_4 (v0R : Nat) (v1I : Int32) (v2I : Int32) (v3I : Int32) (σ : AM) : S_Md_guess ⊕ Option (Int32 × AM) :=
  .inl (3, v0R, v1I, v2I, v3I + (1 : Int32), 0, 0, 0, 0, σ)
noncomputable def T_Md_guess_5 (v0R : Nat) (v2I : Int32) (v3I : Int32) (v4I : Int32) (v5I : Int32) (v6I : Int32) (σ : AM) : S_Md_guess ⊕ Option (Int32 × AM) :=
  if v6I < (10 : Int32) then (gdT (okO σ v0R 12) <| gdT (okO σ (aR σ v0R 69) 101) <| gdT (inB v6I (aN σ (aR σ v0R 69))) <| if 0 < (aI σ (aR σ v0R 69) v6I.toNatClampNeg) then (if v3I < 0 then (.inl (6, v0R, 0, v2I, 0, v4I, 0, v6I, 0, σ)) else (gdT (inB v3I (aN σ (aR σ v0R 69))) <| if (aI σ (aR σ v0R 69) v3I.toNatClampNeg) < (aI σ (aR σ v0R 69) v6I.toNatClampNeg) then (.inl (6, v0R, 0, v2I, 0, v4I, 0, v6I, 0, σ)) else (.inl (7, v0R, 0, v2I, 0, v4I, 0, v6I, v3I, σ)))) else (.inl (9, v0R, 0, v2I, v3I, v4I, v5I, v6I, 0, σ))) else (if v2I = 0 then (.inl (10, 0, 0, 0, 0, 0, 0, 0, v3I, σ)) else (if v2I = (1 : Int32) then (.inl (10, 0, 0, 0, 0, 0, 0, 0, v4I, σ)) else (.inl (10, 0, 0, 0, 0, 0, 0, 0, v5I, σ))))
noncomputable def T_Md_guess_6 (v0R : Nat) (v2I : Int32) (v4I : Int32) (v6I : Int32) (σ : AM) : S_Md_guess ⊕ Option (Int32 × AM) :=
  .inl (7, v0R, 0, v2I, 0, v4I, 0, v6I, v6I, σ)
noncomputable def T_Md_guess_7 (v0R : Nat) (v2I : Int32) (v4I : Int32) (v6I : Int32) (s0I : Int32) (σ : AM) : S_Md_guess ⊕ Option (Int32 × AM) :=
  if v4I < 0 then (.inl (8, v0R, 0, v2I, s0I, 0, 0, v6I, v6I, σ)) else (.inl (8, v0R, 0, v2I, s0I, 0, 0, v6I, v4I, σ))
noncomputable def T_Md_guess_8 (v0R : Nat) (v2I : Int32) (v3I : Int32) (v6I : Int32) (s0I : Int32) (σ : AM) : S_Md_guess ⊕ Option (Int32 × AM) :=
  .inl (9, v0R, 0, v2I, v3I, s0I, v6I, v6I, 0, σ)
noncomputable def T_Md_guess_9 (v0R : Nat) (v2I : Int32) (v3I : Int32) (v4I : Int32) (v5I : Int32) (v6I : Int32) (σ : AM) : S_Md_guess ⊕ Option (Int32 × AM) :=
  .inl (5, v0R, 0, v2I, v3I, v4I, v5I, v6I + (1 : Int32), 0, σ)
noncomputable def T_Md_guess_10 (s0I : Int32) (σ : AM) : S_Md_guess ⊕ Option (Int32 × AM) :=
  .inr (some (s0I, σ))
noncomputable def F_Md_guess : S_Md_guess → S_Md_guess ⊕ Option (Int32 × AM) := fun s => match s.1 with
  | 0 => T_Md_guess_0 (s.2.1) (s.2.2.1) (s.2.2.2.1) (s.2.2.2.2.2.2.2.2.2)
  | 1 => T_Md_guess_1  (s.2.2.2.2.2.2.2.2.2)
  | 2 => T_Md_guess_2 (s.2.1) (s.2.2.1) (s.2.2.2.1) (s.2.2.2.2.1) (s.2.2.2.2.2.2.2.2.2)
  | 3 => T_Md_guess_3 (s.2.1) (s.2.2.1) (s.2.2.2.1) (s.2.2.2.2.1) (s.2.2.2.2.2.2.2.2.2)
  | 4 => T_Md_guess_4 (s.2.1) (s.2.2.1) (s.2.2.2.1) (s.2.2.2.2.1) (s.2.2.2.2.2.2.2.2.2)
  | 5 => T_Md_guess_5 (s.2.1) (s.2.2.2.1) (s.2.2.2.2.1) (s.2.2.2.2.2.1) (s.2.2.2.2.2.2.1) (s.2.2.2.2.2.2.2.1) (s.2.2.2.2.2.2.2.2.2)
  | 6 => T_Md_guess_6 (s.2.1) (s.2.2.2.1) (s.2.2.2.2.2.1) (s.2.2.2.2.2.2.2.1) (s.2.2.2.2.2.2.2.2.2)
  | 7 => T_Md_guess_7 (s.2.1) (s.2.2.2.1) (s.2.2.2.2.2.1) (s.2.2.2.2.2.2.2.1) (s.2.2.2.2.2.2.2.2.1) (s.2.2.2.2.2.2.2.2.2)
  | 8 => T_Md_guess_8 (s.2.1) (s.2.2.2.1) (s.2.2.2.2.1) (s.2.2.2.2.2.2.2.1) (s.2.2.2.2.2.2.2.2.1) (s.2.2.2.2.2.2.2.2.2)
  | 9 => T_Md_guess_9 (s.2.1) (s.2.2.2.1) (s.2.2.2.2.1) (s.2.2.2.2.2.1) (s.2.2.2.2.2.2.1) (s.2.2.2.2.2.2.2.1) (s.2.2.2.2.2.2.2.2.2)
  | _ => T_Md_guess_10 (s.2.2.2.2.2.2.2.2.1) (s.2.2.2.2.2.2.2.2.2)
noncomputable def L_Md_guess_0 (v0R : Nat) (v1I : Int32) (v2I : Int32) (σ : AM) : Option (Int32 × AM) := lp F_Md_guess (0, v0R, v1I, v2I, 0, 0, 0, 0, 0, σ)
noncomputable def L_Md_guess_1  (σ : AM) : Option (Int32 × AM) := lp F_Md_guess (1, 0, 0, 0, 0, 0, 0, 0, 0, σ)
noncomputable def L_Md_guess_2 (v0R : Nat) (v1I : Int32) (v2I : Int32) (v3I : Int32) (σ : AM) : Option (Int32 × AM) := lp F_Md_guess (2, v0R, v1I, v2I, v3I, 0, 0, 0, 0, σ)
noncomputable def L_Md_guess_3 (v0R : Nat) (v1I : Int32) (v2I : Int32) (v3I : Int32) (σ : AM) : Option (Int32 × AM) := lp F_Md_guess (3, v0R, v1I, v2I, v3I, 0, 0, 0, 0, σ)
noncomputable def L_Md_guess_4 (v0R : Nat) (v1I : Int32) (v2I : Int32) (v3I : Int32) (σ : AM) : Option (Int32 × AM) := lp F_Md_guess (4, v0R, v1I, v2I, v3I, 0, 0, 0, 0, σ)
noncomputable def L_Md_guess_5 (v0R : Nat) (v2I : Int32) (v3I : Int32) (v4I : Int32) (v5I : Int32) (v6I : Int32) (σ : AM) : Option (Int32 × AM) := lp F_Md_guess (5, v0R, 0, v2I, v3I, v4I, v5I, v6I, 0, σ)
noncomputable def L_Md_guess_6 (v0R : Nat) (v2I : Int32) (v4I : Int32) (v6I : Int32) (σ : AM) : Option (Int32 × AM) := lp F_Md_guess (6, v0R, 0, v2I, 0, v4I, 0, v6I, 0, σ)
noncomputable def L_Md_guess_7 (v0R : Nat) (v2I : Int32) (v4I : Int32) (v6I : Int32) (s0I : Int32) (σ : AM) : Option (Int32 × AM) := lp F_Md_guess (7, v0R, 0, v2I, 0, v4I, 0, v6I, s0I, σ)
noncomputable def L_Md_guess_8 (v0R : Nat) (v2I : Int32) (v3I : Int32) (v6I : Int32) (s0I : Int32) (σ : AM) : Option (Int32 × AM) := lp F_Md_guess (8, v0R, 0, v2I, v3I, 0, 0, v6I, s0I, σ)
noncomputable def L_Md_guess_9 (v0R : Nat) (v2I : Int32) (v3I : Int32) (v4I : Int32) (v5I : Int32) (v6I : Int32) (σ : AM) : Option (Int32 × AM) := lp F_Md_guess (9, v0R, 0, v2I, v3I, v4I, v5I, v6I, 0, σ)
noncomputable def L_Md_guess_10 (s0I : Int32) (σ : AM) : Option (Int32 × AM) := lp F_Md_guess (10, 0, 0, 0, 0, 0, 0, 0, s0I, σ)
set_option maxRecDepth 20000 in
theorem E_Md_guess_0 (v0R : Nat) (v1I : Int32) (v2I : Int32) (σ : AM) : L_Md_guess_0 v0R v1I v2I σ = (gd (okO σ v0R 12) <| letT (sI σ v0R 0 (0 : Int32)) fun σ2 => bnd (M_Md_isThing v0R v1I σ2) fun r4 σ5 => if r4 = 0 then (L_Md_guess_1 σ5) else (bnd (M_Md_within v2I (0 : Int32) (2 : Int32) σ5) fun r6 σ7 => if r6 = 0 then (L_Md_guess_1 σ7) else (gd (okO σ7 v0R 12) <| bnd (M_Md_findLeft v0R σ7) fun _ σ9 => L_Md_guess_2 v0R v1I v2I ((0 : Int32)) σ9))) := by
  unfold L_Md_guess_0
  rw [lp_eq]
  show lpK (lp F_Md_guess) (T_Md_guess_0 v0R v1I v2I σ) = _
  unfold T_Md_guess_0
  simp only [lpK_ite, lq_inl, lq_inr, lpK_bnd, lpK_gd, lq_let]
  try rfl
set_option maxRecDepth 20000 in
theorem E_Md_guess_1  (σ : AM) : L_Md_guess_1  σ = ((some (((-1) : Int32), σ))) := by
  unfold L_Md_guess_1
  rw [lp_eq]
  show lpK (lp F_Md_guess) (T_Md_guess_1  σ) = _
  unfold T_Md_guess_1
  simp only [lpK_ite, lq_inl, lq_inr, lpK_bnd, lpK_gd, lq_let]
  try rfl
set_option maxRecDepth 20000 in
theorem E_Md_guess_2 (v0R : Nat) (v1I : Int32) (v2I : Int32) (v3I : Int32) (σ : AM) : L_Md_guess_2 v0R v1I v2I v3I σ = (if v3I < (10 : Int32) then (gd (okO σ v0R 12) <| gd (okO σ (aR σ v0R 69) 101) <| gd (inB v3I (aN σ (aR σ v0R 69))) <| letT (sI σ (aR σ v0R 69) v3I.toNatClampNeg (0 : Int32)) fun σ4 => L_Md_guess_2 v0R v1I v2I (v3I + (1 : Int32)) σ4) else (L_Md_guess_3 v0R v1I v2I ((0 : Int32)) σ)) := by
  unfold L_Md_guess_2
  rw [lp_eq]
  show lpK (lp F_Md_guess) (T_Md_guess_2 v0R v1I v2I v3I σ) = _
  unfold T_Md_guess_2
  simp only [lpK_ite, lq_inl, lq_inr, lpK_bnd, lpK_gd, lq_let]
  try rfl
set_option maxRecDepth 20000 in
theorem E_Md_guess_3 (v0R : Nat) (v1I : Int32) (v2I : Int32) (v3I : Int32) (σ : AM) : L_Md_guess_3 v0R v1I v2I v3I σ = (gd (okO σ v0R 12) <| if v3I < (aI σ v0R 26) then (bnd (M_Md_isLeft v0R v3I σ) fun r2 σ3 => if r2 = 0 then (L_Md_guess_4 v0R v1I v2I v3I σ3) else (gd (okO σ3 v0R 12) <| bnd (M_Md_unpacks v0R v3I σ3) fun _ σ5 => gd (okO σ5 v0R 12) <| gd (okO σ5 (aR σ5 v0R 69) 101) <| gd (okO σ5 (aR σ5 v0R 34) 101) <| gd (inB v1I (aN σ5 (aR σ5 v0R 34))) <| gd (inB (aI σ5 (aR σ5 v0R 34) v1I.toNatClampNeg) (aN σ5 (aR σ5 v0R 69))) <| letT (sI σ5 (aR σ5 v0R 69) (aI σ5 (aR σ5 v0R 34) v1I.toNatClampNeg).toNatClampNeg ((aI σ5 (aR σ5 v0R 69) (aI σ5 (aR σ5 v0R 34) v1I.toNatClampNeg).toNatClampNeg) + (1 : Int32))) fun σ12 => L_Md_guess_4 v0R v1I v2I v3I σ12)) else (L_Md_guess_5 v0R v2I (((-1) : Int32)) (((-1) : Int32)) (((-1) : Int32)) ((0 : Int32)) σ)) := by
  unfold L_Md_guess_3
  rw [lp_eq]
  show lpK (lp F_Md_guess) (T_Md_guess_3 v0R v1I v2I v3I σ) = _
  unfold T_Md_guess_3
  simp only [lpK_ite, lq_inl, lq_inr, lpK_bnd, lpK_gd, lq_let]
  try rfl
set_option maxRecDepth 20000 in
theorem E_Md_guess_4 (v0R : Nat) (v1I : Int32) (v2I : Int32) (v3I : Int32) (σ : AM) : L_Md_guess_4 v0R v1I v2I v3I σ = (L_Md_guess_3 v0R v1I v2I (v3I + (1 : Int32)) σ) := by
  unfold L_Md_guess_4
  rw [lp_eq]
  show lpK (lp F_Md_guess) (T_Md_guess_4 v0R v1I v2I v3I σ) = _
  unfold T_Md_guess_4
  simp only [lpK_ite, lq_inl, lq_inr, lpK_bnd, lpK_gd, lq_let]
  try rfl
set_option maxRecDepth 20000 in
theorem E_Md_guess_5 (v0R : Nat) (v2I : Int32) (v3I : Int32) (v4I : Int32) (v5I : Int32) (v6I : Int32) (σ : AM) : L_Md_guess_5 v0R v2I v3I v4I v5I v6I σ = (if v6I < (10 : Int32) then (gd (okO σ v0R 12) <| gd (okO σ (aR σ v0R 69) 101) <| gd (inB v6I (aN σ (aR σ v0R 69))) <| if 0 < (aI σ (aR σ v0R 69) v6I.toNatClampNeg) then (if v3I < 0 then (L_Md_guess_6 v0R v2I v4I v6I σ) else (gd (inB v3I (aN σ (aR σ v0R 69))) <| if (aI σ (aR σ v0R 69) v3I.toNatClampNeg) < (aI σ (aR σ v0R 69) v6I.toNatClampNeg) then (L_Md_guess_6 v0R v2I v4I v6I σ) else (L_Md_guess_7 v0R v2I v4I v6I v3I σ))) else (L_Md_guess_9 v0R v2I v3I v4I v5I v6I σ)) else (if v2I = 0 then (L_Md_guess_10 v3I σ) else (if v2I = (1 : Int32) then (L_Md_guess_10 v4I σ) else (L_Md_guess_10 v5I σ)))) := by
  unfold L_Md_guess_5
  rw [lp_eq]
  show lpK (lp F_Md_guess) (T_Md_guess_5 v0R v2I v3I v4I v5I v6I σ) = _
  unfold T_Md_guess_5
  simp only [lpK_ite, lq_inl, lq_inr, lpK_bnd, lpK_gd, lq_let]
  try rfl
set_option maxRecDepth 20000 in
theorem E_Md_guess_6 (v0R : Nat) (v2I : Int32) (v4I : Int32) (v6I : Int32) (σ : AM) : L_Md_guess_6 v0R v2I v4I v6I σ = (L_Md_guess_7 v0R v2I v4I v6I v6I σ) := by
  unfold L_Md_guess_6
  rw [lp_eq]
  show lpK (lp F_Md_guess) (T_Md_guess_6 v0R v2I v4I v6I σ) = _
  unfold T_Md_guess_6
  simp only [lpK_ite, lq_inl, lq_inr, lpK_bnd, lpK_gd, lq_let]
  try rfl
set_option maxRecDepth 20000 in
theorem E_Md_guess_7 (v0R : Nat) (v2I : Int32) (v4I : Int32) (v6I : Int32) (s0I : Int32) (σ : AM) : L_Md_guess_7 v0R v2I v4I v6I s0I σ = (if v4I < 0 then (L_Md_guess_8 v0R v2I s0I v6I v6I σ) else (L_Md_guess_8 v0R v2I s0I v6I v4I σ)) := by
  unfold L_Md_guess_7
  rw [lp_eq]
  show lpK (lp F_Md_guess) (T_Md_guess_7 v0R v2I v4I v6I s0I σ) = _
  unfold T_Md_guess_7
  simp only [lpK_ite, lq_inl, lq_inr, lpK_bnd, lpK_gd, lq_let]
  try rfl
set_option maxRecDepth 20000 in
theorem E_Md_guess_8 (v0R : Nat) (v2I : Int32) (v3I : Int32) (v6I : Int32) (s0I : Int32) (σ : AM) : L_Md_guess_8 v0R v2I v3I v6I s0I σ = (L_Md_guess_9 v0R v2I v3I s0I v6I v6I σ) := by
  unfold L_Md_guess_8
  rw [lp_eq]
  show lpK (lp F_Md_guess) (T_Md_guess_8 v0R v2I v3I v6I s0I σ) = _
  unfold T_Md_guess_8
  simp only [lpK_ite, lq_inl, lq_inr, lpK_bnd, lpK_gd, lq_let]
  try rfl
set_option maxRecDepth 20000 in
theorem E_Md_guess_9 (v0R : Nat) (v2I : Int32) (v3I : Int32) (v4I : Int32) (v5I : Int32) (v6I : Int32) (σ : AM) : L_Md_guess_9 v0R v2I v3I v4I v5I v6I σ = (L_Md_guess_5 v0R v2I v3I v4I v5I (v6I + (1 : Int32)) σ) := by
  unfold L_Md_guess_9
  rw [lp_eq]
  show lpK (lp F_Md_guess) (T_Md_guess_9 v0R v2I v3I v4I v5I v6I σ) = _
  unfold T_Md_guess_9
  simp only [lpK_ite, lq_inl, lq_inr, lpK_bnd, lpK_gd, lq_let]
  try rfl
set_option maxRecDepth 20000 in
theorem E_Md_guess_10 (s0I : Int32) (σ : AM) : L_Md_guess_10 s0I σ = ((some (s0I, σ))) := by
  unfold L_Md_guess_10
  rw [lp_eq]
  show lpK (lp F_Md_guess) (T_Md_guess_10 s0I σ) = _
  unfold T_Md_guess_10
  simp only [lpK_ite, lq_inl, lq_inr, lpK_bnd, lpK_gd, lq_let]
  try rfl
noncomputable def M_Md_guess (v0R : Nat) (v1I : Int32) (v2I : Int32) (σ : AM) : Option (Int32 × AM) := mw σ (L_Md_guess_0 v0R v1I v2I σ)
def I_Md_guess (G : GX) (p : Program) (l : Launch) (e : Env) (s : State) (m : MethodId) (args : Array Value) (below : List Frame) (meth : Method) (c : Code) (z0 u0 n : Nat) : Prop :=
  (∀ (v0R : Nat) (v1I : Int32) (v2I : Int32) (σ : AM), VX (QM eI G args s below z0 u0) G p l e s m args below meth c 4 z0 u0 7 (lpn F_Md_guess n (0, v0R, v1I, v2I, 0, 0, 0, 0, 0, σ)) 0 [(0, .ref v0R), (1, .int v1I), (2, .int v2I)] [] σ) ∧
  (∀ (σ : AM), VX (QM eI G args s below z0 u0) G p l e s m args below meth c 4 z0 u0 7 (lpn F_Md_guess n (1, 0, 0, 0, 0, 0, 0, 0, 0, σ)) 22 [] [] σ) ∧
  (∀ (v0R : Nat) (v1I : Int32) (v2I : Int32) (v3I : Int32) (σ : AM), VX (QM eI G args s below z0 u0) G p l e s m args below meth c 4 z0 u0 7 (lpn F_Md_guess n (2, v0R, v1I, v2I, v3I, 0, 0, 0, 0, σ)) 30 [(0, .ref v0R), (1, .int v1I), (2, .int v2I), (3, .int v3I)] [] σ) ∧
  (∀ (v0R : Nat) (v1I : Int32) (v2I : Int32) (v3I : Int32) (σ : AM), VX (QM eI G args s below z0 u0) G p l e s m args below meth c 4 z0 u0 7 (lpn F_Md_guess n (3, v0R, v1I, v2I, v3I, 0, 0, 0, 0, σ)) 51 [(0, .ref v0R), (1, .int v1I), (2, .int v2I), (3, .int v3I)] [] σ) ∧
  (∀ (v0R : Nat) (v1I : Int32) (v2I : Int32) (v3I : Int32) (σ : AM), VX (QM eI G args s below z0 u0) G p l e s m args below meth c 4 z0 u0 7 (lpn F_Md_guess n (4, v0R, v1I, v2I, v3I, 0, 0, 0, 0, σ)) 87 [(0, .ref v0R), (1, .int v1I), (2, .int v2I), (3, .int v3I)] [] σ) ∧
  (∀ (v0R : Nat) (v2I : Int32) (v3I : Int32) (v4I : Int32) (v5I : Int32) (v6I : Int32) (σ : AM), VX (QM eI G args s below z0 u0) G p l e s m args below meth c 4 z0 u0 7 (lpn F_Md_guess n (5, v0R, 0, v2I, v3I, v4I, v5I, v6I, 0, σ)) 104 [(0, .ref v0R), (2, .int v2I), (3, .int v3I), (4, .int v4I), (5, .int v5I), (6, .int v6I)] [] σ) ∧
  (∀ (v0R : Nat) (v2I : Int32) (v4I : Int32) (v6I : Int32) (σ : AM), VX (QM eI G args s below z0 u0) G p l e s m args below meth c 4 z0 u0 7 (lpn F_Md_guess n (6, v0R, 0, v2I, 0, v4I, 0, v6I, 0, σ)) 141 [(0, .ref v0R), (2, .int v2I), (4, .int v4I), (6, .int v6I)] [] σ) ∧
  (∀ (v0R : Nat) (v2I : Int32) (v4I : Int32) (v6I : Int32) (s0I : Int32) (σ : AM), VX (QM eI G args s below z0 u0) G p l e s m args below meth c 4 z0 u0 7 (lpn F_Md_guess n (7, v0R, 0, v2I, 0, v4I, 0, v6I, s0I, σ)) 147 [(0, .ref v0R), (2, .int v2I), (4, .int v4I), (6, .int v6I)] [.int s0I] σ) ∧
  (∀ (v0R : Nat) (v2I : Int32) (v3I : Int32) (v6I : Int32) (s0I : Int32) (σ : AM), VX (QM eI G args s below z0 u0) G p l e s m args below meth c 4 z0 u0 7 (lpn F_Md_guess n (8, v0R, 0, v2I, v3I, 0, 0, v6I, s0I, σ)) 160 [(0, .ref v0R), (2, .int v2I), (3, .int v3I), (6, .int v6I)] [.int s0I] σ) ∧
  (∀ (v0R : Nat) (v2I : Int32) (v3I : Int32) (v4I : Int32) (v5I : Int32) (v6I : Int32) (σ : AM), VX (QM eI G args s below z0 u0) G p l e s m args below meth c 4 z0 u0 7 (lpn F_Md_guess n (9, v0R, 0, v2I, v3I, v4I, v5I, v6I, 0, σ)) 166 [(0, .ref v0R), (2, .int v2I), (3, .int v3I), (4, .int v4I), (5, .int v5I), (6, .int v6I)] [] σ) ∧
  (∀ (s0I : Int32) (σ : AM), VX (QM eI G args s below z0 u0) G p l e s m args below meth c 4 z0 u0 7 (lpn F_Md_guess n (10, 0, 0, 0, 0, 0, 0, 0, s0I, σ)) 192 [] [.int s0I] σ)
set_option maxRecDepth 20000 in
theorem s_Md_guess_0 {G : GX} {p : Program} {l : Launch} {e : Env} {s : State} {m : MethodId} {args : Array Value} {below : List Frame} {meth : Method} {c : Code} {z0 u0 n : Nat} (C : Cx G p s m args meth c prog_14_method_112_code 7 "BellPlateModel" ((some FieldType.int))) (IH : I_Md_guess G p l e s m args below meth c z0 u0 n) (v0R : Nat) (v1I : Int32) (v2I : Int32) (σ : AM) : VX (QM eI G args s below z0 u0) G p l e s m args below meth c 4 z0 u0 7 (lpK (lpn F_Md_guess n) (T_Md_guess_0 v0R v1I v2I σ)) 0 [(0, .ref v0R), (1, .int v1I), (2, .int v2I)] [] σ := by
  unfold T_Md_guess_0
  refine x_aload_n C d_Md_guess_0 0 rfl ?_
  refine x_iconst (v := (0 : Int32)) C d_Md_guess_1 (by decide) ?_
  refine x_gd (fun h1 => ?_)
  refine x_putI (k := 0) C (okO_iff.mp h1) rfl j11_ok y11_ok n11_ok (by decide) rfl rfl rfl rfl w1852 d_Md_guess_2 ?_
  refine x_letS (fun σ2 e3 => ?_)
  refine x_aload_n C d_Md_guess_5 0 rfl ?_
  refine x_iload_n C d_Md_guess_6 1 rfl ?_
  refine x_callVI (As := [.int v1I]) C (c_Md_isThing G l v0R v1I σ2) (by first | exact (okO_iff.mp h1) | (rw [e3]; exact (okO_iff.mp h1))) rfl w2258 w92 w2256 w2259 w134 k_Md_isThing rfl (by decide) (by decide) rfl (Nat.le_of_ble_eq_true rfl) d_Md_guess_7 (fun r4 σ5 => ?_)
  refine x_if_eq (tgt := 22) C d_Md_guess_10 (by decide) (fun _ => ?_) (fun _ => ?_)
  · refine x_lv [] rfl ?_
    exact IH.2.1  (σ5)
  · refine x_iload_n C d_Md_guess_13 2 rfl ?_
    refine x_iconst (v := (0 : Int32)) C d_Md_guess_14 (by decide) ?_
    refine x_iconst (v := (2 : Int32)) C d_Md_guess_15 (by decide) ?_
    refine x_callSI (As := [.int v2I, .int (0 : Int32), .int (2 : Int32)]) C (c_Md_within G l v2I (0 : Int32) (2 : Int32) σ5) w2205 w2204 w2206 w134 k_Md_within rfl (by decide) (by decide) rfl (Nat.le_of_ble_eq_true rfl) d_Md_guess_16 (fun r6 σ7 => ?_)
    refine x_if_ne (tgt := 24) C d_Md_guess_19 (by decide) (fun _ => ?_) (fun _ => ?_)
    · refine x_lv [] rfl ?_
      exact IH.2.1  (σ7)
    · refine x_aload_n C d_Md_guess_24 0 rfl ?_
      refine x_gd (fun h10 => ?_)
      refine x_callVV (As := []) C (c_Md_findLeft G l v0R  σ7) (okO_iff.mp h10) rfl w2213 w85 w2211 w2214 w134 k_Md_findLeft rfl (by decide) (by decide) rfl (Nat.le_of_ble_eq_true rfl) d_Md_guess_25 (fun r8 σ9 => ?_)
      refine x_iconst (v := (0 : Int32)) C d_Md_guess_28 (by decide) ?_
      refine x_istore_n (lv' := [(3, .int (0 : Int32)), (0, .ref v0R), (1, .int v1I), (2, .int v2I)]) C d_Md_guess_29 (by decide) rfl rfl ?_
      refine x_lv [1, 2, 3, 0] rfl ?_
      exact IH.2.2.1 v0R v1I v2I ((0 : Int32)) (σ9)
set_option maxRecDepth 20000 in
theorem s_Md_guess_1 {G : GX} {p : Program} {l : Launch} {e : Env} {s : State} {m : MethodId} {args : Array Value} {below : List Frame} {meth : Method} {c : Code} {z0 u0 n : Nat} (C : Cx G p s m args meth c prog_14_method_112_code 7 "BellPlateModel" ((some FieldType.int))) (IH : I_Md_guess G p l e s m args below meth c z0 u0 n)  (σ : AM) : VX (QM eI G args s below z0 u0) G p l e s m args below meth c 4 z0 u0 7 (lpK (lpn F_Md_guess n) (T_Md_guess_1  σ)) 22 [] [] σ := by
  unfold T_Md_guess_1
  refine x_iconst (v := ((-1) : Int32)) C d_Md_guess_22 (by decide) ?_
  exact x_iret C d_Md_guess_23
set_option maxRecDepth 20000 in
theorem s_Md_guess_2 {G : GX} {p : Program} {l : Launch} {e : Env} {s : State} {m : MethodId} {args : Array Value} {below : List Frame} {meth : Method} {c : Code} {z0 u0 n : Nat} (C : Cx G p s m args meth c prog_14_method_112_code 7 "BellPlateModel" ((some FieldType.int))) (IH : I_Md_guess G p l e s m args below meth c z0 u0 n) (v0R : Nat) (v1I : Int32) (v2I : Int32) (v3I : Int32) (σ : AM) : VX (QM eI G args s below z0 u0) G p l e s m args below meth c 4 z0 u0 7 (lpK (lpn F_Md_guess n) (T_Md_guess_2 v0R v1I v2I v3I σ)) 30 [(0, .ref v0R), (1, .int v1I), (2, .int v2I), (3, .int v3I)] [] σ := by
  unfold T_Md_guess_2
  refine x_iload_n C d_Md_guess_30 3 rfl ?_
  refine x_bipush (v := (10 : Int32)) C d_Md_guess_31 (by decide) ?_
  refine x_icmp_ge (tgt := 49) C d_Md_guess_33 (by decide) (fun _ => ?_) (fun _ => ?_)
  · refine x_aload_n C d_Md_guess_36 0 rfl ?_
    refine x_gd (fun h1 => ?_)
    refine x_gd (fun h2 => ?_)
    refine x_getR (k := 69) (kv := 101) C (okO_iff.mp h1) rfl j11_ok (by decide) rfl (okO_iff.mp h2) (by decide) w1921 d_Md_guess_37 ?_
    refine x_iload_n C d_Md_guess_40 3 rfl ?_
    refine x_iconst (v := (0 : Int32)) C d_Md_guess_41 (by decide) ?_
    refine x_gd (fun h3 => ?_)
    refine x_astI C (okO_iff.mp h2) (inB_iff.mp h3) d_Md_guess_42 ?_
    refine x_letS (fun σ4 e5 => ?_)
    refine x_iinc (v := v3I + (1 : Int32)) (lv' := [(3, .int (v3I + (1 : Int32))), (0, .ref v0R), (1, .int v1I), (2, .int v2I)]) C d_Md_guess_43 3 rfl rfl (by decide) rfl ?_
    refine x_goto (tgt := 30) C d_Md_guess_46 (by decide) ?_
    refine x_lv [1, 2, 3, 0] rfl ?_
    exact IH.2.2.1 v0R v1I v2I (v3I + (1 : Int32)) (σ4)
  · refine x_iconst (v := (0 : Int32)) C d_Md_guess_49 (by decide) ?_
    refine x_istore_n (lv' := [(3, .int (0 : Int32)), (0, .ref v0R), (1, .int v1I), (2, .int v2I)]) C d_Md_guess_50 (by decide) rfl rfl ?_
    refine x_lv [1, 2, 3, 0] rfl ?_
    exact IH.2.2.2.1 v0R v1I v2I ((0 : Int32)) (σ)
set_option maxRecDepth 20000 in
theorem s_Md_guess_3 {G : GX} {p : Program} {l : Launch} {e : Env} {s : State} {m : MethodId} {args : Array Value} {below : List Frame} {meth : Method} {c : Code} {z0 u0 n : Nat} (C : Cx G p s m args meth c prog_14_method_112_code 7 "BellPlateModel" ((some FieldType.int))) (IH : I_Md_guess G p l e s m args below meth c z0 u0 n) (v0R : Nat) (v1I : Int32) (v2I : Int32) (v3I : Int32) (σ : AM) : VX (QM eI G args s below z0 u0) G p l e s m args below meth c 4 z0 u0 7 (lpK (lpn F_Md_guess n) (T_Md_guess_3 v0R v1I v2I v3I σ)) 51 [(0, .ref v0R), (1, .int v1I), (2, .int v2I), (3, .int v3I)] [] σ := by
  unfold T_Md_guess_3
  refine x_iload_n C d_Md_guess_51 3 rfl ?_
  refine x_aload_n C d_Md_guess_52 0 rfl ?_
  refine x_gd (fun h1 => ?_)
  refine x_getI (k := 26) C (okO_iff.mp h1) rfl j11_ok (by decide) rfl w1878 d_Md_guess_53 ?_
  refine x_icmp_ge (tgt := 93) C d_Md_guess_56 (by decide) (fun _ => ?_) (fun _ => ?_)
  · refine x_aload_n C d_Md_guess_59 0 rfl ?_
    refine x_iload_n C d_Md_guess_60 3 rfl ?_
    refine x_callVI (As := [.int v3I]) C (c_Md_isLeft G l v0R v3I σ) (okO_iff.mp h1) rfl w2239 w90 w2237 w2240 w134 k_Md_isLeft rfl (by decide) (by decide) rfl (Nat.le_of_ble_eq_true rfl) d_Md_guess_61 (fun r2 σ3 => ?_)
    refine x_if_eq (tgt := 87) C d_Md_guess_64 (by decide) (fun _ => ?_) (fun _ => ?_)
    · exact IH.2.2.2.2.1 v0R v1I v2I v3I (σ3)
    · refine x_aload_n C d_Md_guess_67 0 rfl ?_
      refine x_iload_n C d_Md_guess_68 3 rfl ?_
      refine x_gd (fun h6 => ?_)
      refine x_callVV (As := [.int v3I]) C (c_Md_unpacks G l v0R v3I σ3) (okO_iff.mp h6) rfl w1818 w56 w1816 w1819 w134 k_Md_unpacks rfl (by decide) (by decide) rfl (Nat.le_of_ble_eq_true rfl) d_Md_guess_69 (fun r4 σ5 => ?_)
      refine x_aload_n C d_Md_guess_72 0 rfl ?_
      refine x_gd (fun h7 => ?_)
      refine x_gd (fun h8 => ?_)
      refine x_getR (k := 69) (kv := 101) C (okO_iff.mp h7) rfl j11_ok (by decide) rfl (okO_iff.mp h8) (by decide) w1921 d_Md_guess_73 ?_
      refine x_aload_n C d_Md_guess_76 0 rfl ?_
      refine x_gd (fun h9 => ?_)
      refine x_getR (k := 34) (kv := 101) C (okO_iff.mp h7) rfl j11_ok (by decide) rfl (okO_iff.mp h9) (by decide) w1886 d_Md_guess_77 ?_
      refine x_iload_n C d_Md_guess_80 1 rfl ?_
      refine x_gd (fun h10 => ?_)
      refine x_aldI C (okO_iff.mp h9) (inB_iff.mp h10) d_Md_guess_81 ?_
      refine x_dup2 C d_Md_guess_82 rfl rfl ?_
      refine x_gd (fun h11 => ?_)
      refine x_aldI C (okO_iff.mp h8) (inB_iff.mp h11) d_Md_guess_83 ?_
      refine x_iconst (v := (1 : Int32)) C d_Md_guess_84 (by decide) ?_
      refine x_iadd C d_Md_guess_85 ?_
      refine x_astI C (okO_iff.mp h8) (inB_iff.mp h11) d_Md_guess_86 ?_
      refine x_letS (fun σ12 e13 => ?_)
      exact IH.2.2.2.2.1 v0R v1I v2I v3I (σ12)
  · refine x_iconst (v := ((-1) : Int32)) C d_Md_guess_93 (by decide) ?_
    refine x_istore_n (lv' := [(3, .int ((-1) : Int32)), (0, .ref v0R), (1, .int v1I), (2, .int v2I)]) C d_Md_guess_94 (by decide) rfl rfl ?_
    refine x_iconst (v := ((-1) : Int32)) C d_Md_guess_95 (by decide) ?_
    refine x_istore (lv' := [(4, .int ((-1) : Int32)), (3, .int ((-1) : Int32)), (0, .ref v0R), (1, .int v1I), (2, .int v2I)]) C d_Md_guess_96 (by decide) rfl ?_
    refine x_iconst (v := ((-1) : Int32)) C d_Md_guess_98 (by decide) ?_
    refine x_istore (lv' := [(5, .int ((-1) : Int32)), (4, .int ((-1) : Int32)), (3, .int ((-1) : Int32)), (0, .ref v0R), (1, .int v1I), (2, .int v2I)]) C d_Md_guess_99 (by decide) rfl ?_
    refine x_iconst (v := (0 : Int32)) C d_Md_guess_101 (by decide) ?_
    refine x_istore (lv' := [(6, .int (0 : Int32)), (5, .int ((-1) : Int32)), (4, .int ((-1) : Int32)), (3, .int ((-1) : Int32)), (0, .ref v0R), (1, .int v1I), (2, .int v2I)]) C d_Md_guess_102 (by decide) rfl ?_
    refine x_lv [4, 6, 3, 2, 1, 0] rfl ?_
    exact IH.2.2.2.2.2.1 v0R v2I (((-1) : Int32)) (((-1) : Int32)) (((-1) : Int32)) ((0 : Int32)) (σ)
set_option maxRecDepth 20000 in
theorem s_Md_guess_4 {G : GX} {p : Program} {l : Launch} {e : Env} {s : State} {m : MethodId} {args : Array Value} {below : List Frame} {meth : Method} {c : Code} {z0 u0 n : Nat} (C : Cx G p s m args meth c prog_14_method_112_code 7 "BellPlateModel" ((some FieldType.int))) (IH : I_Md_guess G p l e s m args below meth c z0 u0 n) (v0R : Nat) (v1I : Int32) (v2I : Int32) (v3I : Int32) (σ : AM) : VX (QM eI G args s below z0 u0) G p l e s m args below meth c 4 z0 u0 7 (lpK (lpn F_Md_guess n) (T_Md_guess_4 v0R v1I v2I v3I σ)) 87 [(0, .ref v0R), (1, .int v1I), (2, .int v2I), (3, .int v3I)] [] σ := by
  unfold T_Md_guess_4
  refine x_iinc (v := v3I + (1 : Int32)) (lv' := [(3, .int (v3I + (1 : Int32))), (0, .ref v0R), (1, .int v1I), (2, .int v2I)]) C d_Md_guess_87 3 rfl rfl (by decide) rfl ?_
  refine x_goto (tgt := 51) C d_Md_guess_90 (by decide) ?_
  refine x_lv [1, 2, 3, 0] rfl ?_
  exact IH.2.2.2.1 v0R v1I v2I (v3I + (1 : Int32)) (σ)
set_option maxRecDepth 20000 in
theorem s_Md_guess_5 {G : GX} {p : Program} {l : Launch} {e : Env} {s : State} {m : MethodId} {args : Array Value} {below : List Frame} {meth : Method} {c : Code} {z0 u0 n : Nat} (C : Cx G p s m args meth c prog_14_method_112_code 7 "BellPlateModel" ((some FieldType.int))) (IH : I_Md_guess G p l e s m args below meth c z0 u0 n) (v0R : Nat) (v2I : Int32) (v3I : Int32) (v4I : Int32) (v5I : Int32) (v6I : Int32) (σ : AM) : VX (QM eI G args s below z0 u0) G p l e s m args below meth c 4 z0 u0 7 (lpK (lpn F_Md_guess n) (T_Md_guess_5 v0R v2I v3I v4I v5I v6I σ)) 104 [(0, .ref v0R), (2, .int v2I), (3, .int v3I), (4, .int v4I), (5, .int v5I), (6, .int v6I)] [] σ := by
  unfold T_Md_guess_5
  refine x_iload C d_Md_guess_104 5 rfl ?_
  refine x_bipush (v := (10 : Int32)) C d_Md_guess_106 (by decide) ?_
  refine x_icmp_ge (tgt := 172) C d_Md_guess_108 (by decide) (fun _ => ?_) (fun _ => ?_)
  · refine x_aload_n C d_Md_guess_111 0 rfl ?_
    refine x_gd (fun h1 => ?_)
    refine x_gd (fun h2 => ?_)
    refine x_getR (k := 69) (kv := 101) C (okO_iff.mp h1) rfl j11_ok (by decide) rfl (okO_iff.mp h2) (by decide) w1921 d_Md_guess_112 ?_
    refine x_iload C d_Md_guess_115 5 rfl ?_
    refine x_gd (fun h3 => ?_)
    refine x_aldI C (okO_iff.mp h2) (inB_iff.mp h3) d_Md_guess_117 ?_
    refine x_if_le (tgt := 166) C d_Md_guess_118 (by decide) (fun _ => ?_) (fun _ => ?_)
    · refine x_iload_n C d_Md_guess_121 2 rfl ?_
      refine x_if_lt (tgt := 141) C d_Md_guess_122 (by decide) (fun _ => ?_) (fun _ => ?_)
      · refine x_lv [0, 1, 3, 5] rfl ?_
        exact IH.2.2.2.2.2.2.1 v0R v2I v4I v6I (σ)
      · refine x_aload_n C d_Md_guess_125 0 rfl ?_
        refine x_getR (k := 69) (kv := 101) C (okO_iff.mp h1) rfl j11_ok (by decide) rfl (okO_iff.mp h2) (by decide) w1921 d_Md_guess_126 ?_
        refine x_iload C d_Md_guess_129 5 rfl ?_
        refine x_aldI C (okO_iff.mp h2) (inB_iff.mp h3) d_Md_guess_131 ?_
        refine x_aload_n C d_Md_guess_132 0 rfl ?_
        refine x_getR (k := 69) (kv := 101) C (okO_iff.mp h1) rfl j11_ok (by decide) rfl (okO_iff.mp h2) (by decide) w1921 d_Md_guess_133 ?_
        refine x_iload_n C d_Md_guess_136 2 rfl ?_
        refine x_gd (fun h4 => ?_)
        refine x_aldI C (okO_iff.mp h2) (inB_iff.mp h4) d_Md_guess_137 ?_
        refine x_icmp_le (tgt := 146) C d_Md_guess_138 (by decide) (fun _ => ?_) (fun _ => ?_)
        · refine x_lv [0, 1, 3, 5] rfl ?_
          exact IH.2.2.2.2.2.2.1 v0R v2I v4I v6I (σ)
        · refine x_iload_n C d_Md_guess_146 2 rfl ?_
          refine x_lv [0, 1, 3, 5] rfl ?_
          exact IH.2.2.2.2.2.2.2.1 v0R v2I v4I v6I v3I (σ)
    · exact IH.2.2.2.2.2.2.2.2.2.1 v0R v2I v3I v4I v5I v6I (σ)
  · refine x_iload_n C d_Md_guess_172 1 rfl ?_
    refine x_if_ne (tgt := 180) C d_Md_guess_173 (by decide) (fun _ => ?_) (fun _ => ?_)
    · refine x_iload_n C d_Md_guess_176 2 rfl ?_
      refine x_goto (tgt := 192) C d_Md_guess_177 (by decide) ?_
      refine x_lv [] rfl ?_
      exact IH.2.2.2.2.2.2.2.2.2.2 v3I (σ)
    · refine x_iload_n C d_Md_guess_180 1 rfl ?_
      refine x_iconst (v := (1 : Int32)) C d_Md_guess_181 (by decide) ?_
      refine x_icmp_ne (tgt := 190) C d_Md_guess_182 (by decide) (fun _ => ?_) (fun _ => ?_)
      · refine x_iload C d_Md_guess_185 3 rfl ?_
        refine x_goto (tgt := 192) C d_Md_guess_187 (by decide) ?_
        refine x_lv [] rfl ?_
        exact IH.2.2.2.2.2.2.2.2.2.2 v4I (σ)
      · refine x_iload C d_Md_guess_190 4 rfl ?_
        refine x_lv [] rfl ?_
        exact IH.2.2.2.2.2.2.2.2.2.2 v5I (σ)
set_option maxRecDepth 20000 in
theorem s_Md_guess_6 {G : GX} {p : Program} {l : Launch} {e : Env} {s : State} {m : MethodId} {args : Array Value} {below : List Frame} {meth : Method} {c : Code} {z0 u0 n : Nat} (C : Cx G p s m args meth c prog_14_method_112_code 7 "BellPlateModel" ((some FieldType.int))) (IH : I_Md_guess G p l e s m args below meth c z0 u0 n) (v0R : Nat) (v2I : Int32) (v4I : Int32) (v6I : Int32) (σ : AM) : VX (QM eI G args s below z0 u0) G p l e s m args below meth c 4 z0 u0 7 (lpK (lpn F_Md_guess n) (T_Md_guess_6 v0R v2I v4I v6I σ)) 141 [(0, .ref v0R), (2, .int v2I), (4, .int v4I), (6, .int v6I)] [] σ := by
  unfold T_Md_guess_6
  refine x_iload C d_Md_guess_141 3 rfl ?_
  refine x_goto (tgt := 147) C d_Md_guess_143 (by decide) ?_
  exact IH.2.2.2.2.2.2.2.1 v0R v2I v4I v6I v6I (σ)
set_option maxRecDepth 20000 in
theorem s_Md_guess_7 {G : GX} {p : Program} {l : Launch} {e : Env} {s : State} {m : MethodId} {args : Array Value} {below : List Frame} {meth : Method} {c : Code} {z0 u0 n : Nat} (C : Cx G p s m args meth c prog_14_method_112_code 7 "BellPlateModel" ((some FieldType.int))) (IH : I_Md_guess G p l e s m args below meth c z0 u0 n) (v0R : Nat) (v2I : Int32) (v4I : Int32) (v6I : Int32) (s0I : Int32) (σ : AM) : VX (QM eI G args s below z0 u0) G p l e s m args below meth c 4 z0 u0 7 (lpK (lpn F_Md_guess n) (T_Md_guess_7 v0R v2I v4I v6I s0I σ)) 147 [(0, .ref v0R), (2, .int v2I), (4, .int v4I), (6, .int v6I)] [.int s0I] σ := by
  unfold T_Md_guess_7
  refine x_istore_n (lv' := [(3, .int s0I), (0, .ref v0R), (2, .int v2I), (4, .int v4I), (6, .int v6I)]) C d_Md_guess_147 (by decide) rfl rfl ?_
  refine x_iload C d_Md_guess_148 3 rfl ?_
  refine x_if_ge (tgt := 158) C d_Md_guess_150 (by decide) (fun _ => ?_) (fun _ => ?_)
  · refine x_iload C d_Md_guess_153 4 rfl ?_
    refine x_goto (tgt := 160) C d_Md_guess_155 (by decide) ?_
    refine x_lv [1, 2, 0, 4] rfl ?_
    exact IH.2.2.2.2.2.2.2.2.1 v0R v2I s0I v6I v6I (σ)
  · refine x_iload C d_Md_guess_158 3 rfl ?_
    refine x_lv [1, 2, 0, 4] rfl ?_
    exact IH.2.2.2.2.2.2.2.2.1 v0R v2I s0I v6I v4I (σ)
set_option maxRecDepth 20000 in
theorem s_Md_guess_8 {G : GX} {p : Program} {l : Launch} {e : Env} {s : State} {m : MethodId} {args : Array Value} {below : List Frame} {meth : Method} {c : Code} {z0 u0 n : Nat} (C : Cx G p s m args meth c prog_14_method_112_code 7 "BellPlateModel" ((some FieldType.int))) (IH : I_Md_guess G p l e s m args below meth c z0 u0 n) (v0R : Nat) (v2I : Int32) (v3I : Int32) (v6I : Int32) (s0I : Int32) (σ : AM) : VX (QM eI G args s below z0 u0) G p l e s m args below meth c 4 z0 u0 7 (lpK (lpn F_Md_guess n) (T_Md_guess_8 v0R v2I v3I v6I s0I σ)) 160 [(0, .ref v0R), (2, .int v2I), (3, .int v3I), (6, .int v6I)] [.int s0I] σ := by
  unfold T_Md_guess_8
  refine x_istore (lv' := [(4, .int s0I), (0, .ref v0R), (2, .int v2I), (3, .int v3I), (6, .int v6I)]) C d_Md_guess_160 (by decide) rfl ?_
  refine x_iload C d_Md_guess_162 4 rfl ?_
  refine x_istore (lv' := [(5, .int v6I), (4, .int s0I), (0, .ref v0R), (2, .int v2I), (3, .int v3I), (6, .int v6I)]) C d_Md_guess_164 (by decide) rfl ?_
  refine x_lv [2, 3, 4, 1, 0, 5] rfl ?_
  exact IH.2.2.2.2.2.2.2.2.2.1 v0R v2I v3I s0I v6I v6I (σ)
set_option maxRecDepth 20000 in
theorem s_Md_guess_9 {G : GX} {p : Program} {l : Launch} {e : Env} {s : State} {m : MethodId} {args : Array Value} {below : List Frame} {meth : Method} {c : Code} {z0 u0 n : Nat} (C : Cx G p s m args meth c prog_14_method_112_code 7 "BellPlateModel" ((some FieldType.int))) (IH : I_Md_guess G p l e s m args below meth c z0 u0 n) (v0R : Nat) (v2I : Int32) (v3I : Int32) (v4I : Int32) (v5I : Int32) (v6I : Int32) (σ : AM) : VX (QM eI G args s below z0 u0) G p l e s m args below meth c 4 z0 u0 7 (lpK (lpn F_Md_guess n) (T_Md_guess_9 v0R v2I v3I v4I v5I v6I σ)) 166 [(0, .ref v0R), (2, .int v2I), (3, .int v3I), (4, .int v4I), (5, .int v5I), (6, .int v6I)] [] σ := by
  unfold T_Md_guess_9
  refine x_iinc (v := v6I + (1 : Int32)) (lv' := [(6, .int (v6I + (1 : Int32))), (0, .ref v0R), (2, .int v2I), (3, .int v3I), (4, .int v4I), (5, .int v5I)]) C d_Md_guess_166 5 rfl rfl (by decide) rfl ?_
  refine x_goto (tgt := 104) C d_Md_guess_169 (by decide) ?_
  refine x_lv [1, 2, 3, 4, 5, 0] rfl ?_
  exact IH.2.2.2.2.2.1 v0R v2I v3I v4I v5I (v6I + (1 : Int32)) (σ)
set_option maxRecDepth 20000 in
theorem s_Md_guess_10 {G : GX} {p : Program} {l : Launch} {e : Env} {s : State} {m : MethodId} {args : Array Value} {below : List Frame} {meth : Method} {c : Code} {z0 u0 n : Nat} (C : Cx G p s m args meth c prog_14_method_112_code 7 "BellPlateModel" ((some FieldType.int))) (IH : I_Md_guess G p l e s m args below meth c z0 u0 n) (s0I : Int32) (σ : AM) : VX (QM eI G args s below z0 u0) G p l e s m args below meth c 4 z0 u0 7 (lpK (lpn F_Md_guess n) (T_Md_guess_10 s0I σ)) 192 [] [.int s0I] σ := by
  unfold T_Md_guess_10
  exact x_iret C d_Md_guess_192
theorem i_Md_guess {G : GX} {p : Program} {l : Launch} {e : Env} {s : State} {m : MethodId} {args : Array Value} {below : List Frame} {meth : Method} {c : Code} {z0 u0 : Nat} (C : Cx G p s m args meth c prog_14_method_112_code 7 "BellPlateModel" ((some FieldType.int))) (n : Nat) : I_Md_guess G p l e s m args below meth c z0 u0 n := by
  induction n with
  | zero => exact ⟨fun _ _ _ _ => x_none, fun _ => x_none, fun _ _ _ _ _ => x_none, fun _ _ _ _ _ => x_none, fun _ _ _ _ _ => x_none, fun _ _ _ _ _ _ _ => x_none, fun _ _ _ _ _ => x_none, fun _ _ _ _ _ _ => x_none, fun _ _ _ _ _ _ => x_none, fun _ _ _ _ _ _ _ => x_none, fun _ _ => x_none⟩
  | succ n IH => exact ⟨fun v0R v1I v2I σ => s_Md_guess_0 C IH v0R v1I v2I σ, fun σ => s_Md_guess_1 C IH σ, fun v0R v1I v2I v3I σ => s_Md_guess_2 C IH v0R v1I v2I v3I σ, fun v0R v1I v2I v3I σ => s_Md_guess_3 C IH v0R v1I v2I v3I σ, fun v0R v1I v2I v3I σ => s_Md_guess_4 C IH v0R v1I v2I v3I σ, fun v0R v2I v3I v4I v5I v6I σ => s_Md_guess_5 C IH v0R v2I v3I v4I v5I v6I σ, fun v0R v2I v4I v6I σ => s_Md_guess_6 C IH v0R v2I v4I v6I σ, fun v0R v2I v4I v6I s0I σ => s_Md_guess_7 C IH v0R v2I v4I v6I s0I σ, fun v0R v2I v3I v6I s0I σ => s_Md_guess_8 C IH v0R v2I v3I v6I s0I σ, fun v0R v2I v3I v4I v5I v6I σ => s_Md_guess_9 C IH v0R v2I v3I v4I v5I v6I σ, fun s0I σ => s_Md_guess_10 C IH s0I σ⟩
theorem c_Md_guess (G : GX) (l : Launch) (v0R : Nat) (v1I : Int32) (v2I : Int32) (σ : AM) : CT eI G l 4 y_Md_guess prog_14_method_112_code 7 ((some FieldType.int)) [.ref v0R, .int v1I, .int v2I] σ (M_Md_guess v0R v1I v2I σ) := by
  refine ct_of (by decide +kernel) (Nat.le_of_ble_eq_true rfl) (fun p e s m args below meth c C hin => ?_)
  refine x_lve (lv' := [(0, .ref v0R), (1, .int v1I), (2, .int v2I)]) rfl ?_
  intro r σ' h
  obtain ⟨n, hn⟩ := (lp_iff _ _ _).mp h
  exact (i_Md_guess C n).1 v0R v1I v2I σ r σ' hn
/-! BellPlateModel.orders(I)J -/
abbrev y_Md_orders : MethodName := ⟨"BellPlateModel", "orders", "(I)J"⟩
theorem k_Md_orders : y_Md_orders.cls ≠ "java/lang/invoke/MethodHandle" ∧ y_Md_orders.cls ≠ "java/lang/invoke/VarHandle" ∧ (parseMethodDescriptor y_Md_orders.desc).map (fun d => d.parameters.length) = some 1 := by decide +kernel
theorem d_Md_orders_0 : decode prog_14_method_113_code 0 = .ok (.lconst 1, 1) := by decide +kernel
theorem d_Md_orders_1 : decode prog_14_method_113_code 1 = .ok (.lstore_n 1, 1) := by decide +kernel
theorem d_Md_orders_2 : decode prog_14_method_113_code 2 = .ok (.iconst 2, 1) := by decide +kernel
theorem d_Md_orders_3 : decode prog_14_method_113_code 3 = .ok (.istore_n 3, 1) := by decide +kernel
theorem d_Md_orders_4 : decode prog_14_method_113_code 4 = .ok (.iload_n 3, 1) := by decide +kernel
theorem d_Md_orders_5 : decode prog_14_method_113_code 5 = .ok (.iload_n 0, 1) := by decide +kernel
theorem d_Md_orders_6 : decode prog_14_method_113_code 6 = .ok (.if_icmp .gt 14, 3) := by decide +kernel
theorem d_Md_orders_9 : decode prog_14_method_113_code 9 = .ok (.lload_n 1, 1) := by decide +kernel
theorem d_Md_orders_10 : decode prog_14_method_113_code 10 = .ok (.iload_n 3, 1) := by decide +kernel
theorem d_Md_orders_11 : decode prog_14_method_113_code 11 = .ok (.i2l, 1) := by decide +kernel
theorem d_Md_orders_12 : decode prog_14_method_113_code 12 = .ok (.lmul, 1) := by decide +kernel
theorem d_Md_orders_13 : decode prog_14_method_113_code 13 = .ok (.lstore_n 1, 1) := by decide +kernel
theorem d_Md_orders_14 : decode prog_14_method_113_code 14 = .ok (.iinc 3 1, 3) := by decide +kernel
theorem d_Md_orders_17 : decode prog_14_method_113_code 17 = .ok (.goto (-13), 3) := by decide +kernel
theorem d_Md_orders_20 : decode prog_14_method_113_code 20 = .ok (.lload_n 1, 1) := by decide +kernel
theorem d_Md_orders_21 : decode prog_14_method_113_code 21 = .ok (.lreturn, 1) := by decide +kernel
abbrev S_Md_orders : Type := Nat × Int32 × Int64 × Int32 × AM
noncomputable def T_Md_orders_0 (v0I : Int32) (σ : AM) : S_Md_orders ⊕ Option (Int64 × AM) :=
  .inl (1, v0I, (1 : Int64), (2 : Int32), σ)
noncomputable def T_Md_orders_1 (v0I : Int32) (v1J : Int64) (v3I : Int32) (σ : AM) : S_Md_orders ⊕ Option (Int64 × AM) :=
  if v0I < v3I then (.inr (some (v1J, σ))) else (letT (v1J * (v3I.toInt64)) fun x1 => .inl (1, v0I, x1, v3I + (1 : Int32), σ))
noncomputable def F_Md_orders : S_Md_orders → S_Md_orders ⊕ Option (Int64 × AM) := fun s => match s.1 with
  | 0 => T_Md_orders_0 (s.2.1) (s.2.2.2.2)
  | _ => T_Md_orders_1 (s.2.1) (s.2.2.1) (s.2.2.2.1) (s.2.2.2.2)
noncomputable def L_Md_orders_0 (v0I : Int32) (σ : AM) : Option (Int64 × AM) := lp F_Md_orders (0, v0I, 0, 0, σ)
noncomputable def L_Md_orders_1 (v0I : Int32) (v1J : Int64) (v3I : Int32) (σ : AM) : Option (Int64 × AM) := lp F_Md_orders (1, v0I, v1J, v3I, σ)
set_option maxRecDepth 20000 in
theorem E_Md_orders_0 (v0I : Int32) (σ : AM) : L_Md_orders_0 v0I σ = (L_Md_orders_1 v0I ((1 : Int64)) ((2 : Int32)) σ) := by
  unfold L_Md_orders_0
  rw [lp_eq]
  show lpK (lp F_Md_orders) (T_Md_orders_0 v0I σ) = _
  unfold T_Md_orders_0
  simp only [lpK_ite, lq_inl, lq_inr, lpK_bnd, lpK_gd, lq_let]
  try rfl
set_option maxRecDepth 20000 in
theorem E_Md_orders_1 (v0I : Int32) (v1J : Int64) (v3I : Int32) (σ : AM) : L_Md_orders_1 v0I v1J v3I σ = (if v0I < v3I then ((some (v1J, σ))) else (letT (v1J * (v3I.toInt64)) fun x1 => L_Md_orders_1 v0I x1 (v3I + (1 : Int32)) σ)) := by
  unfold L_Md_orders_1
  rw [lp_eq]
  show lpK (lp F_Md_orders) (T_Md_orders_1 v0I v1J v3I σ) = _
  unfold T_Md_orders_1
  simp only [lpK_ite, lq_inl, lq_inr, lpK_bnd, lpK_gd, lq_let]
  try rfl
noncomputable def M_Md_orders (v0I : Int32) (σ : AM) : Option (Int64 × AM) := mw σ (L_Md_orders_0 v0I σ)
def I_Md_orders (G : GX) (p : Program) (l : Launch) (e : Env) (s : State) (m : MethodId) (args : Array Value) (below : List Frame) (meth : Method) (c : Code) (z0 u0 n : Nat) : Prop :=
  (∀ (v0I : Int32) (σ : AM), VX (QM eJ G args s below z0 u0) G p l e s m args below meth c 0 z0 u0 4 (lpn F_Md_orders n (0, v0I, 0, 0, σ)) 0 [(0, .int v0I)] [] σ) ∧
  (∀ (v0I : Int32) (v1J : Int64) (v3I : Int32) (σ : AM), VX (QM eJ G args s below z0 u0) G p l e s m args below meth c 0 z0 u0 4 (lpn F_Md_orders n (1, v0I, v1J, v3I, σ)) 4 [(0, .int v0I), (1, .long v1J), (3, .int v3I)] [] σ)
set_option maxRecDepth 20000 in
theorem s_Md_orders_0 {G : GX} {p : Program} {l : Launch} {e : Env} {s : State} {m : MethodId} {args : Array Value} {below : List Frame} {meth : Method} {c : Code} {z0 u0 n : Nat} (C : Cx G p s m args meth c prog_14_method_113_code 4 "BellPlateModel" ((some FieldType.long))) (IH : I_Md_orders G p l e s m args below meth c z0 u0 n) (v0I : Int32) (σ : AM) : VX (QM eJ G args s below z0 u0) G p l e s m args below meth c 0 z0 u0 4 (lpK (lpn F_Md_orders n) (T_Md_orders_0 v0I σ)) 0 [(0, .int v0I)] [] σ := by
  unfold T_Md_orders_0
  refine x_lconst (v := (1 : Int64)) C d_Md_orders_0 (by decide) ?_
  refine x_lstore_n (lv' := [(1, .long (1 : Int64)), (0, .int v0I)]) C d_Md_orders_1 (by decide) rfl rfl ?_
  refine x_iconst (v := (2 : Int32)) C d_Md_orders_2 (by decide) ?_
  refine x_istore_n (lv' := [(3, .int (2 : Int32)), (1, .long (1 : Int64)), (0, .int v0I)]) C d_Md_orders_3 (by decide) rfl rfl ?_
  refine x_lv [2, 1, 0] rfl ?_
  exact IH.2 v0I ((1 : Int64)) ((2 : Int32)) (σ)
set_option maxRecDepth 20000 in
theorem s_Md_orders_1 {G : GX} {p : Program} {l : Launch} {e : Env} {s : State} {m : MethodId} {args : Array Value} {below : List Frame} {meth : Method} {c : Code} {z0 u0 n : Nat} (C : Cx G p s m args meth c prog_14_method_113_code 4 "BellPlateModel" ((some FieldType.long))) (IH : I_Md_orders G p l e s m args below meth c z0 u0 n) (v0I : Int32) (v1J : Int64) (v3I : Int32) (σ : AM) : VX (QM eJ G args s below z0 u0) G p l e s m args below meth c 0 z0 u0 4 (lpK (lpn F_Md_orders n) (T_Md_orders_1 v0I v1J v3I σ)) 4 [(0, .int v0I), (1, .long v1J), (3, .int v3I)] [] σ := by
  unfold T_Md_orders_1
  refine x_iload_n C d_Md_orders_4 2 rfl ?_
  refine x_iload_n C d_Md_orders_5 0 rfl ?_
  refine x_icmp_gt (tgt := 20) C d_Md_orders_6 (by decide) (fun _ => ?_) (fun _ => ?_)
  · refine x_lload_n C d_Md_orders_20 1 rfl ?_
    exact x_lret C d_Md_orders_21
  · refine x_lload_n C d_Md_orders_9 1 rfl ?_
    refine x_iload_n C d_Md_orders_10 2 rfl ?_
    refine x_i2l C d_Md_orders_11 ?_
    refine x_lmul C d_Md_orders_12 ?_
    refine x_letJ (fun x1 _ => ?_)
    refine x_lstore_n (lv' := [(1, .long x1), (0, .int v0I), (3, .int v3I)]) C d_Md_orders_13 (by decide) rfl rfl ?_
    refine x_iinc (v := v3I + (1 : Int32)) (lv' := [(3, .int (v3I + (1 : Int32))), (1, .long x1), (0, .int v0I)]) C d_Md_orders_14 2 rfl rfl (by decide) rfl ?_
    refine x_goto (tgt := 4) C d_Md_orders_17 (by decide) ?_
    refine x_lv [2, 1, 0] rfl ?_
    exact IH.2 v0I x1 (v3I + (1 : Int32)) (σ)
theorem i_Md_orders {G : GX} {p : Program} {l : Launch} {e : Env} {s : State} {m : MethodId} {args : Array Value} {below : List Frame} {meth : Method} {c : Code} {z0 u0 : Nat} (C : Cx G p s m args meth c prog_14_method_113_code 4 "BellPlateModel" ((some FieldType.long))) (n : Nat) : I_Md_orders G p l e s m args below meth c z0 u0 n := by
  induction n with
  | zero => exact ⟨fun _ _ => x_none, fun _ _ _ _ => x_none⟩
  | succ n IH => exact ⟨fun v0I σ => s_Md_orders_0 C IH v0I σ, fun v0I v1J v3I σ => s_Md_orders_1 C IH v0I v1J v3I σ⟩
theorem c_Md_orders (G : GX) (l : Launch) (v0I : Int32) (σ : AM) : CT eJ G l 0 y_Md_orders prog_14_method_113_code 4 ((some FieldType.long)) [.int v0I] σ (M_Md_orders v0I σ) := by
  refine ct_of (by decide +kernel) (Nat.le_of_ble_eq_true rfl) (fun p e s m args below meth c C hin => ?_)
  refine x_lve (lv' := [(0, .int v0I)]) rfl ?_
  intro r σ' h
  obtain ⟨n, hn⟩ := (lp_iff _ _ _).mp h
  exact (i_Md_orders C n).1 v0I σ r σ' hn
/-! BellPlateModel.swingsIt(JII)Z -/
abbrev y_Md_swingsIt : MethodName := ⟨"BellPlateModel", "swingsIt", "(JII)Z"⟩
theorem k_Md_swingsIt : y_Md_swingsIt.cls ≠ "java/lang/invoke/MethodHandle" ∧ y_Md_swingsIt.cls ≠ "java/lang/invoke/VarHandle" ∧ (parseMethodDescriptor y_Md_swingsIt.desc).map (fun d => d.parameters.length) = some 3 := by decide +kernel
theorem d_Md_swingsIt_0 : decode prog_14_method_114_code 0 = .ok (.iload 4, 2) := by decide +kernel
theorem d_Md_swingsIt_2 : decode prog_14_method_114_code 2 = .ok (.iload_n 3, 1) := by decide +kernel
theorem d_Md_swingsIt_3 : decode prog_14_method_114_code 3 = .ok (.ishr, 1) := by decide +kernel
theorem d_Md_swingsIt_4 : decode prog_14_method_114_code 4 = .ok (.iconst 1, 1) := by decide +kernel
theorem d_Md_swingsIt_5 : decode prog_14_method_114_code 5 = .ok (.iand, 1) := by decide +kernel
theorem d_Md_swingsIt_6 : decode prog_14_method_114_code 6 = .ok (.ifCond .ne 29, 3) := by decide +kernel
theorem d_Md_swingsIt_9 : decode prog_14_method_114_code 9 = .ok (.lload_n 1, 1) := by decide +kernel
theorem d_Md_swingsIt_10 : decode prog_14_method_114_code 10 = .ok (.iload 4, 2) := by decide +kernel
theorem d_Md_swingsIt_12 : decode prog_14_method_114_code 12 = .ok (.invokestatic 357, 3) := by decide +kernel
theorem d_Md_swingsIt_15 : decode prog_14_method_114_code 15 = .ok (.ifCond .ne 20, 3) := by decide +kernel
theorem d_Md_swingsIt_18 : decode prog_14_method_114_code 18 = .ok (.lload_n 1, 1) := by decide +kernel
theorem d_Md_swingsIt_19 : decode prog_14_method_114_code 19 = .ok (.iload 4, 2) := by decide +kernel
theorem d_Md_swingsIt_21 : decode prog_14_method_114_code 21 = .ok (.iconst 1, 1) := by decide +kernel
theorem d_Md_swingsIt_22 : decode prog_14_method_114_code 22 = .ok (.iload_n 3, 1) := by decide +kernel
theorem d_Md_swingsIt_23 : decode prog_14_method_114_code 23 = .ok (.ishl, 1) := by decide +kernel
theorem d_Md_swingsIt_24 : decode prog_14_method_114_code 24 = .ok (.ior, 1) := by decide +kernel
theorem d_Md_swingsIt_25 : decode prog_14_method_114_code 25 = .ok (.invokestatic 357, 3) := by decide +kernel
theorem d_Md_swingsIt_28 : decode prog_14_method_114_code 28 = .ok (.ifCond .eq 7, 3) := by decide +kernel
theorem d_Md_swingsIt_31 : decode prog_14_method_114_code 31 = .ok (.iconst 1, 1) := by decide +kernel
theorem d_Md_swingsIt_32 : decode prog_14_method_114_code 32 = .ok (.goto 4, 3) := by decide +kernel
theorem d_Md_swingsIt_35 : decode prog_14_method_114_code 35 = .ok (.iconst 0, 1) := by decide +kernel
theorem d_Md_swingsIt_36 : decode prog_14_method_114_code 36 = .ok (.ireturn, 1) := by decide +kernel
abbrev S_Md_swingsIt : Type := Nat × Int64 × Int32 × Int32 × Int32 × AM
noncomputable def T_Md_swingsIt_0 (v0R : Nat) (v1J : Int64) (v3I : Int32) (v4I : Int32) (σ : AM) : S_Md_swingsIt ⊕ Option (Int32 × AM) :=
  if ((v4I >>> (v3I &&& 31)) &&& (1 : Int32)) = 0 then (bndT (M_Md_doesRing v1J v4I σ) fun r1 σ2 => if r1 = 0 then (bndT (M_Md_doesRing v1J (v4I ||| ((1 : Int32) <<< (v3I &&& 31))) σ2) fun r3 σ4 => if r3 = 0 then (.inl (1, 0, 0, 0, 0, σ4)) else (.inl (2, 0, 0, 0, (1 : Int32), σ4))) else (.inl (1, 0, 0, 0, 0, σ2))) else (.inl (1, 0, 0, 0, 0, σ))
noncomputable def T_Md_swingsIt_1  (σ : AM) : S_Md_swingsIt ⊕ Option (Int32 × AM) :=
  .inl (2, 0, 0, 0, (0 : Int32), σ)
noncomputable def T_Md_swingsIt_2 (s0I : Int32) (σ : AM) : S_Md_swingsIt ⊕ Option (Int32 × AM) :=
  gdT (isB s0I) <| .inr (some (s0I, σ))
noncomputable def F_Md_swingsIt : S_Md_swingsIt → S_Md_swingsIt ⊕ Option (Int32 × AM) := fun s => match s.1 with
  | 0 => T_Md_swingsIt_0 0 (s.2.1) (s.2.2.1) (s.2.2.2.1) (s.2.2.2.2.2)
  | 1 => T_Md_swingsIt_1  (s.2.2.2.2.2)
  | _ => T_Md_swingsIt_2 (s.2.2.2.2.1) (s.2.2.2.2.2)
noncomputable def L_Md_swingsIt_0 (v1J : Int64) (v3I : Int32) (v4I : Int32) (σ : AM) : Option (Int32 × AM) := lp F_Md_swingsIt (0, v1J, v3I, v4I, 0, σ)
noncomputable def L_Md_swingsIt_1  (σ : AM) : Option (Int32 × AM) := lp F_Md_swingsIt (1, 0, 0, 0, 0, σ)
noncomputable def L_Md_swingsIt_2 (s0I : Int32) (σ : AM) : Option (Int32 × AM) := lp F_Md_swingsIt (2, 0, 0, 0, s0I, σ)
set_option maxRecDepth 20000 in
theorem E_Md_swingsIt_0 (v1J : Int64) (v3I : Int32) (v4I : Int32) (σ : AM) : L_Md_swingsIt_0 v1J v3I v4I σ = (if ((v4I >>> (v3I &&& 31)) &&& (1 : Int32)) = 0 then (bnd (M_Md_doesRing v1J v4I σ) fun r1 σ2 => if r1 = 0 then (bnd (M_Md_doesRing v1J (v4I ||| ((1 : Int32) <<< (v3I &&& 31))) σ2) fun r3 σ4 => if r3 = 0 then (L_Md_swingsIt_1 σ4) else (L_Md_swingsIt_2 ((1 : Int32)) σ4)) else (L_Md_swingsIt_1 σ2)) else (L_Md_swingsIt_1 σ)) := by
  unfold L_Md_swingsIt_0
  rw [lp_eq]
  show lpK (lp F_Md_swingsIt) (T_Md_swingsIt_0 0 v1J v3I v4I σ) = _
  unfold T_Md_swingsIt_0
  simp only [lpK_ite, lq_inl, lq_inr, lpK_bnd, lpK_gd, lq_let]
  try rfl
set_option maxRecDepth 20000 in
theorem E_Md_swingsIt_1  (σ : AM) : L_Md_swingsIt_1  σ = (L_Md_swingsIt_2 ((0 : Int32)) σ) := by
  unfold L_Md_swingsIt_1
  rw [lp_eq]
  show lpK (lp F_Md_swingsIt) (T_Md_swingsIt_1  σ) = _
  unfold T_Md_swingsIt_1
  simp only [lpK_ite, lq_inl, lq_inr, lpK_bnd, lpK_gd, lq_let]
  try rfl
set_option maxRecDepth 20000 in
theorem E_Md_swingsIt_2 (s0I : Int32) (σ : AM) : L_Md_swingsIt_2 s0I σ = (gd (isB s0I) <| (some (s0I, σ))) := by
  unfold L_Md_swingsIt_2
  rw [lp_eq]
  show lpK (lp F_Md_swingsIt) (T_Md_swingsIt_2 s0I σ) = _
  unfold T_Md_swingsIt_2
  simp only [lpK_ite, lq_inl, lq_inr, lpK_bnd, lpK_gd, lq_let]
  try rfl
noncomputable def M_Md_swingsIt (v0R : Nat) (v1J : Int64) (v3I : Int32) (v4I : Int32) (σ : AM) : Option (Int32 × AM) := mw σ (L_Md_swingsIt_0 v1J v3I v4I σ)
def I_Md_swingsIt (G : GX) (p : Program) (l : Launch) (e : Env) (s : State) (m : MethodId) (args : Array Value) (below : List Frame) (meth : Method) (c : Code) (z0 u0 n : Nat) : Prop :=
  (∀ (v1J : Int64) (v3I : Int32) (v4I : Int32) (σ : AM), VX (QM eI G args s below z0 u0) G p l e s m args below meth c 1 z0 u0 5 (lpn F_Md_swingsIt n (0, v1J, v3I, v4I, 0, σ)) 0 [(1, .long v1J), (3, .int v3I), (4, .int v4I)] [] σ) ∧
  (∀ (σ : AM), VX (QM eI G args s below z0 u0) G p l e s m args below meth c 1 z0 u0 5 (lpn F_Md_swingsIt n (1, 0, 0, 0, 0, σ)) 35 [] [] σ) ∧
  (∀ (s0I : Int32) (σ : AM), VX (QM eI G args s below z0 u0) G p l e s m args below meth c 1 z0 u0 5 (lpn F_Md_swingsIt n (2, 0, 0, 0, s0I, σ)) 36 [] [.int s0I] σ)
set_option maxRecDepth 20000 in
theorem s_Md_swingsIt_0 {G : GX} {p : Program} {l : Launch} {e : Env} {s : State} {m : MethodId} {args : Array Value} {below : List Frame} {meth : Method} {c : Code} {z0 u0 n : Nat} (C : Cx G p s m args meth c prog_14_method_114_code 5 "BellPlateModel" ((some FieldType.boolean))) (IH : I_Md_swingsIt G p l e s m args below meth c z0 u0 n) (v1J : Int64) (v3I : Int32) (v4I : Int32) (σ : AM) : VX (QM eI G args s below z0 u0) G p l e s m args below meth c 1 z0 u0 5 (lpK (lpn F_Md_swingsIt n) (T_Md_swingsIt_0 0 v1J v3I v4I σ)) 0 [(1, .long v1J), (3, .int v3I), (4, .int v4I)] [] σ := by
  unfold T_Md_swingsIt_0
  refine x_iload C d_Md_swingsIt_0 2 rfl ?_
  refine x_iload_n C d_Md_swingsIt_2 1 rfl ?_
  refine x_ishr C d_Md_swingsIt_3 ?_
  refine x_iconst (v := (1 : Int32)) C d_Md_swingsIt_4 (by decide) ?_
  refine x_iand C d_Md_swingsIt_5 ?_
  refine x_if_ne (tgt := 35) C d_Md_swingsIt_6 (by decide) (fun _ => ?_) (fun _ => ?_)
  · refine x_lload_n C d_Md_swingsIt_9 0 rfl ?_
    refine x_iload C d_Md_swingsIt_10 2 rfl ?_
    refine x_callSI (As := [.long v1J, .int v4I]) C (c_Md_doesRing G l v1J v4I σ) w2235 w2234 w2236 w134 k_Md_doesRing rfl (by decide) (by decide) rfl (Nat.le_of_ble_eq_true rfl) d_Md_swingsIt_12 (fun r1 σ2 => ?_)
    refine x_if_ne (tgt := 35) C d_Md_swingsIt_15 (by decide) (fun _ => ?_) (fun _ => ?_)
    · refine x_lload_n C d_Md_swingsIt_18 0 rfl ?_
      refine x_iload C d_Md_swingsIt_19 2 rfl ?_
      refine x_iconst (v := (1 : Int32)) C d_Md_swingsIt_21 (by decide) ?_
      refine x_iload_n C d_Md_swingsIt_22 1 rfl ?_
      refine x_ishl C d_Md_swingsIt_23 ?_
      refine x_ior C d_Md_swingsIt_24 ?_
      refine x_callSI (As := [.long v1J, .int (v4I ||| ((1 : Int32) <<< (v3I &&& 31)))]) C (c_Md_doesRing G l v1J (v4I ||| ((1 : Int32) <<< (v3I &&& 31))) σ2) w2235 w2234 w2236 w134 k_Md_doesRing rfl (by decide) (by decide) rfl (Nat.le_of_ble_eq_true rfl) d_Md_swingsIt_25 (fun r3 σ4 => ?_)
      refine x_if_eq (tgt := 35) C d_Md_swingsIt_28 (by decide) (fun _ => ?_) (fun _ => ?_)
      · refine x_lv [] rfl ?_
        exact IH.2.1  (σ4)
      · refine x_iconst (v := (1 : Int32)) C d_Md_swingsIt_31 (by decide) ?_
        refine x_goto (tgt := 36) C d_Md_swingsIt_32 (by decide) ?_
        refine x_lv [] rfl ?_
        exact IH.2.2 ((1 : Int32)) (σ4)
    · refine x_lv [] rfl ?_
      exact IH.2.1  (σ2)
  · refine x_lv [] rfl ?_
    exact IH.2.1  (σ)
set_option maxRecDepth 20000 in
theorem s_Md_swingsIt_1 {G : GX} {p : Program} {l : Launch} {e : Env} {s : State} {m : MethodId} {args : Array Value} {below : List Frame} {meth : Method} {c : Code} {z0 u0 n : Nat} (C : Cx G p s m args meth c prog_14_method_114_code 5 "BellPlateModel" ((some FieldType.boolean))) (IH : I_Md_swingsIt G p l e s m args below meth c z0 u0 n)  (σ : AM) : VX (QM eI G args s below z0 u0) G p l e s m args below meth c 1 z0 u0 5 (lpK (lpn F_Md_swingsIt n) (T_Md_swingsIt_1  σ)) 35 [] [] σ := by
  unfold T_Md_swingsIt_1
  refine x_iconst (v := (0 : Int32)) C d_Md_swingsIt_35 (by decide) ?_
  exact IH.2.2 ((0 : Int32)) (σ)
set_option maxRecDepth 20000 in
theorem s_Md_swingsIt_2 {G : GX} {p : Program} {l : Launch} {e : Env} {s : State} {m : MethodId} {args : Array Value} {below : List Frame} {meth : Method} {c : Code} {z0 u0 n : Nat} (C : Cx G p s m args meth c prog_14_method_114_code 5 "BellPlateModel" ((some FieldType.boolean))) (IH : I_Md_swingsIt G p l e s m args below meth c z0 u0 n) (s0I : Int32) (σ : AM) : VX (QM eI G args s below z0 u0) G p l e s m args below meth c 1 z0 u0 5 (lpK (lpn F_Md_swingsIt n) (T_Md_swingsIt_2 s0I σ)) 36 [] [.int s0I] σ := by
  unfold T_Md_swingsIt_2
  refine x_gd (fun h1 => ?_)
  exact x_zret C (isB_narrow h1) d_Md_swingsIt_36
theorem i_Md_swingsIt {G : GX} {p : Program} {l : Launch} {e : Env} {s : State} {m : MethodId} {args : Array Value} {below : List Frame} {meth : Method} {c : Code} {z0 u0 : Nat} (C : Cx G p s m args meth c prog_14_method_114_code 5 "BellPlateModel" ((some FieldType.boolean))) (n : Nat) : I_Md_swingsIt G p l e s m args below meth c z0 u0 n := by
  induction n with
  | zero => exact ⟨fun _ _ _ _ => x_none, fun _ => x_none, fun _ _ => x_none⟩
  | succ n IH => exact ⟨fun v1J v3I v4I σ => s_Md_swingsIt_0 C IH v1J v3I v4I σ, fun σ => s_Md_swingsIt_1 C IH σ, fun s0I σ => s_Md_swingsIt_2 C IH s0I σ⟩
theorem c_Md_swingsIt (G : GX) (l : Launch) (v0R : Nat) (v1J : Int64) (v3I : Int32) (v4I : Int32) (σ : AM) : CT eI G l 1 y_Md_swingsIt prog_14_method_114_code 5 ((some FieldType.boolean)) [.ref v0R, .long v1J, .int v3I, .int v4I] σ (M_Md_swingsIt v0R v1J v3I v4I σ) := by
  refine ct_of (by decide +kernel) (Nat.le_of_ble_eq_true rfl) (fun p e s m args below meth c C hin => ?_)
  refine x_lve (lv' := [(0, .ref v0R), (1, .long v1J), (3, .int v3I), (4, .int v4I)]) rfl ?_
  refine x_lv [1, 2, 3] rfl ?_; intro r σ' h
  obtain ⟨n, hn⟩ := (lp_iff _ _ _).mp h
  exact (i_Md_swingsIt C n).1 v1J v3I v4I σ r σ' hn
/-! BellPlateModel.vote(III)I -/
abbrev y_Md_vote : MethodName := ⟨"BellPlateModel", "vote", "(III)I"⟩
theorem k_Md_vote : y_Md_vote.cls ≠ "java/lang/invoke/MethodHandle" ∧ y_Md_vote.cls ≠ "java/lang/invoke/VarHandle" ∧ (parseMethodDescriptor y_Md_vote.desc).map (fun d => d.parameters.length) = some 3 := by decide +kernel
theorem d_Md_vote_0 : decode prog_14_method_115_code 0 = .ok (.aload_n 0, 1) := by decide +kernel
theorem d_Md_vote_1 : decode prog_14_method_115_code 1 = .ok (.iconst 0, 1) := by decide +kernel
theorem d_Md_vote_2 : decode prog_14_method_115_code 2 = .ok (.putfield 1, 3) := by decide +kernel
theorem d_Md_vote_5 : decode prog_14_method_115_code 5 = .ok (.aload_n 0, 1) := by decide +kernel
theorem d_Md_vote_6 : decode prog_14_method_115_code 6 = .ok (.iload_n 1, 1) := by decide +kernel
theorem d_Md_vote_7 : decode prog_14_method_115_code 7 = .ok (.invokevirtual 337, 3) := by decide +kernel
theorem d_Md_vote_10 : decode prog_14_method_115_code 10 = .ok (.ifCond .eq 18, 3) := by decide +kernel
theorem d_Md_vote_13 : decode prog_14_method_115_code 13 = .ok (.aload_n 0, 1) := by decide +kernel
theorem d_Md_vote_14 : decode prog_14_method_115_code 14 = .ok (.iload_n 2, 1) := by decide +kernel
theorem d_Md_vote_15 : decode prog_14_method_115_code 15 = .ok (.invokevirtual 393, 3) := by decide +kernel
theorem d_Md_vote_18 : decode prog_14_method_115_code 18 = .ok (.ifCond .eq 10, 3) := by decide +kernel
theorem d_Md_vote_21 : decode prog_14_method_115_code 21 = .ok (.iload_n 3, 1) := by decide +kernel
theorem d_Md_vote_22 : decode prog_14_method_115_code 22 = .ok (.invokestatic 453, 3) := by decide +kernel
theorem d_Md_vote_25 : decode prog_14_method_115_code 25 = .ok (.ifCond .ne 5, 3) := by decide +kernel
theorem d_Md_vote_28 : decode prog_14_method_115_code 28 = .ok (.iconst (-1), 1) := by decide +kernel
theorem d_Md_vote_29 : decode prog_14_method_115_code 29 = .ok (.ireturn, 1) := by decide +kernel
theorem d_Md_vote_30 : decode prog_14_method_115_code 30 = .ok (.lconst 0, 1) := by decide +kernel
theorem d_Md_vote_31 : decode prog_14_method_115_code 31 = .ok (.lstore 4, 2) := by decide +kernel
theorem d_Md_vote_33 : decode prog_14_method_115_code 33 = .ok (.iconst 0, 1) := by decide +kernel
theorem d_Md_vote_34 : decode prog_14_method_115_code 34 = .ok (.istore 6, 2) := by decide +kernel
theorem d_Md_vote_36 : decode prog_14_method_115_code 36 = .ok (.iload 6, 2) := by decide +kernel
theorem d_Md_vote_38 : decode prog_14_method_115_code 38 = .ok (.aload_n 0, 1) := by decide +kernel
theorem d_Md_vote_39 : decode prog_14_method_115_code 39 = .ok (.invokevirtual 306, 3) := by decide +kernel
theorem d_Md_vote_42 : decode prog_14_method_115_code 42 = .ok (.if_icmp .ge 58, 3) := by decide +kernel
theorem d_Md_vote_45 : decode prog_14_method_115_code 45 = .ok (.lload 4, 2) := by decide +kernel
theorem d_Md_vote_47 : decode prog_14_method_115_code 47 = .ok (.aload_n 0, 1) := by decide +kernel
theorem d_Md_vote_48 : decode prog_14_method_115_code 48 = .ok (.aload_n 0, 1) := by decide +kernel
theorem d_Md_vote_49 : decode prog_14_method_115_code 49 = .ok (.getfield 75, 3) := by decide +kernel
theorem d_Md_vote_52 : decode prog_14_method_115_code 52 = .ok (.iload_n 1, 1) := by decide +kernel
theorem d_Md_vote_53 : decode prog_14_method_115_code 53 = .ok (.laload, 1) := by decide +kernel
theorem d_Md_vote_54 : decode prog_14_method_115_code 54 = .ok (.iload_n 2, 1) := by decide +kernel
theorem d_Md_vote_55 : decode prog_14_method_115_code 55 = .ok (.iload 6, 2) := by decide +kernel
theorem d_Md_vote_57 : decode prog_14_method_115_code 57 = .ok (.invokevirtual 535, 3) := by decide +kernel
theorem d_Md_vote_60 : decode prog_14_method_115_code 60 = .ok (.ifCond .eq 30, 3) := by decide +kernel
theorem d_Md_vote_63 : decode prog_14_method_115_code 63 = .ok (.iload 6, 2) := by decide +kernel
theorem d_Md_vote_65 : decode prog_14_method_115_code 65 = .ok (.invokestatic 354, 3) := by decide +kernel
theorem d_Md_vote_68 : decode prog_14_method_115_code 68 = .ok (.invokestatic 538, 3) := by decide +kernel
theorem d_Md_vote_71 : decode prog_14_method_115_code 71 = .ok (.aload_n 0, 1) := by decide +kernel
theorem d_Md_vote_72 : decode prog_14_method_115_code 72 = .ok (.getfield 239, 3) := by decide +kernel
theorem d_Md_vote_75 : decode prog_14_method_115_code 75 = .ok (.iload 6, 2) := by decide +kernel
theorem d_Md_vote_77 : decode prog_14_method_115_code 77 = .ok (.invokestatic 354, 3) := by decide +kernel
theorem d_Md_vote_80 : decode prog_14_method_115_code 80 = .ok (.isub, 1) := by decide +kernel
theorem d_Md_vote_81 : decode prog_14_method_115_code 81 = .ok (.iconst 1, 1) := by decide +kernel
theorem d_Md_vote_82 : decode prog_14_method_115_code 82 = .ok (.isub, 1) := by decide +kernel
theorem d_Md_vote_83 : decode prog_14_method_115_code 83 = .ok (.invokestatic 538, 3) := by decide +kernel
theorem d_Md_vote_86 : decode prog_14_method_115_code 86 = .ok (.lmul, 1) := by decide +kernel
theorem d_Md_vote_87 : decode prog_14_method_115_code 87 = .ok (.goto 4, 3) := by decide +kernel
theorem d_Md_vote_90 : decode prog_14_method_115_code 90 = .ok (.lconst 0, 1) := by decide +kernel
theorem d_Md_vote_91 : decode prog_14_method_115_code 91 = .ok (.ladd, 1) := by decide +kernel
theorem d_Md_vote_92 : decode prog_14_method_115_code 92 = .ok (.lstore 4, 2) := by decide +kernel
theorem d_Md_vote_94 : decode prog_14_method_115_code 94 = .ok (.iinc 6 1, 3) := by decide +kernel
theorem d_Md_vote_97 : decode prog_14_method_115_code 97 = .ok (.goto (-61), 3) := by decide +kernel
theorem d_Md_vote_100 : decode prog_14_method_115_code 100 = .ok (.lload 4, 2) := by decide +kernel
theorem d_Md_vote_102 : decode prog_14_method_115_code 102 = .ok (.aload_n 0, 1) := by decide +kernel
theorem d_Md_vote_103 : decode prog_14_method_115_code 103 = .ok (.getfield 239, 3) := by decide +kernel
theorem d_Md_vote_106 : decode prog_14_method_115_code 106 = .ok (.invokestatic 538, 3) := by decide +kernel
theorem d_Md_vote_109 : decode prog_14_method_115_code 109 = .ok (.iload_n 3, 1) := by decide +kernel
theorem d_Md_vote_110 : decode prog_14_method_115_code 110 = .ok (.invokestatic 456, 3) := by decide +kernel
theorem d_Md_vote_113 : decode prog_14_method_115_code 113 = .ok (.ireturn, 1) := by decide +kernel
abbrev S_Md_vote : Type := Nat × Nat × Int32 × Int32 × Int32 × Int64 × Int32 × Int64 × Int64 × AM
noncomputable def T_Md_vote_0 (v0R : Nat) (v1I : Int32) (v2I : Int32) (v3I : Int32) (σ : AM) : S_Md_vote ⊕ Option (Int32 × AM) :=
  gdT (okO σ v0R 12) <| letT (sI σ v0R 0 (0 : Int32)) fun σ2 => bndT (M_Md_isWeights v0R v1I σ2) fun r4 σ5 => if r4 = 0 then (.inl (1, 0, 0, 0, 0, 0, 0, 0, 0, σ5)) else (gdT (okO σ5 v0R 12) <| bndT (M_Md_isThing v0R v2I σ5) fun r6 σ7 => if r6 = 0 then (.inl (1, 0, 0, 0, 0, 0, 0, 0, 0, σ7)) else (bndT (M_Md_isWhat v3I σ7) fun r9 σ10 => if r9 = 0 then (.inl (1, 0, 0, 0, 0, 0, 0, 0, 0, σ10)) else (.inl (2, v0R, v1I, v2I, v3I, (0 : Int64), (0 : Int32), 0, 0, σ10))))
noncomputable def T_Md_vote_1  (σ : AM) : S_Md_vote ⊕ Option (Int32 × AM) :=
  .inr (some (((-1) : Int32), σ))
noncomputable def T_Md_vote_2 (v0R : Nat) (v1I : Int32) (v2I : Int32) (v3I : Int32) (v4J : Int64) (v6I : Int32) (σ : AM) : S_Md_vote ⊕ Option (Int32 × AM) :=
  gdT (okO σ v0R 12) <| bndT (M_Md_sets v0R σ) fun r1 σ2 => if v6I < r1 then (gdT (okO σ2 v0R 12) <| gdT (okO σ2 (aR σ2 v0R 27) 102) <| gdT (inB v1I (aN σ2 (aR σ2 v0R 27))) <| bndT (M_Md_swingsIt v0R (aL σ2 (aR σ2 v0R 27) v1I.toNatClampNeg) v2I v6I σ2) fun r7 σ8 => if r7 = 0 then (.inl (3, v0R, v1I, v2I, v3I, 0, v6I, v4J, (0 : Int64), σ8)) else (bndT (M_Md_bits v6I σ8) fun r9 σ10 => bndT (M_Md_orders r9 σ10) fun r11 σ12 => gdT (okO σ12 v0R 12) <| bndT (M_Md_bits v6I σ12) fun r14 σ15 => bndT (M_Md_orders (((aI σ12 v0R 10) - r14) - (1 : Int32)) σ15) fun r16 σ17 => .inl (3, v0R, v1I, v2I, v3I, 0, v6I, v4J, r11 * r16, σ17))) else (gdT (okO σ2 v0R 12) <| bndT (M_Md_orders (aI σ2 v0R 10) σ2) fun r19 σ20 => bndT (M_Md_lowest v4J r19 v3I σ20) fun r21 σ22 => .inr (some (r21, σ22)))
noncomputable def T_Md_vote_3 (v0R : Nat) (v1I : Int32) (v2I : Int32) (v3I : Int32) (v6I : Int32) (s0J : Int64) (s1J : Int64) (σ : AM) : S_Md_vote ⊕ Option (Int32 × AM) :=
  letT (s0J + s1J) fun x1 => .inl (2, v0R, v1I, v2I, v3I, x1, v6I + (1 : Int32), 0, 0, σ)
noncomputable def F_Md_vote : S_Md_vote → S_Md_vote ⊕ Option (Int32 × AM) := fun s => match s.1 with
  | 0 => T_Md_vote_0 (s.2.1) (s.2.2.1) (s.2.2.2.1) (s.2.2.2.2.1) (s.2.2.2.2.2.2.2.2.2)
  | 1 => T_Md_vote_1  (s.2.2.2.2.2.2.2.2.2)
  | 2 => T_Md_vote_2 (s.2.1) (s.2.2.1) (s.2.2.2.1) (s.2.2.2.2.1) (s.2.2.2.2.2.1) (s.2.2.2.2.2.2.1) (s.2.2.2.2.2.2.2.2.2)
  | _ => T_Md_vote_3 (s.2.1) (s.2.2.1) (s.2.2.2.1) (s.2.2.2.2.1) (s.2.2.2.2.2.2.1) (s.2.2.2.2.2.2.2.1) (s.2.2.2.2.2.2.2.2.1) (s.2.2.2.2.2.2.2.2.2)
noncomputable def L_Md_vote_0 (v0R : Nat) (v1I : Int32) (v2I : Int32) (v3I : Int32) (σ : AM) : Option (Int32 × AM) := lp F_Md_vote (0, v0R, v1I, v2I, v3I, 0, 0, 0, 0, σ)
noncomputable def L_Md_vote_1  (σ : AM) : Option (Int32 × AM) := lp F_Md_vote (1, 0, 0, 0, 0, 0, 0, 0, 0, σ)
noncomputable def L_Md_vote_2 (v0R : Nat) (v1I : Int32) (v2I : Int32) (v3I : Int32) (v4J : Int64) (v6I : Int32) (σ : AM) : Option (Int32 × AM) := lp F_Md_vote (2, v0R, v1I, v2I, v3I, v4J, v6I, 0, 0, σ)
noncomputable def L_Md_vote_3 (v0R : Nat) (v1I : Int32) (v2I : Int32) (v3I : Int32) (v6I : Int32) (s0J : Int64) (s1J : Int64) (σ : AM) : Option (Int32 × AM) := lp F_Md_vote (3, v0R, v1I, v2I, v3I, 0, v6I, s0J, s1J, σ)
set_option maxRecDepth 20000 in
theorem E_Md_vote_0 (v0R : Nat) (v1I : Int32) (v2I : Int32) (v3I : Int32) (σ : AM) : L_Md_vote_0 v0R v1I v2I v3I σ = (gd (okO σ v0R 12) <| letT (sI σ v0R 0 (0 : Int32)) fun σ2 => bnd (M_Md_isWeights v0R v1I σ2) fun r4 σ5 => if r4 = 0 then (L_Md_vote_1 σ5) else (gd (okO σ5 v0R 12) <| bnd (M_Md_isThing v0R v2I σ5) fun r6 σ7 => if r6 = 0 then (L_Md_vote_1 σ7) else (bnd (M_Md_isWhat v3I σ7) fun r9 σ10 => if r9 = 0 then (L_Md_vote_1 σ10) else (L_Md_vote_2 v0R v1I v2I v3I ((0 : Int64)) ((0 : Int32)) σ10)))) := by
  unfold L_Md_vote_0
  rw [lp_eq]
  show lpK (lp F_Md_vote) (T_Md_vote_0 v0R v1I v2I v3I σ) = _
  unfold T_Md_vote_0
  simp only [lpK_ite, lq_inl, lq_inr, lpK_bnd, lpK_gd, lq_let]
  try rfl
set_option maxRecDepth 20000 in
theorem E_Md_vote_1  (σ : AM) : L_Md_vote_1  σ = ((some (((-1) : Int32), σ))) := by
  unfold L_Md_vote_1
  rw [lp_eq]
  show lpK (lp F_Md_vote) (T_Md_vote_1  σ) = _
  unfold T_Md_vote_1
  simp only [lpK_ite, lq_inl, lq_inr, lpK_bnd, lpK_gd, lq_let]
  try rfl
set_option maxRecDepth 20000 in
theorem E_Md_vote_2 (v0R : Nat) (v1I : Int32) (v2I : Int32) (v3I : Int32) (v4J : Int64) (v6I : Int32) (σ : AM) : L_Md_vote_2 v0R v1I v2I v3I v4J v6I σ = (gd (okO σ v0R 12) <| bnd (M_Md_sets v0R σ) fun r1 σ2 => if v6I < r1 then (gd (okO σ2 v0R 12) <| gd (okO σ2 (aR σ2 v0R 27) 102) <| gd (inB v1I (aN σ2 (aR σ2 v0R 27))) <| bnd (M_Md_swingsIt v0R (aL σ2 (aR σ2 v0R 27) v1I.toNatClampNeg) v2I v6I σ2) fun r7 σ8 => if r7 = 0 then (L_Md_vote_3 v0R v1I v2I v3I v6I v4J ((0 : Int64)) σ8) else (bnd (M_Md_bits v6I σ8) fun r9 σ10 => bnd (M_Md_orders r9 σ10) fun r11 σ12 => gd (okO σ12 v0R 12) <| bnd (M_Md_bits v6I σ12) fun r14 σ15 => bnd (M_Md_orders (((aI σ12 v0R 10) - r14) - (1 : Int32)) σ15) fun r16 σ17 => L_Md_vote_3 v0R v1I v2I v3I v6I v4J (r11 * r16) σ17)) else (gd (okO σ2 v0R 12) <| bnd (M_Md_orders (aI σ2 v0R 10) σ2) fun r19 σ20 => bnd (M_Md_lowest v4J r19 v3I σ20) fun r21 σ22 => (some (r21, σ22)))) := by
  unfold L_Md_vote_2
  rw [lp_eq]
  show lpK (lp F_Md_vote) (T_Md_vote_2 v0R v1I v2I v3I v4J v6I σ) = _
  unfold T_Md_vote_2
  simp only [lpK_ite, lq_inl, lq_inr, lpK_bnd, lpK_gd, lq_let]
  try rfl
set_option maxRecDepth 20000 in
theorem E_Md_vote_3 (v0R : Nat) (v1I : Int32) (v2I : Int32) (v3I : Int32) (v6I : Int32) (s0J : Int64) (s1J : Int64) (σ : AM) : L_Md_vote_3 v0R v1I v2I v3I v6I s0J s1J σ = (letT (s0J + s1J) fun x1 => L_Md_vote_2 v0R v1I v2I v3I x1 (v6I + (1 : Int32)) σ) := by
  unfold L_Md_vote_3
  rw [lp_eq]
  show lpK (lp F_Md_vote) (T_Md_vote_3 v0R v1I v2I v3I v6I s0J s1J σ) = _
  unfold T_Md_vote_3
  simp only [lpK_ite, lq_inl, lq_inr, lpK_bnd, lpK_gd, lq_let]
  try rfl
noncomputable def M_Md_vote (v0R : Nat) (v1I : Int32) (v2I : Int32) (v3I : Int32) (σ : AM) : Option (Int32 × AM) := mw σ (L_Md_vote_0 v0R v1I v2I v3I σ)
def I_Md_vote (G : GX) (p : Program) (l : Launch) (e : Env) (s : State) (m : MethodId) (args : Array Value) (below : List Frame) (meth : Method) (c : Code) (z0 u0 n : Nat) : Prop :=
  (∀ (v0R : Nat) (v1I : Int32) (v2I : Int32) (v3I : Int32) (σ : AM), VX (QM eI G args s below z0 u0) G p l e s m args below meth c 2 z0 u0 7 (lpn F_Md_vote n (0, v0R, v1I, v2I, v3I, 0, 0, 0, 0, σ)) 0 [(0, .ref v0R), (1, .int v1I), (2, .int v2I), (3, .int v3I)] [] σ) ∧
  (∀ (σ : AM), VX (QM eI G args s below z0 u0) G p l e s m args below meth c 2 z0 u0 7 (lpn F_Md_vote n (1, 0, 0, 0, 0, 0, 0, 0, 0, σ)) 28 [] [] σ) ∧
  (∀ (v0R : Nat) (v1I : Int32) (v2I : Int32) (v3I : Int32) (v4J : Int64) (v6I : Int32) (σ : AM), VX (QM eI G args s below z0 u0) G p l e s m args below meth c 2 z0 u0 7 (lpn F_Md_vote n (2, v0R, v1I, v2I, v3I, v4J, v6I, 0, 0, σ)) 36 [(0, .ref v0R), (1, .int v1I), (2, .int v2I), (3, .int v3I), (4, .long v4J), (6, .int v6I)] [] σ) ∧
  (∀ (v0R : Nat) (v1I : Int32) (v2I : Int32) (v3I : Int32) (v6I : Int32) (s0J : Int64) (s1J : Int64) (σ : AM), VX (QM eI G args s below z0 u0) G p l e s m args below meth c 2 z0 u0 7 (lpn F_Md_vote n (3, v0R, v1I, v2I, v3I, 0, v6I, s0J, s1J, σ)) 91 [(0, .ref v0R), (1, .int v1I), (2, .int v2I), (3, .int v3I), (6, .int v6I)] [.long s1J, .long s0J] σ)
set_option maxRecDepth 20000 in
theorem s_Md_vote_0 {G : GX} {p : Program} {l : Launch} {e : Env} {s : State} {m : MethodId} {args : Array Value} {below : List Frame} {meth : Method} {c : Code} {z0 u0 n : Nat} (C : Cx G p s m args meth c prog_14_method_115_code 7 "BellPlateModel" ((some FieldType.int))) (IH : I_Md_vote G p l e s m args below meth c z0 u0 n) (v0R : Nat) (v1I : Int32) (v2I : Int32) (v3I : Int32) (σ : AM) : VX (QM eI G args s below z0 u0) G p l e s m args below meth c 2 z0 u0 7 (lpK (lpn F_Md_vote n) (T_Md_vote_0 v0R v1I v2I v3I σ)) 0 [(0, .ref v0R), (1, .int v1I), (2, .int v2I), (3, .int v3I)] [] σ := by
  unfold T_Md_vote_0
  refine x_aload_n C d_Md_vote_0 0 rfl ?_
  refine x_iconst (v := (0 : Int32)) C d_Md_vote_1 (by decide) ?_
  refine x_gd (fun h1 => ?_)
  refine x_putI (k := 0) C (okO_iff.mp h1) rfl j11_ok y11_ok n11_ok (by decide) rfl rfl rfl rfl w1852 d_Md_vote_2 ?_
  refine x_letS (fun σ2 e3 => ?_)
  refine x_aload_n C d_Md_vote_5 0 rfl ?_
  refine x_iload_n C d_Md_vote_6 1 rfl ?_
  refine x_callVI (As := [.int v1I]) C (c_Md_isWeights G l v0R v1I σ2) (by first | exact (okO_iff.mp h1) | (rw [e3]; exact (okO_iff.mp h1))) rfl w2182 w83 w2180 w2183 w134 k_Md_isWeights rfl (by decide) (by decide) rfl (Nat.le_of_ble_eq_true rfl) d_Md_vote_7 (fun r4 σ5 => ?_)
  refine x_if_eq (tgt := 28) C d_Md_vote_10 (by decide) (fun _ => ?_) (fun _ => ?_)
  · refine x_lv [] rfl ?_
    exact IH.2.1  (σ5)
  · refine x_aload_n C d_Md_vote_13 0 rfl ?_
    refine x_iload_n C d_Md_vote_14 2 rfl ?_
    refine x_gd (fun h8 => ?_)
    refine x_callVI (As := [.int v2I]) C (c_Md_isThing G l v0R v2I σ5) (okO_iff.mp h8) rfl w2258 w92 w2256 w2259 w134 k_Md_isThing rfl (by decide) (by decide) rfl (Nat.le_of_ble_eq_true rfl) d_Md_vote_15 (fun r6 σ7 => ?_)
    refine x_if_eq (tgt := 28) C d_Md_vote_18 (by decide) (fun _ => ?_) (fun _ => ?_)
    · refine x_lv [] rfl ?_
      exact IH.2.1  (σ7)
    · refine x_iload_n C d_Md_vote_21 3 rfl ?_
      refine x_callSI (As := [.int v3I]) C (c_Md_isWhat G l v3I σ7) w2328 w2327 w2329 w134 k_Md_isWhat rfl (by decide) (by decide) rfl (Nat.le_of_ble_eq_true rfl) d_Md_vote_22 (fun r9 σ10 => ?_)
      refine x_if_ne (tgt := 30) C d_Md_vote_25 (by decide) (fun _ => ?_) (fun _ => ?_)
      · refine x_lv [] rfl ?_
        exact IH.2.1  (σ10)
      · refine x_lconst (v := (0 : Int64)) C d_Md_vote_30 (by decide) ?_
        refine x_lstore (lv' := [(4, .long (0 : Int64)), (0, .ref v0R), (1, .int v1I), (2, .int v2I), (3, .int v3I)]) C d_Md_vote_31 (by decide) rfl ?_
        refine x_iconst (v := (0 : Int32)) C d_Md_vote_33 (by decide) ?_
        refine x_istore (lv' := [(6, .int (0 : Int32)), (4, .long (0 : Int64)), (0, .ref v0R), (1, .int v1I), (2, .int v2I), (3, .int v3I)]) C d_Md_vote_34 (by decide) rfl ?_
        refine x_lv [2, 3, 4, 5, 1, 0] rfl ?_
        exact IH.2.2.1 v0R v1I v2I v3I ((0 : Int64)) ((0 : Int32)) (σ10)
set_option maxRecDepth 20000 in
theorem s_Md_vote_1 {G : GX} {p : Program} {l : Launch} {e : Env} {s : State} {m : MethodId} {args : Array Value} {below : List Frame} {meth : Method} {c : Code} {z0 u0 n : Nat} (C : Cx G p s m args meth c prog_14_method_115_code 7 "BellPlateModel" ((some FieldType.int))) (IH : I_Md_vote G p l e s m args below meth c z0 u0 n)  (σ : AM) : VX (QM eI G args s below z0 u0) G p l e s m args below meth c 2 z0 u0 7 (lpK (lpn F_Md_vote n) (T_Md_vote_1  σ)) 28 [] [] σ := by
  unfold T_Md_vote_1
  refine x_iconst (v := ((-1) : Int32)) C d_Md_vote_28 (by decide) ?_
  exact x_iret C d_Md_vote_29
set_option maxRecDepth 20000 in
theorem s_Md_vote_2 {G : GX} {p : Program} {l : Launch} {e : Env} {s : State} {m : MethodId} {args : Array Value} {below : List Frame} {meth : Method} {c : Code} {z0 u0 n : Nat} (C : Cx G p s m args meth c prog_14_method_115_code 7 "BellPlateModel" ((some FieldType.int))) (IH : I_Md_vote G p l e s m args below meth c z0 u0 n) (v0R : Nat) (v1I : Int32) (v2I : Int32) (v3I : Int32) (v4J : Int64) (v6I : Int32) (σ : AM) : VX (QM eI G args s below z0 u0) G p l e s m args below meth c 2 z0 u0 7 (lpK (lpn F_Md_vote n) (T_Md_vote_2 v0R v1I v2I v3I v4J v6I σ)) 36 [(0, .ref v0R), (1, .int v1I), (2, .int v2I), (3, .int v3I), (4, .long v4J), (6, .int v6I)] [] σ := by
  unfold T_Md_vote_2
  refine x_iload C d_Md_vote_36 5 rfl ?_
  refine x_aload_n C d_Md_vote_38 0 rfl ?_
  refine x_gd (fun h3 => ?_)
  refine x_callVI (As := []) C (c_Md_sets G l v0R  σ) (okO_iff.mp h3) rfl w1826 w58 w1824 w1827 w134 k_Md_sets rfl (by decide) (by decide) rfl (Nat.le_of_ble_eq_true rfl) d_Md_vote_39 (fun r1 σ2 => ?_)
  refine x_icmp_ge (tgt := 100) C d_Md_vote_42 (by decide) (fun _ => ?_) (fun _ => ?_)
  · refine x_lload C d_Md_vote_45 4 rfl ?_
    refine x_aload_n C d_Md_vote_47 0 rfl ?_
    refine x_aload_n C d_Md_vote_48 0 rfl ?_
    refine x_gd (fun h4 => ?_)
    refine x_gd (fun h5 => ?_)
    refine x_getR (k := 27) (kv := 102) C (okO_iff.mp h4) rfl j11_ok (by decide) rfl (okO_iff.mp h5) (by decide) w1879 d_Md_vote_49 ?_
    refine x_iload_n C d_Md_vote_52 1 rfl ?_
    refine x_gd (fun h6 => ?_)
    refine x_aldJ C (okO_iff.mp h5) (inB_iff.mp h6) d_Md_vote_53 ?_
    refine x_iload_n C d_Md_vote_54 2 rfl ?_
    refine x_iload C d_Md_vote_55 5 rfl ?_
    refine x_callVI (As := [.long (aL σ2 (aR σ2 v0R 27) v1I.toNatClampNeg), .int v2I, .int v6I]) C (c_Md_swingsIt G l v0R (aL σ2 (aR σ2 v0R 27) v1I.toNatClampNeg) v2I v6I σ2) (okO_iff.mp h4) rfl w2467 w118 w2465 w2468 w134 k_Md_swingsIt rfl (by decide) (by decide) rfl (Nat.le_of_ble_eq_true rfl) d_Md_vote_57 (fun r7 σ8 => ?_)
    refine x_if_eq (tgt := 90) C d_Md_vote_60 (by decide) (fun _ => ?_) (fun _ => ?_)
    · refine x_lconst (v := (0 : Int64)) C d_Md_vote_90 (by decide) ?_
      refine x_lv [0, 1, 2, 3, 5] rfl ?_
      exact IH.2.2.2 v0R v1I v2I v3I v6I v4J ((0 : Int64)) (σ8)
    · refine x_iload C d_Md_vote_63 5 rfl ?_
      refine x_callSI (As := [.int v6I]) C (c_Md_bits G l v6I σ8) w2232 w2231 w2233 w134 k_Md_bits rfl (by decide) (by decide) rfl (Nat.le_of_ble_eq_true rfl) d_Md_vote_65 (fun r9 σ10 => ?_)
      refine x_callSJ (As := [.int r9]) C (c_Md_orders G l r9 σ10) w2470 w2469 w2471 w134 k_Md_orders rfl (by decide) (by decide) rfl (Nat.le_of_ble_eq_true rfl) d_Md_vote_68 (fun r11 σ12 => ?_)
      refine x_aload_n C d_Md_vote_71 0 rfl ?_
      refine x_gd (fun h13 => ?_)
      refine x_getI (k := 10) C (okO_iff.mp h13) rfl j11_ok (by decide) rfl w1862 d_Md_vote_72 ?_
      refine x_iload C d_Md_vote_75 5 rfl ?_
      refine x_callSI (As := [.int v6I]) C (c_Md_bits G l v6I σ12) w2232 w2231 w2233 w134 k_Md_bits rfl (by decide) (by decide) rfl (Nat.le_of_ble_eq_true rfl) d_Md_vote_77 (fun r14 σ15 => ?_)
      refine x_isub C d_Md_vote_80 ?_
      refine x_iconst (v := (1 : Int32)) C d_Md_vote_81 (by decide) ?_
      refine x_isub C d_Md_vote_82 ?_
      refine x_callSJ (As := [.int (((aI σ12 v0R 10) - r14) - (1 : Int32))]) C (c_Md_orders G l (((aI σ12 v0R 10) - r14) - (1 : Int32)) σ15) w2470 w2469 w2471 w134 k_Md_orders rfl (by decide) (by decide) rfl (Nat.le_of_ble_eq_true rfl) d_Md_vote_83 (fun r16 σ17 => ?_)
      refine x_lmul C d_Md_vote_86 ?_
      refine x_goto (tgt := 91) C d_Md_vote_87 (by decide) ?_
      refine x_lv [0, 1, 2, 3, 5] rfl ?_
      exact IH.2.2.2 v0R v1I v2I v3I v6I v4J (r11 * r16) (σ17)
  · refine x_lload C d_Md_vote_100 4 rfl ?_
    refine x_aload_n C d_Md_vote_102 0 rfl ?_
    refine x_gd (fun h18 => ?_)
    refine x_getI (k := 10) C (okO_iff.mp h18) rfl j11_ok (by decide) rfl w1862 d_Md_vote_103 ?_
    refine x_callSJ (As := [.int (aI σ2 v0R 10)]) C (c_Md_orders G l (aI σ2 v0R 10) σ2) w2470 w2469 w2471 w134 k_Md_orders rfl (by decide) (by decide) rfl (Nat.le_of_ble_eq_true rfl) d_Md_vote_106 (fun r19 σ20 => ?_)
    refine x_iload_n C d_Md_vote_109 3 rfl ?_
    refine x_callSI (As := [.long v4J, .long r19, .int v3I]) C (c_Md_lowest G l v4J r19 v3I σ20) w2331 w2330 w2332 w134 k_Md_lowest rfl (by decide) (by decide) rfl (Nat.le_of_ble_eq_true rfl) d_Md_vote_110 (fun r21 σ22 => ?_)
    exact x_iret C d_Md_vote_113
set_option maxRecDepth 20000 in
theorem s_Md_vote_3 {G : GX} {p : Program} {l : Launch} {e : Env} {s : State} {m : MethodId} {args : Array Value} {below : List Frame} {meth : Method} {c : Code} {z0 u0 n : Nat} (C : Cx G p s m args meth c prog_14_method_115_code 7 "BellPlateModel" ((some FieldType.int))) (IH : I_Md_vote G p l e s m args below meth c z0 u0 n) (v0R : Nat) (v1I : Int32) (v2I : Int32) (v3I : Int32) (v6I : Int32) (s0J : Int64) (s1J : Int64) (σ : AM) : VX (QM eI G args s below z0 u0) G p l e s m args below meth c 2 z0 u0 7 (lpK (lpn F_Md_vote n) (T_Md_vote_3 v0R v1I v2I v3I v6I s0J s1J σ)) 91 [(0, .ref v0R), (1, .int v1I), (2, .int v2I), (3, .int v3I), (6, .int v6I)] [.long s1J, .long s0J] σ := by
  unfold T_Md_vote_3
  refine x_ladd C d_Md_vote_91 ?_
  refine x_letJ (fun x1 _ => ?_)
  refine x_lstore (lv' := [(4, .long x1), (0, .ref v0R), (1, .int v1I), (2, .int v2I), (3, .int v3I), (6, .int v6I)]) C d_Md_vote_92 (by decide) rfl ?_
  refine x_iinc (v := v6I + (1 : Int32)) (lv' := [(6, .int (v6I + (1 : Int32))), (4, .long x1), (0, .ref v0R), (1, .int v1I), (2, .int v2I), (3, .int v3I)]) C d_Md_vote_94 5 rfl rfl (by decide) rfl ?_
  refine x_goto (tgt := 36) C d_Md_vote_97 (by decide) ?_
  refine x_lv [2, 3, 4, 5, 1, 0] rfl ?_
  exact IH.2.2.1 v0R v1I v2I v3I x1 (v6I + (1 : Int32)) (σ)
theorem i_Md_vote {G : GX} {p : Program} {l : Launch} {e : Env} {s : State} {m : MethodId} {args : Array Value} {below : List Frame} {meth : Method} {c : Code} {z0 u0 : Nat} (C : Cx G p s m args meth c prog_14_method_115_code 7 "BellPlateModel" ((some FieldType.int))) (n : Nat) : I_Md_vote G p l e s m args below meth c z0 u0 n := by
  induction n with
  | zero => exact ⟨fun _ _ _ _ _ => x_none, fun _ => x_none, fun _ _ _ _ _ _ _ => x_none, fun _ _ _ _ _ _ _ _ => x_none⟩
  | succ n IH => exact ⟨fun v0R v1I v2I v3I σ => s_Md_vote_0 C IH v0R v1I v2I v3I σ, fun σ => s_Md_vote_1 C IH σ, fun v0R v1I v2I v3I v4J v6I σ => s_Md_vote_2 C IH v0R v1I v2I v3I v4J v6I σ, fun v0R v1I v2I v3I v6I s0J s1J σ => s_Md_vote_3 C IH v0R v1I v2I v3I v6I s0J s1J σ⟩
theorem c_Md_vote (G : GX) (l : Launch) (v0R : Nat) (v1I : Int32) (v2I : Int32) (v3I : Int32) (σ : AM) : CT eI G l 2 y_Md_vote prog_14_method_115_code 7 ((some FieldType.int)) [.ref v0R, .int v1I, .int v2I, .int v3I] σ (M_Md_vote v0R v1I v2I v3I σ) := by
  refine ct_of (by decide +kernel) (Nat.le_of_ble_eq_true rfl) (fun p e s m args below meth c C hin => ?_)
  refine x_lve (lv' := [(0, .ref v0R), (1, .int v1I), (2, .int v2I), (3, .int v3I)]) rfl ?_
  intro r σ' h
  obtain ⟨n, hn⟩ := (lp_iff _ _ _).mp h
  exact (i_Md_vote C n).1 v0R v1I v2I v3I σ r σ' hn
/-! BellPlateModel.swings(II)I -/
abbrev y_Md_swings : MethodName := ⟨"BellPlateModel", "swings", "(II)I"⟩
theorem k_Md_swings : y_Md_swings.cls ≠ "java/lang/invoke/MethodHandle" ∧ y_Md_swings.cls ≠ "java/lang/invoke/VarHandle" ∧ (parseMethodDescriptor y_Md_swings.desc).map (fun d => d.parameters.length) = some 2 := by decide +kernel
theorem d_Md_swings_0 : decode prog_14_method_116_code 0 = .ok (.aload_n 0, 1) := by decide +kernel
theorem d_Md_swings_1 : decode prog_14_method_116_code 1 = .ok (.iconst 0, 1) := by decide +kernel
theorem d_Md_swings_2 : decode prog_14_method_116_code 2 = .ok (.putfield 1, 3) := by decide +kernel
theorem d_Md_swings_5 : decode prog_14_method_116_code 5 = .ok (.aload_n 0, 1) := by decide +kernel
theorem d_Md_swings_6 : decode prog_14_method_116_code 6 = .ok (.iload_n 1, 1) := by decide +kernel
theorem d_Md_swings_7 : decode prog_14_method_116_code 7 = .ok (.invokevirtual 337, 3) := by decide +kernel
theorem d_Md_swings_10 : decode prog_14_method_116_code 10 = .ok (.ifCond .eq 11, 3) := by decide +kernel
theorem d_Md_swings_13 : decode prog_14_method_116_code 13 = .ok (.aload_n 0, 1) := by decide +kernel
theorem d_Md_swings_14 : decode prog_14_method_116_code 14 = .ok (.iload_n 2, 1) := by decide +kernel
theorem d_Md_swings_15 : decode prog_14_method_116_code 15 = .ok (.invokevirtual 393, 3) := by decide +kernel
theorem d_Md_swings_18 : decode prog_14_method_116_code 18 = .ok (.ifCond .ne 5, 3) := by decide +kernel
theorem d_Md_swings_21 : decode prog_14_method_116_code 21 = .ok (.iconst (-1), 1) := by decide +kernel
theorem d_Md_swings_22 : decode prog_14_method_116_code 22 = .ok (.ireturn, 1) := by decide +kernel
theorem d_Md_swings_23 : decode prog_14_method_116_code 23 = .ok (.iconst 0, 1) := by decide +kernel
theorem d_Md_swings_24 : decode prog_14_method_116_code 24 = .ok (.istore_n 3, 1) := by decide +kernel
theorem d_Md_swings_25 : decode prog_14_method_116_code 25 = .ok (.iconst 0, 1) := by decide +kernel
theorem d_Md_swings_26 : decode prog_14_method_116_code 26 = .ok (.istore 4, 2) := by decide +kernel
theorem d_Md_swings_28 : decode prog_14_method_116_code 28 = .ok (.iload 4, 2) := by decide +kernel
theorem d_Md_swings_30 : decode prog_14_method_116_code 30 = .ok (.aload_n 0, 1) := by decide +kernel
theorem d_Md_swings_31 : decode prog_14_method_116_code 31 = .ok (.invokevirtual 306, 3) := by decide +kernel
theorem d_Md_swings_34 : decode prog_14_method_116_code 34 = .ok (.if_icmp .ge 33, 3) := by decide +kernel
theorem d_Md_swings_37 : decode prog_14_method_116_code 37 = .ok (.iload_n 3, 1) := by decide +kernel
theorem d_Md_swings_38 : decode prog_14_method_116_code 38 = .ok (.aload_n 0, 1) := by decide +kernel
theorem d_Md_swings_39 : decode prog_14_method_116_code 39 = .ok (.aload_n 0, 1) := by decide +kernel
theorem d_Md_swings_40 : decode prog_14_method_116_code 40 = .ok (.getfield 75, 3) := by decide +kernel
theorem d_Md_swings_43 : decode prog_14_method_116_code 43 = .ok (.iload_n 1, 1) := by decide +kernel
theorem d_Md_swings_44 : decode prog_14_method_116_code 44 = .ok (.laload, 1) := by decide +kernel
theorem d_Md_swings_45 : decode prog_14_method_116_code 45 = .ok (.iload_n 2, 1) := by decide +kernel
theorem d_Md_swings_46 : decode prog_14_method_116_code 46 = .ok (.iload 4, 2) := by decide +kernel
theorem d_Md_swings_48 : decode prog_14_method_116_code 48 = .ok (.invokevirtual 535, 3) := by decide +kernel
theorem d_Md_swings_51 : decode prog_14_method_116_code 51 = .ok (.ifCond .eq 7, 3) := by decide +kernel
theorem d_Md_swings_54 : decode prog_14_method_116_code 54 = .ok (.iconst 1, 1) := by decide +kernel
theorem d_Md_swings_55 : decode prog_14_method_116_code 55 = .ok (.goto 4, 3) := by decide +kernel
theorem d_Md_swings_58 : decode prog_14_method_116_code 58 = .ok (.iconst 0, 1) := by decide +kernel
theorem d_Md_swings_59 : decode prog_14_method_116_code 59 = .ok (.iadd, 1) := by decide +kernel
theorem d_Md_swings_60 : decode prog_14_method_116_code 60 = .ok (.istore_n 3, 1) := by decide +kernel
theorem d_Md_swings_61 : decode prog_14_method_116_code 61 = .ok (.iinc 4 1, 3) := by decide +kernel
theorem d_Md_swings_64 : decode prog_14_method_116_code 64 = .ok (.goto (-36), 3) := by decide +kernel
theorem d_Md_swings_67 : decode prog_14_method_116_code 67 = .ok (.iload_n 3, 1) := by decide +kernel
theorem d_Md_swings_68 : decode prog_14_method_116_code 68 = .ok (.ireturn, 1) := by decide +kernel
abbrev S_Md_swings : Type := Nat × Nat × Int32 × Int32 × Int32 × Int32 × Int32 × Int32 × AM
noncomputable def T_Md_swings_0 (v0R : Nat) (v1I : Int32) (v2I : Int32) (σ : AM) : S_Md_swings ⊕ Option (Int32 × AM) :=
  gdT (okO σ v0R 12) <| letT (sI σ v0R 0 (0 : Int32)) fun σ2 => bndT (M_Md_isWeights v0R v1I σ2) fun r4 σ5 => if r4 = 0 then (.inl (1, 0, 0, 0, 0, 0, 0, 0, σ5)) else (gdT (okO σ5 v0R 12) <| bndT (M_Md_isThing v0R v2I σ5) fun r6 σ7 => if r6 = 0 then (.inl (1, 0, 0, 0, 0, 0, 0, 0, σ7)) else (.inl (2, v0R, v1I, v2I, (0 : Int32), (0 : Int32), 0, 0, σ7)))
noncomputable def T_Md_swings_1  (σ : AM) : S_Md_swings ⊕ Option (Int32 × AM) :=
  .inr (some (((-1) : Int32), σ))
noncomputable def T_Md_swings_2 (v0R : Nat) (v1I : Int32) (v2I : Int32) (v3I : Int32) (v4I : Int32) (σ : AM) : S_Md_swings ⊕ Option (Int32 × AM) :=
  gdT (okO σ v0R 12) <| bndT (M_Md_sets v0R σ) fun r1 σ2 => if v4I < r1 then (gdT (okO σ2 v0R 12) <| gdT (okO σ2 (aR σ2 v0R 27) 102) <| gdT (inB v1I (aN σ2 (aR σ2 v0R 27))) <| bndT (M_Md_swingsIt v0R (aL σ2 (aR σ2 v0R 27) v1I.toNatClampNeg) v2I v4I σ2) fun r7 σ8 => if r7 = 0 then (.inl (3, v0R, v1I, v2I, 0, v4I, v3I, (0 : Int32), σ8)) else (.inl (3, v0R, v1I, v2I, 0, v4I, v3I, (1 : Int32), σ8))) else (.inr (some (v3I, σ2)))
noncomputable def T_Md_swings_3 (v0R : Nat) (v1I : Int32) (v2I : Int32) (v4I : Int32) (s0I : Int32) (s1I : Int32) (σ : AM) : S_Md_swings ⊕ Option (Int32 × AM) :=
  letT (s0I + s1I) fun x1 => .inl (2, v0R, v1I, v2I, x1, v4I + (1 : Int32), 0, 0, σ)
noncomputable def F_Md_swings : S_Md_swings → S_Md_swings ⊕ Option (Int32 × AM) := fun s => match s.1 with
  | 0 => T_Md_swings_0 (s.2.1) (s.2.2.1) (s.2.2.2.1) (s.2.2.2.2.2.2.2.2)
  | 1 => T_Md_swings_1  (s.2.2.2.2.2.2.2.2)
  | 2 => T_Md_swings_2 (s.2.1) (s.2.2.1) (s.2.2.2.1) (s.2.2.2.2.1) (s.2.2.2.2.2.1) (s.2.2.2.2.2.2.2.2)
  | _ => T_Md_swings_3 (s.2.1) (s.2.2.1) (s.2.2.2.1) (s.2.2.2.2.2.1) (s.2.2.2.2.2.2.1) (s.2.2.2.2.2.2.2.1) (s.2.2.2.2.2.2.2.2)
noncomputable def L_Md_swings_0 (v0R : Nat) (v1I : Int32) (v2I : Int32) (σ : AM) : Option (Int32 × AM) := lp F_Md_swings (0, v0R, v1I, v2I, 0, 0, 0, 0, σ)
noncomputable def L_Md_swings_1  (σ : AM) : Option (Int32 × AM) := lp F_Md_swings (1, 0, 0, 0, 0, 0, 0, 0, σ)
noncomputable def L_Md_swings_2 (v0R : Nat) (v1I : Int32) (v2I : Int32) (v3I : Int32) (v4I : Int32) (σ : AM) : Option (Int32 × AM) := lp F_Md_swings (2, v0R, v1I, v2I, v3I, v4I, 0, 0, σ)
noncomputable def L_Md_swings_3 (v0R : Nat) (v1I : Int32) (v2I : Int32) (v4I : Int32) (s0I : Int32) (s1I : Int32) (σ : AM) : Option (Int32 × AM) := lp F_Md_swings (3, v0R, v1I, v2I, 0, v4I, s0I, s1I, σ)
set_option maxRecDepth 20000 in
theorem E_Md_swings_0 (v0R : Nat) (v1I : Int32) (v2I : Int32) (σ : AM) : L_Md_swings_0 v0R v1I v2I σ = (gd (okO σ v0R 12) <| letT (sI σ v0R 0 (0 : Int32)) fun σ2 => bnd (M_Md_isWeights v0R v1I σ2) fun r4 σ5 => if r4 = 0 then (L_Md_swings_1 σ5) else (gd (okO σ5 v0R 12) <| bnd (M_Md_isThing v0R v2I σ5) fun r6 σ7 => if r6 = 0 then (L_Md_swings_1 σ7) else (L_Md_swings_2 v0R v1I v2I ((0 : Int32)) ((0 : Int32)) σ7))) := by
  unfold L_Md_swings_0
  rw [lp_eq]
  show lpK (lp F_Md_swings) (T_Md_swings_0 v0R v1I v2I σ) = _
  unfold T_Md_swings_0
  simp only [lpK_ite, lq_inl, lq_inr, lpK_bnd, lpK_gd, lq_let]
  try rfl
set_option maxRecDepth 20000 in
theorem E_Md_swings_1  (σ : AM) : L_Md_swings_1  σ = ((some (((-1) : Int32), σ))) := by
  unfold L_Md_swings_1
  rw [lp_eq]
  show lpK (lp F_Md_swings) (T_Md_swings_1  σ) = _
  unfold T_Md_swings_1
  simp only [lpK_ite, lq_inl, lq_inr, lpK_bnd, lpK_gd, lq_let]
  try rfl
set_option maxRecDepth 20000 in
theorem E_Md_swings_2 (v0R : Nat) (v1I : Int32) (v2I : Int32) (v3I : Int32) (v4I : Int32) (σ : AM) : L_Md_swings_2 v0R v1I v2I v3I v4I σ = (gd (okO σ v0R 12) <| bnd (M_Md_sets v0R σ) fun r1 σ2 => if v4I < r1 then (gd (okO σ2 v0R 12) <| gd (okO σ2 (aR σ2 v0R 27) 102) <| gd (inB v1I (aN σ2 (aR σ2 v0R 27))) <| bnd (M_Md_swingsIt v0R (aL σ2 (aR σ2 v0R 27) v1I.toNatClampNeg) v2I v4I σ2) fun r7 σ8 => if r7 = 0 then (L_Md_swings_3 v0R v1I v2I v4I v3I ((0 : Int32)) σ8) else (L_Md_swings_3 v0R v1I v2I v4I v3I ((1 : Int32)) σ8)) else ((some (v3I, σ2)))) := by
  unfold L_Md_swings_2
  rw [lp_eq]
  show lpK (lp F_Md_swings) (T_Md_swings_2 v0R v1I v2I v3I v4I σ) = _
  unfold T_Md_swings_2
  simp only [lpK_ite, lq_inl, lq_inr, lpK_bnd, lpK_gd, lq_let]
  try rfl
set_option maxRecDepth 20000 in
theorem E_Md_swings_3 (v0R : Nat) (v1I : Int32) (v2I : Int32) (v4I : Int32) (s0I : Int32) (s1I : Int32) (σ : AM) : L_Md_swings_3 v0R v1I v2I v4I s0I s1I σ = (letT (s0I + s1I) fun x1 => L_Md_swings_2 v0R v1I v2I x1 (v4I + (1 : Int32)) σ) := by
  unfold L_Md_swings_3
  rw [lp_eq]
  show lpK (lp F_Md_swings) (T_Md_swings_3 v0R v1I v2I v4I s0I s1I σ) = _
  unfold T_Md_swings_3
  simp only [lpK_ite, lq_inl, lq_inr, lpK_bnd, lpK_gd, lq_let]
  try rfl
noncomputable def M_Md_swings (v0R : Nat) (v1I : Int32) (v2I : Int32) (σ : AM) : Option (Int32 × AM) := mw σ (L_Md_swings_0 v0R v1I v2I σ)
def I_Md_swings (G : GX) (p : Program) (l : Launch) (e : Env) (s : State) (m : MethodId) (args : Array Value) (below : List Frame) (meth : Method) (c : Code) (z0 u0 n : Nat) : Prop :=
  (∀ (v0R : Nat) (v1I : Int32) (v2I : Int32) (σ : AM), VX (QM eI G args s below z0 u0) G p l e s m args below meth c 2 z0 u0 5 (lpn F_Md_swings n (0, v0R, v1I, v2I, 0, 0, 0, 0, σ)) 0 [(0, .ref v0R), (1, .int v1I), (2, .int v2I)] [] σ) ∧
  (∀ (σ : AM), VX (QM eI G args s below z0 u0) G p l e s m args below meth c 2 z0 u0 5 (lpn F_Md_swings n (1, 0, 0, 0, 0, 0, 0, 0, σ)) 21 [] [] σ) ∧
  (∀ (v0R : Nat) (v1I : Int32) (v2I : Int32) (v3I : Int32) (v4I : Int32) (σ : AM), VX (QM eI G args s below z0 u0) G p l e s m args below meth c 2 z0 u0 5 (lpn F_Md_swings n (2, v0R, v1I, v2I, v3I, v4I, 0, 0, σ)) 28 [(0, .ref v0R), (1, .int v1I), (2, .int v2I), (3, .int v3I), (4, .int v4I)] [] σ) ∧
  (∀ (v0R : Nat) (v1I : Int32) (v2I : Int32) (v4I : Int32) (s0I : Int32) (s1I : Int32) (σ : AM), VX (QM eI G args s below z0 u0) G p l e s m args below meth c 2 z0 u0 5 (lpn F_Md_swings n (3, v0R, v1I, v2I, 0, v4I, s0I, s1I, σ)) 59 [(0, .ref v0R), (1, .int v1I), (2, .int v2I), (4, .int v4I)] [.int s1I, .int s0I] σ)
set_option maxRecDepth 20000 in
theorem s_Md_swings_0 {G : GX} {p : Program} {l : Launch} {e : Env} {s : State} {m : MethodId} {args : Array Value} {below : List Frame} {meth : Method} {c : Code} {z0 u0 n : Nat} (C : Cx G p s m args meth c prog_14_method_116_code 5 "BellPlateModel" ((some FieldType.int))) (IH : I_Md_swings G p l e s m args below meth c z0 u0 n) (v0R : Nat) (v1I : Int32) (v2I : Int32) (σ : AM) : VX (QM eI G args s below z0 u0) G p l e s m args below meth c 2 z0 u0 5 (lpK (lpn F_Md_swings n) (T_Md_swings_0 v0R v1I v2I σ)) 0 [(0, .ref v0R), (1, .int v1I), (2, .int v2I)] [] σ := by
  unfold T_Md_swings_0
  refine x_aload_n C d_Md_swings_0 0 rfl ?_
  refine x_iconst (v := (0 : Int32)) C d_Md_swings_1 (by decide) ?_
  refine x_gd (fun h1 => ?_)
  refine x_putI (k := 0) C (okO_iff.mp h1) rfl j11_ok y11_ok n11_ok (by decide) rfl rfl rfl rfl w1852 d_Md_swings_2 ?_
  refine x_letS (fun σ2 e3 => ?_)
  refine x_aload_n C d_Md_swings_5 0 rfl ?_
  refine x_iload_n C d_Md_swings_6 1 rfl ?_
  refine x_callVI (As := [.int v1I]) C (c_Md_isWeights G l v0R v1I σ2) (by first | exact (okO_iff.mp h1) | (rw [e3]; exact (okO_iff.mp h1))) rfl w2182 w83 w2180 w2183 w134 k_Md_isWeights rfl (by decide) (by decide) rfl (Nat.le_of_ble_eq_true rfl) d_Md_swings_7 (fun r4 σ5 => ?_)
  refine x_if_eq (tgt := 21) C d_Md_swings_10 (by decide) (fun _ => ?_) (fun _ => ?_)
  · refine x_lv [] rfl ?_
    exact IH.2.1  (σ5)
  · refine x_aload_n C d_Md_swings_13 0 rfl ?_
    refine x_iload_n C d_Md_swings_14 2 rfl ?_
    refine x_gd (fun h8 => ?_)
    refine x_callVI (As := [.int v2I]) C (c_Md_isThing G l v0R v2I σ5) (okO_iff.mp h8) rfl w2258 w92 w2256 w2259 w134 k_Md_isThing rfl (by decide) (by decide) rfl (Nat.le_of_ble_eq_true rfl) d_Md_swings_15 (fun r6 σ7 => ?_)
    refine x_if_ne (tgt := 23) C d_Md_swings_18 (by decide) (fun _ => ?_) (fun _ => ?_)
    · refine x_lv [] rfl ?_
      exact IH.2.1  (σ7)
    · refine x_iconst (v := (0 : Int32)) C d_Md_swings_23 (by decide) ?_
      refine x_istore_n (lv' := [(3, .int (0 : Int32)), (0, .ref v0R), (1, .int v1I), (2, .int v2I)]) C d_Md_swings_24 (by decide) rfl rfl ?_
      refine x_iconst (v := (0 : Int32)) C d_Md_swings_25 (by decide) ?_
      refine x_istore (lv' := [(4, .int (0 : Int32)), (3, .int (0 : Int32)), (0, .ref v0R), (1, .int v1I), (2, .int v2I)]) C d_Md_swings_26 (by decide) rfl ?_
      refine x_lv [2, 3, 4, 1, 0] rfl ?_
      exact IH.2.2.1 v0R v1I v2I ((0 : Int32)) ((0 : Int32)) (σ7)
set_option maxRecDepth 20000 in
theorem s_Md_swings_1 {G : GX} {p : Program} {l : Launch} {e : Env} {s : State} {m : MethodId} {args : Array Value} {below : List Frame} {meth : Method} {c : Code} {z0 u0 n : Nat} (C : Cx G p s m args meth c prog_14_method_116_code 5 "BellPlateModel" ((some FieldType.int))) (IH : I_Md_swings G p l e s m args below meth c z0 u0 n)  (σ : AM) : VX (QM eI G args s below z0 u0) G p l e s m args below meth c 2 z0 u0 5 (lpK (lpn F_Md_swings n) (T_Md_swings_1  σ)) 21 [] [] σ := by
  unfold T_Md_swings_1
  refine x_iconst (v := ((-1) : Int32)) C d_Md_swings_21 (by decide) ?_
  exact x_iret C d_Md_swings_22
set_option maxRecDepth 20000 in
theorem s_Md_swings_2 {G : GX} {p : Program} {l : Launch} {e : Env} {s : State} {m : MethodId} {args : Array Value} {below : List Frame} {meth : Method} {c : Code} {z0 u0 n : Nat} (C : Cx G p s m args meth c prog_14_method_116_code 5 "BellPlateModel" ((some FieldType.int))) (IH : I_Md_swings G p l e s m args below meth c z0 u0 n) (v0R : Nat) (v1I : Int32) (v2I : Int32) (v3I : Int32) (v4I : Int32) (σ : AM) : VX (QM eI G args s below z0 u0) G p l e s m args below meth c 2 z0 u0 5 (lpK (lpn F_Md_swings n) (T_Md_swings_2 v0R v1I v2I v3I v4I σ)) 28 [(0, .ref v0R), (1, .int v1I), (2, .int v2I), (3, .int v3I), (4, .int v4I)] [] σ := by
  unfold T_Md_swings_2
  refine x_iload C d_Md_swings_28 4 rfl ?_
  refine x_aload_n C d_Md_swings_30 0 rfl ?_
  refine x_gd (fun h3 => ?_)
  refine x_callVI (As := []) C (c_Md_sets G l v0R  σ) (okO_iff.mp h3) rfl w1826 w58 w1824 w1827 w134 k_Md_sets rfl (by decide) (by decide) rfl (Nat.le_of_ble_eq_true rfl) d_Md_swings_31 (fun r1 σ2 => ?_)
  refine x_icmp_ge (tgt := 67) C d_Md_swings_34 (by decide) (fun _ => ?_) (fun _ => ?_)
  · refine x_iload_n C d_Md_swings_37 3 rfl ?_
    refine x_aload_n C d_Md_swings_38 0 rfl ?_
    refine x_aload_n C d_Md_swings_39 0 rfl ?_
    refine x_gd (fun h4 => ?_)
    refine x_gd (fun h5 => ?_)
    refine x_getR (k := 27) (kv := 102) C (okO_iff.mp h4) rfl j11_ok (by decide) rfl (okO_iff.mp h5) (by decide) w1879 d_Md_swings_40 ?_
    refine x_iload_n C d_Md_swings_43 1 rfl ?_
    refine x_gd (fun h6 => ?_)
    refine x_aldJ C (okO_iff.mp h5) (inB_iff.mp h6) d_Md_swings_44 ?_
    refine x_iload_n C d_Md_swings_45 2 rfl ?_
    refine x_iload C d_Md_swings_46 4 rfl ?_
    refine x_callVI (As := [.long (aL σ2 (aR σ2 v0R 27) v1I.toNatClampNeg), .int v2I, .int v4I]) C (c_Md_swingsIt G l v0R (aL σ2 (aR σ2 v0R 27) v1I.toNatClampNeg) v2I v4I σ2) (okO_iff.mp h4) rfl w2467 w118 w2465 w2468 w134 k_Md_swingsIt rfl (by decide) (by decide) rfl (Nat.le_of_ble_eq_true rfl) d_Md_swings_48 (fun r7 σ8 => ?_)
    refine x_if_eq (tgt := 58) C d_Md_swings_51 (by decide) (fun _ => ?_) (fun _ => ?_)
    · refine x_iconst (v := (0 : Int32)) C d_Md_swings_58 (by decide) ?_
      refine x_lv [0, 1, 2, 4] rfl ?_
      exact IH.2.2.2 v0R v1I v2I v4I v3I ((0 : Int32)) (σ8)
    · refine x_iconst (v := (1 : Int32)) C d_Md_swings_54 (by decide) ?_
      refine x_goto (tgt := 59) C d_Md_swings_55 (by decide) ?_
      refine x_lv [0, 1, 2, 4] rfl ?_
      exact IH.2.2.2 v0R v1I v2I v4I v3I ((1 : Int32)) (σ8)
  · refine x_iload_n C d_Md_swings_67 3 rfl ?_
    exact x_iret C d_Md_swings_68
set_option maxRecDepth 20000 in
theorem s_Md_swings_3 {G : GX} {p : Program} {l : Launch} {e : Env} {s : State} {m : MethodId} {args : Array Value} {below : List Frame} {meth : Method} {c : Code} {z0 u0 n : Nat} (C : Cx G p s m args meth c prog_14_method_116_code 5 "BellPlateModel" ((some FieldType.int))) (IH : I_Md_swings G p l e s m args below meth c z0 u0 n) (v0R : Nat) (v1I : Int32) (v2I : Int32) (v4I : Int32) (s0I : Int32) (s1I : Int32) (σ : AM) : VX (QM eI G args s below z0 u0) G p l e s m args below meth c 2 z0 u0 5 (lpK (lpn F_Md_swings n) (T_Md_swings_3 v0R v1I v2I v4I s0I s1I σ)) 59 [(0, .ref v0R), (1, .int v1I), (2, .int v2I), (4, .int v4I)] [.int s1I, .int s0I] σ := by
  unfold T_Md_swings_3
  refine x_iadd C d_Md_swings_59 ?_
  refine x_letI (fun x1 _ => ?_)
  refine x_istore_n (lv' := [(3, .int x1), (0, .ref v0R), (1, .int v1I), (2, .int v2I), (4, .int v4I)]) C d_Md_swings_60 (by decide) rfl rfl ?_
  refine x_iinc (v := v4I + (1 : Int32)) (lv' := [(4, .int (v4I + (1 : Int32))), (3, .int x1), (0, .ref v0R), (1, .int v1I), (2, .int v2I)]) C d_Md_swings_61 4 rfl rfl (by decide) rfl ?_
  refine x_goto (tgt := 28) C d_Md_swings_64 (by decide) ?_
  refine x_lv [2, 3, 4, 1, 0] rfl ?_
  exact IH.2.2.1 v0R v1I v2I x1 (v4I + (1 : Int32)) (σ)
theorem i_Md_swings {G : GX} {p : Program} {l : Launch} {e : Env} {s : State} {m : MethodId} {args : Array Value} {below : List Frame} {meth : Method} {c : Code} {z0 u0 : Nat} (C : Cx G p s m args meth c prog_14_method_116_code 5 "BellPlateModel" ((some FieldType.int))) (n : Nat) : I_Md_swings G p l e s m args below meth c z0 u0 n := by
  induction n with
  | zero => exact ⟨fun _ _ _ _ => x_none, fun _ => x_none, fun _ _ _ _ _ _ => x_none, fun _ _ _ _ _ _ _ => x_none⟩
  | succ n IH => exact ⟨fun v0R v1I v2I σ => s_Md_swings_0 C IH v0R v1I v2I σ, fun σ => s_Md_swings_1 C IH σ, fun v0R v1I v2I v3I v4I σ => s_Md_swings_2 C IH v0R v1I v2I v3I v4I σ, fun v0R v1I v2I v4I s0I s1I σ => s_Md_swings_3 C IH v0R v1I v2I v4I s0I s1I σ⟩
theorem c_Md_swings (G : GX) (l : Launch) (v0R : Nat) (v1I : Int32) (v2I : Int32) (σ : AM) : CT eI G l 2 y_Md_swings prog_14_method_116_code 5 ((some FieldType.int)) [.ref v0R, .int v1I, .int v2I] σ (M_Md_swings v0R v1I v2I σ) := by
  refine ct_of (by decide +kernel) (Nat.le_of_ble_eq_true rfl) (fun p e s m args below meth c C hin => ?_)
  refine x_lve (lv' := [(0, .ref v0R), (1, .int v1I), (2, .int v2I)]) rfl ?_
  intro r σ' h
  obtain ⟨n, hn⟩ := (lp_iff _ _ _).mp h
  exact (i_Md_swings C n).1 v0R v1I v2I σ r σ' hn
/-! BellPlateModel.heavy(IZI)I -/
abbrev y_Md_heavy : MethodName := ⟨"BellPlateModel", "heavy", "(IZI)I"⟩
theorem k_Md_heavy : y_Md_heavy.cls ≠ "java/lang/invoke/MethodHandle" ∧ y_Md_heavy.cls ≠ "java/lang/invoke/VarHandle" ∧ (parseMethodDescriptor y_Md_heavy.desc).map (fun d => d.parameters.length) = some 3 := by decide +kernel
theorem d_Md_heavy_0 : decode prog_14_method_117_code 0 = .ok (.aload_n 0, 1) := by decide +kernel
theorem d_Md_heavy_1 : decode prog_14_method_117_code 1 = .ok (.iconst 0, 1) := by decide +kernel
theorem d_Md_heavy_2 : decode prog_14_method_117_code 2 = .ok (.putfield 1, 3) := by decide +kernel
theorem d_Md_heavy_5 : decode prog_14_method_117_code 5 = .ok (.aload_n 0, 1) := by decide +kernel
theorem d_Md_heavy_6 : decode prog_14_method_117_code 6 = .ok (.iload_n 1, 1) := by decide +kernel
theorem d_Md_heavy_7 : decode prog_14_method_117_code 7 = .ok (.invokevirtual 337, 3) := by decide +kernel
theorem d_Md_heavy_10 : decode prog_14_method_117_code 10 = .ok (.ifCond .eq 10, 3) := by decide +kernel
theorem d_Md_heavy_13 : decode prog_14_method_117_code 13 = .ok (.iload_n 3, 1) := by decide +kernel
theorem d_Md_heavy_14 : decode prog_14_method_117_code 14 = .ok (.invokestatic 453, 3) := by decide +kernel
theorem d_Md_heavy_17 : decode prog_14_method_117_code 17 = .ok (.ifCond .ne 5, 3) := by decide +kernel
theorem d_Md_heavy_20 : decode prog_14_method_117_code 20 = .ok (.iconst (-1), 1) := by decide +kernel
theorem d_Md_heavy_21 : decode prog_14_method_117_code 21 = .ok (.ireturn, 1) := by decide +kernel
theorem d_Md_heavy_22 : decode prog_14_method_117_code 22 = .ok (.aload_n 0, 1) := by decide +kernel
theorem d_Md_heavy_23 : decode prog_14_method_117_code 23 = .ok (.iload_n 1, 1) := by decide +kernel
theorem d_Md_heavy_24 : decode prog_14_method_117_code 24 = .ok (.invokevirtual 319, 3) := by decide +kernel
theorem d_Md_heavy_27 : decode prog_14_method_117_code 27 = .ok (.iconst (-1), 1) := by decide +kernel
theorem d_Md_heavy_28 : decode prog_14_method_117_code 28 = .ok (.istore 4, 2) := by decide +kernel
theorem d_Md_heavy_30 : decode prog_14_method_117_code 30 = .ok (.iconst 0, 1) := by decide +kernel
theorem d_Md_heavy_31 : decode prog_14_method_117_code 31 = .ok (.istore 5, 2) := by decide +kernel
theorem d_Md_heavy_33 : decode prog_14_method_117_code 33 = .ok (.iload 5, 2) := by decide +kernel
theorem d_Md_heavy_35 : decode prog_14_method_117_code 35 = .ok (.aload_n 0, 1) := by decide +kernel
theorem d_Md_heavy_36 : decode prog_14_method_117_code 36 = .ok (.invokevirtual 306, 3) := by decide +kernel
theorem d_Md_heavy_39 : decode prog_14_method_117_code 39 = .ok (.if_icmp .ge 138, 3) := by decide +kernel
theorem d_Md_heavy_42 : decode prog_14_method_117_code 42 = .ok (.aload_n 0, 1) := by decide +kernel
theorem d_Md_heavy_43 : decode prog_14_method_117_code 43 = .ok (.getfield 75, 3) := by decide +kernel
theorem d_Md_heavy_46 : decode prog_14_method_117_code 46 = .ok (.iload_n 1, 1) := by decide +kernel
theorem d_Md_heavy_47 : decode prog_14_method_117_code 47 = .ok (.laload, 1) := by decide +kernel
theorem d_Md_heavy_48 : decode prog_14_method_117_code 48 = .ok (.iload 5, 2) := by decide +kernel
theorem d_Md_heavy_50 : decode prog_14_method_117_code 50 = .ok (.invokestatic 357, 3) := by decide +kernel
theorem d_Md_heavy_53 : decode prog_14_method_117_code 53 = .ok (.iload_n 2, 1) := by decide +kernel
theorem d_Md_heavy_54 : decode prog_14_method_117_code 54 = .ok (.if_icmp .ne 117, 3) := by decide +kernel
theorem d_Md_heavy_57 : decode prog_14_method_117_code 57 = .ok (.iload 4, 2) := by decide +kernel
theorem d_Md_heavy_59 : decode prog_14_method_117_code 59 = .ok (.ifCond .lt 44, 3) := by decide +kernel
theorem d_Md_heavy_62 : decode prog_14_method_117_code 62 = .ok (.iload_n 2, 1) := by decide +kernel
theorem d_Md_heavy_63 : decode prog_14_method_117_code 63 = .ok (.ifCond .eq 23, 3) := by decide +kernel
theorem d_Md_heavy_66 : decode prog_14_method_117_code 66 = .ok (.aload_n 0, 1) := by decide +kernel
theorem d_Md_heavy_67 : decode prog_14_method_117_code 67 = .ok (.getfield 98, 3) := by decide +kernel
theorem d_Md_heavy_70 : decode prog_14_method_117_code 70 = .ok (.iload 5, 2) := by decide +kernel
theorem d_Md_heavy_72 : decode prog_14_method_117_code 72 = .ok (.iaload, 1) := by decide +kernel
theorem d_Md_heavy_73 : decode prog_14_method_117_code 73 = .ok (.aload_n 0, 1) := by decide +kernel
theorem d_Md_heavy_74 : decode prog_14_method_117_code 74 = .ok (.getfield 98, 3) := by decide +kernel
theorem d_Md_heavy_77 : decode prog_14_method_117_code 77 = .ok (.iload 4, 2) := by decide +kernel
theorem d_Md_heavy_79 : decode prog_14_method_117_code 79 = .ok (.iaload, 1) := by decide +kernel
theorem d_Md_heavy_80 : decode prog_14_method_117_code 80 = .ok (.if_icmp .ge 27, 3) := by decide +kernel
theorem d_Md_heavy_83 : decode prog_14_method_117_code 83 = .ok (.goto 20, 3) := by decide +kernel
theorem d_Md_heavy_86 : decode prog_14_method_117_code 86 = .ok (.aload_n 0, 1) := by decide +kernel
theorem d_Md_heavy_87 : decode prog_14_method_117_code 87 = .ok (.getfield 98, 3) := by decide +kernel
theorem d_Md_heavy_90 : decode prog_14_method_117_code 90 = .ok (.iload 5, 2) := by decide +kernel
theorem d_Md_heavy_92 : decode prog_14_method_117_code 92 = .ok (.iaload, 1) := by decide +kernel
theorem d_Md_heavy_93 : decode prog_14_method_117_code 93 = .ok (.aload_n 0, 1) := by decide +kernel
theorem d_Md_heavy_94 : decode prog_14_method_117_code 94 = .ok (.getfield 98, 3) := by decide +kernel
theorem d_Md_heavy_97 : decode prog_14_method_117_code 97 = .ok (.iload 4, 2) := by decide +kernel
theorem d_Md_heavy_99 : decode prog_14_method_117_code 99 = .ok (.iaload, 1) := by decide +kernel
theorem d_Md_heavy_100 : decode prog_14_method_117_code 100 = .ok (.if_icmp .le 7, 3) := by decide +kernel
theorem d_Md_heavy_103 : decode prog_14_method_117_code 103 = .ok (.iconst 1, 1) := by decide +kernel
theorem d_Md_heavy_104 : decode prog_14_method_117_code 104 = .ok (.goto 4, 3) := by decide +kernel
theorem d_Md_heavy_107 : decode prog_14_method_117_code 107 = .ok (.iconst 0, 1) := by decide +kernel
theorem d_Md_heavy_108 : decode prog_14_method_117_code 108 = .ok (.istore 6, 2) := by decide +kernel
theorem d_Md_heavy_110 : decode prog_14_method_117_code 110 = .ok (.iload 4, 2) := by decide +kernel
theorem d_Md_heavy_112 : decode prog_14_method_117_code 112 = .ok (.ifCond .lt 37, 3) := by decide +kernel
theorem d_Md_heavy_115 : decode prog_14_method_117_code 115 = .ok (.aload_n 0, 1) := by decide +kernel
theorem d_Md_heavy_116 : decode prog_14_method_117_code 116 = .ok (.getfield 98, 3) := by decide +kernel
theorem d_Md_heavy_119 : decode prog_14_method_117_code 119 = .ok (.iload 5, 2) := by decide +kernel
theorem d_Md_heavy_121 : decode prog_14_method_117_code 121 = .ok (.iaload, 1) := by decide +kernel
theorem d_Md_heavy_122 : decode prog_14_method_117_code 122 = .ok (.aload_n 0, 1) := by decide +kernel
theorem d_Md_heavy_123 : decode prog_14_method_117_code 123 = .ok (.getfield 98, 3) := by decide +kernel
theorem d_Md_heavy_126 : decode prog_14_method_117_code 126 = .ok (.iload 4, 2) := by decide +kernel
theorem d_Md_heavy_128 : decode prog_14_method_117_code 128 = .ok (.iaload, 1) := by decide +kernel
theorem d_Md_heavy_129 : decode prog_14_method_117_code 129 = .ok (.if_icmp .ne 20, 3) := by decide +kernel
theorem d_Md_heavy_132 : decode prog_14_method_117_code 132 = .ok (.iload 5, 2) := by decide +kernel
theorem d_Md_heavy_134 : decode prog_14_method_117_code 134 = .ok (.invokestatic 354, 3) := by decide +kernel
theorem d_Md_heavy_137 : decode prog_14_method_117_code 137 = .ok (.iload 4, 2) := by decide +kernel
theorem d_Md_heavy_139 : decode prog_14_method_117_code 139 = .ok (.invokestatic 354, 3) := by decide +kernel
theorem d_Md_heavy_142 : decode prog_14_method_117_code 142 = .ok (.if_icmp .ge 7, 3) := by decide +kernel
theorem d_Md_heavy_145 : decode prog_14_method_117_code 145 = .ok (.iconst 1, 1) := by decide +kernel
theorem d_Md_heavy_146 : decode prog_14_method_117_code 146 = .ok (.goto 4, 3) := by decide +kernel
theorem d_Md_heavy_149 : decode prog_14_method_117_code 149 = .ok (.iconst 0, 1) := by decide +kernel
theorem d_Md_heavy_150 : decode prog_14_method_117_code 150 = .ok (.istore 7, 2) := by decide +kernel
theorem d_Md_heavy_152 : decode prog_14_method_117_code 152 = .ok (.iload 6, 2) := by decide +kernel
theorem d_Md_heavy_154 : decode prog_14_method_117_code 154 = .ok (.ifCond .ne 8, 3) := by decide +kernel
theorem d_Md_heavy_157 : decode prog_14_method_117_code 157 = .ok (.iload 7, 2) := by decide +kernel
theorem d_Md_heavy_159 : decode prog_14_method_117_code 159 = .ok (.ifCond .eq 8, 3) := by decide +kernel
theorem d_Md_heavy_162 : decode prog_14_method_117_code 162 = .ok (.iload 5, 2) := by decide +kernel
theorem d_Md_heavy_164 : decode prog_14_method_117_code 164 = .ok (.goto 5, 3) := by decide +kernel
theorem d_Md_heavy_167 : decode prog_14_method_117_code 167 = .ok (.iload 4, 2) := by decide +kernel
theorem d_Md_heavy_169 : decode prog_14_method_117_code 169 = .ok (.istore 4, 2) := by decide +kernel
theorem d_Md_heavy_171 : decode prog_14_method_117_code 171 = .ok (.iinc 5 1, 3) := by decide +kernel
theorem d_Md_heavy_174 : decode prog_14_method_117_code 174 = .ok (.goto (-141), 3) := by decide +kernel
theorem d_Md_heavy_177 : decode prog_14_method_117_code 177 = .ok (.iload 4, 2) := by decide +kernel
theorem d_Md_heavy_179 : decode prog_14_method_117_code 179 = .ok (.ifCond .ge 7, 3) := by decide +kernel
theorem d_Md_heavy_182 : decode prog_14_method_117_code 182 = .ok (.iconst (-1), 1) := by decide +kernel
theorem d_Md_heavy_183 : decode prog_14_method_117_code 183 = .ok (.goto 19, 3) := by decide +kernel
theorem d_Md_heavy_186 : decode prog_14_method_117_code 186 = .ok (.iload_n 3, 1) := by decide +kernel
theorem d_Md_heavy_187 : decode prog_14_method_117_code 187 = .ok (.ifCond .ne 8, 3) := by decide +kernel
theorem d_Md_heavy_190 : decode prog_14_method_117_code 190 = .ok (.iload 4, 2) := by decide +kernel
theorem d_Md_heavy_192 : decode prog_14_method_117_code 192 = .ok (.goto 10, 3) := by decide +kernel
theorem d_Md_heavy_195 : decode prog_14_method_117_code 195 = .ok (.aload_n 0, 1) := by decide +kernel
theorem d_Md_heavy_196 : decode prog_14_method_117_code 196 = .ok (.getfield 98, 3) := by decide +kernel
theorem d_Md_heavy_199 : decode prog_14_method_117_code 199 = .ok (.iload 4, 2) := by decide +kernel
theorem d_Md_heavy_201 : decode prog_14_method_117_code 201 = .ok (.iaload, 1) := by decide +kernel
theorem d_Md_heavy_202 : decode prog_14_method_117_code 202 = .ok (.ireturn, 1) := by decide +kernel
abbrev S_Md_heavy : Type := Nat × Nat × Int32 × Int32 × Int32 × Int32 × Int32 × Int32 × Int32 × AM
noncomputable def T_Md_heavy_0 (v0R : Nat) (v1I : Int32) (v2I : Int32) (v3I : Int32) (σ : AM) : S_Md_heavy ⊕ Option (Int32 × AM) :=
  gdT (okO σ v0R 12) <| letT (sI σ v0R 0 (0 : Int32)) fun σ2 => bndT (M_Md_isWeights v0R v1I σ2) fun r4 σ5 => if r4 = 0 then (.inl (1, 0, 0, 0, 0, 0, 0, 0, 0, σ5)) else (bndT (M_Md_isWhat v3I σ5) fun r6 σ7 => if r6 = 0 then (.inl (1, 0, 0, 0, 0, 0, 0, 0, 0, σ7)) else (gdT (okO σ7 v0R 12) <| bndT (M_Md_unpacks v0R v1I σ7) fun _ σ9 => .inl (2, v0R, v1I, v2I, v3I, ((-1) : Int32), (0 : Int32), 0, 0, σ9)))
noncomputable def T_Md_heavy_1  (σ : AM) : S_Md_heavy ⊕ Option (Int32 × AM) :=
  .inr (some (((-1) : Int32), σ))
noncomputable def T_Md_heavy_2 (v0R : Nat) (v1I : Int32) (v2I : Int32) (v3I : Int32) (v4I : Int32) (v5I : Int32) (σ : AM) : S_Md_heavy ⊕ Option (Int32 × AM) :=
  gdT (okO σ v0R 12) <| bndT (M_Md_sets v0R σ) fun r1 σ2 => if v5I < r1 then (gdT (okO σ2 v0R 12) <| gdT (okO σ2 (aR σ2 v0R 27) 102) <| gdT (inB v1I (aN σ2 (aR σ2 v0R 27))) <| bndT (M_Md_doesRing (aL σ2 (aR σ2 v0R 27) v1I.toNatClampNeg) v5I σ2) fun r7 σ8 => if r7 = v2I then (if v4I < 0 then (.inl (3, v0R, v1I, v2I, v3I, v4I, v5I, 0, 0, σ8)) else (if v2I = 0 then (gdT (okO σ8 v0R 12) <| gdT (okO σ8 (aR σ8 v0R 35) 101) <| gdT (inB v5I (aN σ8 (aR σ8 v0R 35))) <| gdT (inB v4I (aN σ8 (aR σ8 v0R 35))) <| if (aI σ8 (aR σ8 v0R 35) v4I.toNatClampNeg) < (aI σ8 (aR σ8 v0R 35) v5I.toNatClampNeg) then (.inl (3, v0R, v1I, v2I, v3I, v4I, v5I, 0, 0, σ8)) else (.inl (4, v0R, v1I, v2I, v3I, v4I, v5I, 0, 0, σ8))) else (gdT (okO σ8 v0R 12) <| gdT (okO σ8 (aR σ8 v0R 35) 101) <| gdT (inB v5I (aN σ8 (aR σ8 v0R 35))) <| gdT (inB v4I (aN σ8 (aR σ8 v0R 35))) <| if (aI σ8 (aR σ8 v0R 35) v5I.toNatClampNeg) < (aI σ8 (aR σ8 v0R 35) v4I.toNatClampNeg) then (.inl (3, v0R, v1I, v2I, v3I, v4I, v5I, 0, 0, σ8)) else (.inl (4, v0R, v1I, v2I, v3I, v4I, v5I, 0, 0, σ8))))) else (.inl (10, v0R, v1I, v2I, v3I, v4I, v5I, 0, 0, σ8))) else (if v4I < 0 then (.inl (11, 0, 0, 0, 0, 0, 0, 0, ((-1) : Int32), σ2)) else (if v3I = 0 then (.inl (11, 0, 0, 0, 0, 0, 0, 0, v4I, σ2)) else (gdT (okO σ2 v0R 12) <| gdT (okO σ2 (aR σ2 v0R 35) 101) <| gdT (inB v4I (aN σ2 (aR σ2 v0R 35))) <| .inl (11, 0, 0, 0, 0, 0, 0, 0, aI σ2 (aR σ2 v0R 35) v4I.toNatClampNeg, σ2))))
noncomputable def T_Md_heavy_3 (v0R : Nat) (v1I : Int32) (v2I : Int32) (v3I : Int32) (v4I : Int32) (v5I : Int32) (σ : AM) : S_Md_heavy ⊕ Option (Int32 × AM) :=
  .inl (5, v0R, v1I, v2I, v3I, v4I, v5I, 0, (1 : Int32), σ)
noncomputable def T_Md_heavy_4 (v0R : Nat) (v1I : Int32) (v2I : Int32) (v3I : Int32) (v4I : Int32) (v5I : Int32) (σ : AM) : S_Md_heavy ⊕ Option (Int32 × AM) :=
  .inl (5, v0R, v1I, v2I, v3I, v4I, v5I, 0, (0 : Int32), σ)
noncomputable def T_Md_heavy_5 (v0R : Nat) (v1I : Int32) (v2I : Int32) (v3I : Int32) (v4I : Int32) (v5I : Int32) (s0I : Int32) (σ : AM) : S_Md_heavy ⊕ Option (Int32 × AM) :=
  if v4I < 0 then (.inl (6, v0R, v1I, v2I, v3I, v4I, v5I, s0I, 0, σ)) else (gdT (okO σ v0R 12) <| gdT (okO σ (aR σ v0R 35) 101) <| gdT (inB v5I (aN σ (aR σ v0R 35))) <| gdT (inB v4I (aN σ (aR σ v0R 35))) <| if (aI σ (aR σ v0R 35) v5I.toNatClampNeg) = (aI σ (aR σ v0R 35) v4I.toNatClampNeg) then (bndT (M_Md_bits v5I σ) fun r5 σ6 => bndT (M_Md_bits v4I σ6) fun r7 σ8 => if r5 < r7 then (.inl (7, v0R, v1I, v2I, v3I, v4I, v5I, s0I, (1 : Int32), σ8)) else (.inl (6, v0R, v1I, v2I, v3I, v4I, v5I, s0I, 0, σ8))) else (.inl (6, v0R, v1I, v2I, v3I, v4I, v5I, s0I, 0, σ)))
noncomputable def T_Md_heavy_6 (v0R : Nat) (v1I : Int32) (v2I : Int32) (v3I : Int32) (v4I : Int32) (v5I : Int32) (v6I : Int32) (σ : AM) : S_Md_heavy ⊕ Option (Int32 × AM) :=
  .inl (7, v0R, v1I, v2I, v3I, v4I, v5I, v6I, (0 : Int32), σ)
noncomputable def T_Md_heavy_7 (v0R : Nat) (v1I : Int32) (v2I : Int32) (v3I : Int32) (v4I : Int32) (v5I : Int32) (v6I : Int32) (s0I : Int32) (σ : AM) : S_Md_heavy ⊕ Option (Int32 × AM) :=
  if v6I = 0 then (if s0I = 0 then (.inl (9, v0R, v1I, v2I, v3I, 0, v5I, 0, v4I, σ)) else (.inl (8, v0R, v1I, v2I, v3I, 0, v5I, 0, 0, σ))) else (.inl (8, v0R, v1I, v2I, v3I, 0, v5I, 0, 0, σ))
noncomputable def T_Md_heavy_8 (v0R : Nat) (v1I : Int32) (v2I : Int32) (v3I : Int32) (v5I : Int32) (σ : AM) : S_Md_heavy ⊕ Option (Int32 × AM) :=
  .inl (9, v0R, v1I, v2I, v3I, 0, v5I, 0, v5I, σ)
noncomputable def T_Md_heavy_9 (v0R : Nat) (v1I : Int32) (v2I : Int32) (v3I : Int32) (v5I : Int32) (s0I : Int32) (σ : AM) : S_Md_heavy ⊕ Option (Int32 × AM) :=
  .inl (10, v0R, v1I, v2I, v3I, s0I, v5I, 0, 0, σ)
noncomputable def T_Md_heavy_10 (v0R : Nat) (v1I : Int32) (v2I : Int32) (v3I : Int32) (v4I : Int32) (v5I : Int32) (σ : AM) : S_Md_heavy ⊕ Option (Int32 × AM) :=
  .inl (2, v0R, v1I, v2I, v3I, v4I, v5I + (1 : Int32), 0, 0, σ)
noncomputable def T_Md_heavy_11 (s0I : Int32) (σ : AM) : S_Md_heavy ⊕ Option (Int32 × AM) :=
  .inr (some (s0I, σ))
noncomputable def F_Md_heavy : S_Md_heavy → S_Md_heavy ⊕ Option (Int32 × AM) := fun s => match s.1 with
  | 0 => T_Md_heavy_0 (s.2.1) (s.2.2.1) (s.2.2.2.1) (s.2.2.2.2.1) (s.2.2.2.2.2.2.2.2.2)
  | 1 => T_Md_heavy_1  (s.2.2.2.2.2.2.2.2.2)
  | 2 => T_Md_heavy_2 (s.2.1) (s.2.2.1) (s.2.2.2.1) (s.2.2.2.2.1) (s.2.2.2.2.2.1) (s.2.2.2.2.2.2.1) (s.2.2.2.2.2.2.2.2.2)
  | 3 => T_Md_heavy_3 (s.2.1) (s.2.2.1) (s.2.2.2.1) (s.2.2.2.2.1) (s.2.2.2.2.2.1) (s.2.2.2.2.2.2.1) (s.2.2.2.2.2.2.2.2.2)
  | 4 => T_Md_heavy_4 (s.2.1) (s.2.2.1) (s.2.2.2.1) (s.2.2.2.2.1) (s.2.2.2.2.2.1) (s.2.2.2.2.2.2.1) (s.2.2.2.2.2.2.2.2.2)
  | 5 => T_Md_heavy_5 (s.2.1) (s.2.2.1) (s.2.2.2.1) (s.2.2.2.2.1) (s.2.2.2.2.2.1) (s.2.2.2.2.2.2.1) (s.2.2.2.2.2.2.2.2.1) (s.2.2.2.2.2.2.2.2.2)
  | 6 => T_Md_heavy_6 (s.2.1) (s.2.2.1) (s.2.2.2.1) (s.2.2.2.2.1) (s.2.2.2.2.2.1) (s.2.2.2.2.2.2.1) (s.2.2.2.2.2.2.2.1) (s.2.2.2.2.2.2.2.2.2)
  | 7 => T_Md_heavy_7 (s.2.1) (s.2.2.1) (s.2.2.2.1) (s.2.2.2.2.1) (s.2.2.2.2.2.1) (s.2.2.2.2.2.2.1) (s.2.2.2.2.2.2.2.1) (s.2.2.2.2.2.2.2.2.1) (s.2.2.2.2.2.2.2.2.2)
  | 8 => T_Md_heavy_8 (s.2.1) (s.2.2.1) (s.2.2.2.1) (s.2.2.2.2.1) (s.2.2.2.2.2.2.1) (s.2.2.2.2.2.2.2.2.2)
  | 9 => T_Md_heavy_9 (s.2.1) (s.2.2.1) (s.2.2.2.1) (s.2.2.2.2.1) (s.2.2.2.2.2.2.1) (s.2.2.2.2.2.2.2.2.1) (s.2.2.2.2.2.2.2.2.2)
  | 10 => T_Md_heavy_10 (s.2.1) (s.2.2.1) (s.2.2.2.1) (s.2.2.2.2.1) (s.2.2.2.2.2.1) (s.2.2.2.2.2.2.1) (s.2.2.2.2.2.2.2.2.2)
  | _ => T_Md_heavy_11 (s.2.2.2.2.2.2.2.2.1) (s.2.2.2.2.2.2.2.2.2)
noncomputable def L_Md_heavy_0 (v0R : Nat) (v1I : Int32) (v2I : Int32) (v3I : Int32) (σ : AM) : Option (Int32 × AM) := lp F_Md_heavy (0, v0R, v1I, v2I, v3I, 0, 0, 0, 0, σ)
noncomputable def L_Md_heavy_1  (σ : AM) : Option (Int32 × AM) := lp F_Md_heavy (1, 0, 0, 0, 0, 0, 0, 0, 0, σ)
noncomputable def L_Md_heavy_2 (v0R : Nat) (v1I : Int32) (v2I : Int32) (v3I : Int32) (v4I : Int32) (v5I : Int32) (σ : AM) : Option (Int32 × AM) := lp F_Md_heavy (2, v0R, v1I, v2I, v3I, v4I, v5I, 0, 0, σ)
noncomputable def L_Md_heavy_3 (v0R : Nat) (v1I : Int32) (v2I : Int32) (v3I : Int32) (v4I : Int32) (v5I : Int32) (σ : AM) : Option (Int32 × AM) := lp F_Md_heavy (3, v0R, v1I, v2I, v3I, v4I, v5I, 0, 0, σ)
noncomputable def L_Md_heavy_4 (v0R : Nat) (v1I : Int32) (v2I : Int32) (v3I : Int32) (v4I : Int32) (v5I : Int32) (σ : AM) : Option (Int32 × AM) := lp F_Md_heavy (4, v0R, v1I, v2I, v3I, v4I, v5I, 0, 0, σ)
noncomputable def L_Md_heavy_5 (v0R : Nat) (v1I : Int32) (v2I : Int32) (v3I : Int32) (v4I : Int32) (v5I : Int32) (s0I : Int32) (σ : AM) : Option (Int32 × AM) := lp F_Md_heavy (5, v0R, v1I, v2I, v3I, v4I, v5I, 0, s0I, σ)
noncomputable def L_Md_heavy_6 (v0R : Nat) (v1I : Int32) (v2I : Int32) (v3I : Int32) (v4I : Int32) (v5I : Int32) (v6I : Int32) (σ : AM) : Option (Int32 × AM) := lp F_Md_heavy (6, v0R, v1I, v2I, v3I, v4I, v5I, v6I, 0, σ)
noncomputable def L_Md_heavy_7 (v0R : Nat) (v1I : Int32) (v2I : Int32) (v3I : Int32) (v4I : Int32) (v5I : Int32) (v6I : Int32) (s0I : Int32) (σ : AM) : Option (Int32 × AM) := lp F_Md_heavy (7, v0R, v1I, v2I, v3I, v4I, v5I, v6I, s0I, σ)
noncomputable def L_Md_heavy_8 (v0R : Nat) (v1I : Int32) (v2I : Int32) (v3I : Int32) (v5I : Int32) (σ : AM) : Option (Int32 × AM) := lp F_Md_heavy (8, v0R, v1I, v2I, v3I, 0, v5I, 0, 0, σ)
noncomputable def L_Md_heavy_9 (v0R : Nat) (v1I : Int32) (v2I : Int32) (v3I : Int32) (v5I : Int32) (s0I : Int32) (σ : AM) : Option (Int32 × AM) := lp F_Md_heavy (9, v0R, v1I, v2I, v3I, 0, v5I, 0, s0I, σ)
noncomputable def L_Md_heavy_10 (v0R : Nat) (v1I : Int32) (v2I : Int32) (v3I : Int32) (v4I : Int32) (v5I : Int32) (σ : AM) : Option (Int32 × AM) := lp F_Md_heavy (10, v0R, v1I, v2I, v3I, v4I, v5I, 0, 0, σ)
noncomputable def L_Md_heavy_11 (s0I : Int32) (σ : AM) : Option (Int32 × AM) := lp F_Md_heavy (11, 0, 0, 0, 0, 0, 0, 0, s0I, σ)
set_option maxRecDepth 20000 in
theorem E_Md_heavy_0 (v0R : Nat) (v1I : Int32) (v2I : Int32) (v3I : Int32) (σ : AM) : L_Md_heavy_0 v0R v1I v2I v3I σ = (gd (okO σ v0R 12) <| letT (sI σ v0R 0 (0 : Int32)) fun σ2 => bnd (M_Md_isWeights v0R v1I σ2) fun r4 σ5 => if r4 = 0 then (L_Md_heavy_1 σ5) else (bnd (M_Md_isWhat v3I σ5) fun r6 σ7 => if r6 = 0 then (L_Md_heavy_1 σ7) else (gd (okO σ7 v0R 12) <| bnd (M_Md_unpacks v0R v1I σ7) fun _ σ9 => L_Md_heavy_2 v0R v1I v2I v3I (((-1) : Int32)) ((0 : Int32)) σ9))) := by
  unfold L_Md_heavy_0
  rw [lp_eq]
  show lpK (lp F_Md_heavy) (T_Md_heavy_0 v0R v1I v2I v3I σ) = _
  unfold T_Md_heavy_0
  simp only [lpK_ite, lq_inl, lq_inr, lpK_bnd, lpK_gd, lq_let]
  try rfl
set_option maxRecDepth 20000 in
theorem E_Md_heavy_1  (σ : AM) : L_Md_heavy_1  σ = ((some (((-1) : Int32), σ))) := by
  unfold L_Md_heavy_1
  rw [lp_eq]
  show lpK (lp F_Md_heavy) (T_Md_heavy_1  σ) = _
  unfold T_Md_heavy_1
  simp only [lpK_ite, lq_inl, lq_inr, lpK_bnd, lpK_gd, lq_let]
  try rfl
set_option maxRecDepth 20000 in
theorem E_Md_heavy_2 (v0R : Nat) (v1I : Int32) (v2I : Int32) (v3I : Int32) (v4I : Int32) (v5I : Int32) (σ : AM) : L_Md_heavy_2 v0R v1I v2I v3I v4I v5I σ = (gd (okO σ v0R 12) <| bnd (M_Md_sets v0R σ) fun r1 σ2 => if v5I < r1 then (gd (okO σ2 v0R 12) <| gd (okO σ2 (aR σ2 v0R 27) 102) <| gd (inB v1I (aN σ2 (aR σ2 v0R 27))) <| bnd (M_Md_doesRing (aL σ2 (aR σ2 v0R 27) v1I.toNatClampNeg) v5I σ2) fun r7 σ8 => if r7 = v2I then (if v4I < 0 then (L_Md_heavy_3 v0R v1I v2I v3I v4I v5I σ8) else (if v2I = 0 then (gd (okO σ8 v0R 12) <| gd (okO σ8 (aR σ8 v0R 35) 101) <| gd (inB v5I (aN σ8 (aR σ8 v0R 35))) <| gd (inB v4I (aN σ8 (aR σ8 v0R 35))) <| if (aI σ8 (aR σ8 v0R 35) v4I.toNatClampNeg) < (aI σ8 (aR σ8 v0R 35) v5I.toNatClampNeg) then (L_Md_heavy_3 v0R v1I v2I v3I v4I v5I σ8) else (L_Md_heavy_4 v0R v1I v2I v3I v4I v5I σ8)) else (gd (okO σ8 v0R 12) <| gd (okO σ8 (aR σ8 v0R 35) 101) <| gd (inB v5I (aN σ8 (aR σ8 v0R 35))) <| gd (inB v4I (aN σ8 (aR σ8 v0R 35))) <| if (aI σ8 (aR σ8 v0R 35) v5I.toNatClampNeg) < (aI σ8 (aR σ8 v0R 35) v4I.toNatClampNeg) then (L_Md_heavy_3 v0R v1I v2I v3I v4I v5I σ8) else (L_Md_heavy_4 v0R v1I v2I v3I v4I v5I σ8)))) else (L_Md_heavy_10 v0R v1I v2I v3I v4I v5I σ8)) else (if v4I < 0 then (L_Md_heavy_11 (((-1) : Int32)) σ2) else (if v3I = 0 then (L_Md_heavy_11 v4I σ2) else (gd (okO σ2 v0R 12) <| gd (okO σ2 (aR σ2 v0R 35) 101) <| gd (inB v4I (aN σ2 (aR σ2 v0R 35))) <| L_Md_heavy_11 (aI σ2 (aR σ2 v0R 35) v4I.toNatClampNeg) σ2)))) := by
  unfold L_Md_heavy_2
  rw [lp_eq]
  show lpK (lp F_Md_heavy) (T_Md_heavy_2 v0R v1I v2I v3I v4I v5I σ) = _
  unfold T_Md_heavy_2
  simp only [lpK_ite, lq_inl, lq_inr, lpK_bnd, lpK_gd, lq_let]
  try rfl
set_option maxRecDepth 20000 in
theorem E_Md_heavy_3 (v0R : Nat) (v1I : Int32) (v2I : Int32) (v3I : Int32) (v4I : Int32) (v5I : Int32) (σ : AM) : L_Md_heavy_3 v0R v1I v2I v3I v4I v5I σ = (L_Md_heavy_5 v0R v1I v2I v3I v4I v5I ((1 : Int32)) σ) := by
  unfold L_Md_heavy_3
  rw [lp_eq]
  show lpK (lp F_Md_heavy) (T_Md_heavy_3 v0R v1I v2I v3I v4I v5I σ) = _
  unfold T_Md_heavy_3
  simp only [lpK_ite, lq_inl, lq_inr, lpK_bnd, lpK_gd, lq_let]
  try rfl
set_option maxRecDepth 20000 in
theorem E_Md_heavy_4 (v0R : Nat) (v1I : Int32) (v2I : Int32) (v3I : Int32) (v4I : Int32) (v5I : Int32) (σ : AM) : L_Md_heavy_4 v0R v1I v2I v3I v4I v5I σ = (L_Md_heavy_5 v0R v1I v2I v3I v4I v5I ((0 : Int32)) σ) := by
  unfold L_Md_heavy_4
  rw [lp_eq]
  show lpK (lp F_Md_heavy) (T_Md_heavy_4 v0R v1I v2I v3I v4I v5I σ) = _
  unfold T_Md_heavy_4
  simp only [lpK_ite, lq_inl, lq_inr, lpK_bnd, lpK_gd, lq_let]
  try rfl
set_option maxRecDepth 20000 in
theorem E_Md_heavy_5 (v0R : Nat) (v1I : Int32) (v2I : Int32) (v3I : Int32) (v4I : Int32) (v5I : Int32) (s0I : Int32) (σ : AM) : L_Md_heavy_5 v0R v1I v2I v3I v4I v5I s0I σ = (if v4I < 0 then (L_Md_heavy_6 v0R v1I v2I v3I v4I v5I s0I σ) else (gd (okO σ v0R 12) <| gd (okO σ (aR σ v0R 35) 101) <| gd (inB v5I (aN σ (aR σ v0R 35))) <| gd (inB v4I (aN σ (aR σ v0R 35))) <| if (aI σ (aR σ v0R 35) v5I.toNatClampNeg) = (aI σ (aR σ v0R 35) v4I.toNatClampNeg) then (bnd (M_Md_bits v5I σ) fun r5 σ6 => bnd (M_Md_bits v4I σ6) fun r7 σ8 => if r5 < r7 then (L_Md_heavy_7 v0R v1I v2I v3I v4I v5I s0I ((1 : Int32)) σ8) else (L_Md_heavy_6 v0R v1I v2I v3I v4I v5I s0I σ8)) else (L_Md_heavy_6 v0R v1I v2I v3I v4I v5I s0I σ))) := by
  unfold L_Md_heavy_5
  rw [lp_eq]
  show lpK (lp F_Md_heavy) (T_Md_heavy_5 v0R v1I v2I v3I v4I v5I s0I σ) = _
  unfold T_Md_heavy_5
  simp only [lpK_ite, lq_inl, lq_inr, lpK_bnd, lpK_gd, lq_let]
  try rfl
set_option maxRecDepth 20000 in
theorem E_Md_heavy_6 (v0R : Nat) (v1I : Int32) (v2I : Int32) (v3I : Int32) (v4I : Int32) (v5I : Int32) (v6I : Int32) (σ : AM) : L_Md_heavy_6 v0R v1I v2I v3I v4I v5I v6I σ = (L_Md_heavy_7 v0R v1I v2I v3I v4I v5I v6I ((0 : Int32)) σ) := by
  unfold L_Md_heavy_6
  rw [lp_eq]
  show lpK (lp F_Md_heavy) (T_Md_heavy_6 v0R v1I v2I v3I v4I v5I v6I σ) = _
  unfold T_Md_heavy_6
  simp only [lpK_ite, lq_inl, lq_inr, lpK_bnd, lpK_gd, lq_let]
  try rfl
set_option maxRecDepth 20000 in
theorem E_Md_heavy_7 (v0R : Nat) (v1I : Int32) (v2I : Int32) (v3I : Int32) (v4I : Int32) (v5I : Int32) (v6I : Int32) (s0I : Int32) (σ : AM) : L_Md_heavy_7 v0R v1I v2I v3I v4I v5I v6I s0I σ = (if v6I = 0 then (if s0I = 0 then (L_Md_heavy_9 v0R v1I v2I v3I v5I v4I σ) else (L_Md_heavy_8 v0R v1I v2I v3I v5I σ)) else (L_Md_heavy_8 v0R v1I v2I v3I v5I σ)) := by
  unfold L_Md_heavy_7
  rw [lp_eq]
  show lpK (lp F_Md_heavy) (T_Md_heavy_7 v0R v1I v2I v3I v4I v5I v6I s0I σ) = _
  unfold T_Md_heavy_7
  simp only [lpK_ite, lq_inl, lq_inr, lpK_bnd, lpK_gd, lq_let]
  try rfl
set_option maxRecDepth 20000 in
theorem E_Md_heavy_8 (v0R : Nat) (v1I : Int32) (v2I : Int32) (v3I : Int32) (v5I : Int32) (σ : AM) : L_Md_heavy_8 v0R v1I v2I v3I v5I σ = (L_Md_heavy_9 v0R v1I v2I v3I v5I v5I σ) := by
  unfold L_Md_heavy_8
  rw [lp_eq]
  show lpK (lp F_Md_heavy) (T_Md_heavy_8 v0R v1I v2I v3I v5I σ) = _
  unfold T_Md_heavy_8
  simp only [lpK_ite, lq_inl, lq_inr, lpK_bnd, lpK_gd, lq_let]
  try rfl
set_option maxRecDepth 20000 in
theorem E_Md_heavy_9 (v0R : Nat) (v1I : Int32) (v2I : Int32) (v3I : Int32) (v5I : Int32) (s0I : Int32) (σ : AM) : L_Md_heavy_9 v0R v1I v2I v3I v5I s0I σ = (L_Md_heavy_10 v0R v1I v2I v3I s0I v5I σ) := by
  unfold L_Md_heavy_9
  rw [lp_eq]
  show lpK (lp F_Md_heavy) (T_Md_heavy_9 v0R v1I v2I v3I v5I s0I σ) = _
  unfold T_Md_heavy_9
  simp only [lpK_ite, lq_inl, lq_inr, lpK_bnd, lpK_gd, lq_let]
  try rfl
set_option maxRecDepth 20000 in
theorem E_Md_heavy_10 (v0R : Nat) (v1I : Int32) (v2I : Int32) (v3I : Int32) (v4I : Int32) (v5I : Int32) (σ : AM) : L_Md_heavy_10 v0R v1I v2I v3I v4I v5I σ = (L_Md_heavy_2 v0R v1I v2I v3I v4I (v5I + (1 : Int32)) σ) := by
  unfold L_Md_heavy_10
  rw [lp_eq]
  show lpK (lp F_Md_heavy) (T_Md_heavy_10 v0R v1I v2I v3I v4I v5I σ) = _
  unfold T_Md_heavy_10
  simp only [lpK_ite, lq_inl, lq_inr, lpK_bnd, lpK_gd, lq_let]
  try rfl
set_option maxRecDepth 20000 in
theorem E_Md_heavy_11 (s0I : Int32) (σ : AM) : L_Md_heavy_11 s0I σ = ((some (s0I, σ))) := by
  unfold L_Md_heavy_11
  rw [lp_eq]
  show lpK (lp F_Md_heavy) (T_Md_heavy_11 s0I σ) = _
  unfold T_Md_heavy_11
  simp only [lpK_ite, lq_inl, lq_inr, lpK_bnd, lpK_gd, lq_let]
  try rfl
noncomputable def M_Md_heavy (v0R : Nat) (v1I : Int32) (v2I : Int32) (v3I : Int32) (σ : AM) : Option (Int32 × AM) := mw σ (L_Md_heavy_0 v0R v1I v2I v3I σ)
def I_Md_heavy (G : GX) (p : Program) (l : Launch) (e : Env) (s : State) (m : MethodId) (args : Array Value) (below : List Frame) (meth : Method) (c : Code) (z0 u0 n : Nat) : Prop :=
  (∀ (v0R : Nat) (v1I : Int32) (v2I : Int32) (v3I : Int32) (σ : AM), VX (QM eI G args s below z0 u0) G p l e s m args below meth c 3 z0 u0 8 (lpn F_Md_heavy n (0, v0R, v1I, v2I, v3I, 0, 0, 0, 0, σ)) 0 [(0, .ref v0R), (1, .int v1I), (2, .int v2I), (3, .int v3I)] [] σ) ∧
  (∀ (σ : AM), VX (QM eI G args s below z0 u0) G p l e s m args below meth c 3 z0 u0 8 (lpn F_Md_heavy n (1, 0, 0, 0, 0, 0, 0, 0, 0, σ)) 20 [] [] σ) ∧
  (∀ (v0R : Nat) (v1I : Int32) (v2I : Int32) (v3I : Int32) (v4I : Int32) (v5I : Int32) (σ : AM), VX (QM eI G args s below z0 u0) G p l e s m args below meth c 3 z0 u0 8 (lpn F_Md_heavy n (2, v0R, v1I, v2I, v3I, v4I, v5I, 0, 0, σ)) 33 [(0, .ref v0R), (1, .int v1I), (2, .int v2I), (3, .int v3I), (4, .int v4I), (5, .int v5I)] [] σ) ∧
  (∀ (v0R : Nat) (v1I : Int32) (v2I : Int32) (v3I : Int32) (v4I : Int32) (v5I : Int32) (σ : AM), VX (QM eI G args s below z0 u0) G p l e s m args below meth c 3 z0 u0 8 (lpn F_Md_heavy n (3, v0R, v1I, v2I, v3I, v4I, v5I, 0, 0, σ)) 103 [(0, .ref v0R), (1, .int v1I), (2, .int v2I), (3, .int v3I), (4, .int v4I), (5, .int v5I)] [] σ) ∧
  (∀ (v0R : Nat) (v1I : Int32) (v2I : Int32) (v3I : Int32) (v4I : Int32) (v5I : Int32) (σ : AM), VX (QM eI G args s below z0 u0) G p l e s m args below meth c 3 z0 u0 8 (lpn F_Md_heavy n (4, v0R, v1I, v2I, v3I, v4I, v5I, 0, 0, σ)) 107 [(0, .ref v0R), (1, .int v1I), (2, .int v2I), (3, .int v3I), (4, .int v4I), (5, .int v5I)] [] σ) ∧
  (∀ (v0R : Nat) (v1I : Int32) (v2I : Int32) (v3I : Int32) (v4I : Int32) (v5I : Int32) (s0I : Int32) (σ : AM), VX (QM eI G args s below z0 u0) G p l e s m args below meth c 3 z0 u0 8 (lpn F_Md_heavy n (5, v0R, v1I, v2I, v3I, v4I, v5I, 0, s0I, σ)) 108 [(0, .ref v0R), (1, .int v1I), (2, .int v2I), (3, .int v3I), (4, .int v4I), (5, .int v5I)] [.int s0I] σ) ∧
  (∀ (v0R : Nat) (v1I : Int32) (v2I : Int32) (v3I : Int32) (v4I : Int32) (v5I : Int32) (v6I : Int32) (σ : AM), VX (QM eI G args s below z0 u0) G p l e s m args below meth c 3 z0 u0 8 (lpn F_Md_heavy n (6, v0R, v1I, v2I, v3I, v4I, v5I, v6I, 0, σ)) 149 [(0, .ref v0R), (1, .int v1I), (2, .int v2I), (3, .int v3I), (4, .int v4I), (5, .int v5I), (6, .int v6I)] [] σ) ∧
  (∀ (v0R : Nat) (v1I : Int32) (v2I : Int32) (v3I : Int32) (v4I : Int32) (v5I : Int32) (v6I : Int32) (s0I : Int32) (σ : AM), VX (QM eI G args s below z0 u0) G p l e s m args below meth c 3 z0 u0 8 (lpn F_Md_heavy n (7, v0R, v1I, v2I, v3I, v4I, v5I, v6I, s0I, σ)) 150 [(0, .ref v0R), (1, .int v1I), (2, .int v2I), (3, .int v3I), (4, .int v4I), (5, .int v5I), (6, .int v6I)] [.int s0I] σ) ∧
  (∀ (v0R : Nat) (v1I : Int32) (v2I : Int32) (v3I : Int32) (v5I : Int32) (σ : AM), VX (QM eI G args s below z0 u0) G p l e s m args below meth c 3 z0 u0 8 (lpn F_Md_heavy n (8, v0R, v1I, v2I, v3I, 0, v5I, 0, 0, σ)) 162 [(0, .ref v0R), (1, .int v1I), (2, .int v2I), (3, .int v3I), (5, .int v5I)] [] σ) ∧
  (∀ (v0R : Nat) (v1I : Int32) (v2I : Int32) (v3I : Int32) (v5I : Int32) (s0I : Int32) (σ : AM), VX (QM eI G args s below z0 u0) G p l e s m args below meth c 3 z0 u0 8 (lpn F_Md_heavy n (9, v0R, v1I, v2I, v3I, 0, v5I, 0, s0I, σ)) 169 [(0, .ref v0R), (1, .int v1I), (2, .int v2I), (3, .int v3I), (5, .int v5I)] [.int s0I] σ) ∧
  (∀ (v0R : Nat) (v1I : Int32) (v2I : Int32) (v3I : Int32) (v4I : Int32) (v5I : Int32) (σ : AM), VX (QM eI G args s below z0 u0) G p l e s m args below meth c 3 z0 u0 8 (lpn F_Md_heavy n (10, v0R, v1I, v2I, v3I, v4I, v5I, 0, 0, σ)) 171 [(0, .ref v0R), (1, .int v1I), (2, .int v2I), (3, .int v3I), (4, .int v4I), (5, .int v5I)] [] σ) ∧
  (∀ (s0I : Int32) (σ : AM), VX (QM eI G args s below z0 u0) G p l e s m args below meth c 3 z0 u0 8 (lpn F_Md_heavy n (11, 0, 0, 0, 0, 0, 0, 0, s0I, σ)) 202 [] [.int s0I] σ)
set_option maxRecDepth 20000 in
theorem s_Md_heavy_0 {G : GX} {p : Program} {l : Launch} {e : Env} {s : State} {m : MethodId} {args : Array Value} {below : List Frame} {meth : Method} {c : Code} {z0 u0 n : Nat} (C : Cx G p s m args meth c prog_14_method_117_code 8 "BellPlateModel" ((some FieldType.int))) (IH : I_Md_heavy G p l e s m args below meth c z0 u0 n) (v0R : Nat) (v1I : Int32) (v2I : Int32) (v3I : Int32) (σ : AM) : VX (QM eI G args s below z0 u0) G p l e s m args below meth c 3 z0 u0 8 (lpK (lpn F_Md_heavy n) (T_Md_heavy_0 v0R v1I v2I v3I σ)) 0 [(0, .ref v0R), (1, .int v1I), (2, .int v2I), (3, .int v3I)] [] σ := by
  unfold T_Md_heavy_0
  refine x_aload_n C d_Md_heavy_0 0 rfl ?_
  refine x_iconst (v := (0 : Int32)) C d_Md_heavy_1 (by decide) ?_
  refine x_gd (fun h1 => ?_)
  refine x_putI (k := 0) C (okO_iff.mp h1) rfl j11_ok y11_ok n11_ok (by decide) rfl rfl rfl rfl w1852 d_Md_heavy_2 ?_
  refine x_letS (fun σ2 e3 => ?_)
  refine x_aload_n C d_Md_heavy_5 0 rfl ?_
  refine x_iload_n C d_Md_heavy_6 1 rfl ?_
  refine x_callVI (As := [.int v1I]) C (c_Md_isWeights G l v0R v1I σ2) (by first | exact (okO_iff.mp h1) | (rw [e3]; exact (okO_iff.mp h1))) rfl w2182 w83 w2180 w2183 w134 k_Md_isWeights rfl (by decide) (by decide) rfl (Nat.le_of_ble_eq_true rfl) d_Md_heavy_7 (fun r4 σ5 => ?_)
  refine x_if_eq (tgt := 20) C d_Md_heavy_10 (by decide) (fun _ => ?_) (fun _ => ?_)
  · refine x_lv [] rfl ?_
    exact IH.2.1  (σ5)
  · refine x_iload_n C d_Md_heavy_13 3 rfl ?_
    refine x_callSI (As := [.int v3I]) C (c_Md_isWhat G l v3I σ5) w2328 w2327 w2329 w134 k_Md_isWhat rfl (by decide) (by decide) rfl (Nat.le_of_ble_eq_true rfl) d_Md_heavy_14 (fun r6 σ7 => ?_)
    refine x_if_ne (tgt := 22) C d_Md_heavy_17 (by decide) (fun _ => ?_) (fun _ => ?_)
    · refine x_lv [] rfl ?_
      exact IH.2.1  (σ7)
    · refine x_aload_n C d_Md_heavy_22 0 rfl ?_
      refine x_iload_n C d_Md_heavy_23 1 rfl ?_
      refine x_gd (fun h10 => ?_)
      refine x_callVV (As := [.int v1I]) C (c_Md_unpacks G l v0R v1I σ7) (okO_iff.mp h10) rfl w1818 w56 w1816 w1819 w134 k_Md_unpacks rfl (by decide) (by decide) rfl (Nat.le_of_ble_eq_true rfl) d_Md_heavy_24 (fun r8 σ9 => ?_)
      refine x_iconst (v := ((-1) : Int32)) C d_Md_heavy_27 (by decide) ?_
      refine x_istore (lv' := [(4, .int ((-1) : Int32)), (0, .ref v0R), (1, .int v1I), (2, .int v2I), (3, .int v3I)]) C d_Md_heavy_28 (by decide) rfl ?_
      refine x_iconst (v := (0 : Int32)) C d_Md_heavy_30 (by decide) ?_
      refine x_istore (lv' := [(5, .int (0 : Int32)), (4, .int ((-1) : Int32)), (0, .ref v0R), (1, .int v1I), (2, .int v2I), (3, .int v3I)]) C d_Md_heavy_31 (by decide) rfl ?_
      refine x_lv [2, 3, 4, 5, 1, 0] rfl ?_
      exact IH.2.2.1 v0R v1I v2I v3I (((-1) : Int32)) ((0 : Int32)) (σ9)
set_option maxRecDepth 20000 in
theorem s_Md_heavy_1 {G : GX} {p : Program} {l : Launch} {e : Env} {s : State} {m : MethodId} {args : Array Value} {below : List Frame} {meth : Method} {c : Code} {z0 u0 n : Nat} (C : Cx G p s m args meth c prog_14_method_117_code 8 "BellPlateModel" ((some FieldType.int))) (IH : I_Md_heavy G p l e s m args below meth c z0 u0 n)  (σ : AM) : VX (QM eI G args s below z0 u0) G p l e s m args below meth c 3 z0 u0 8 (lpK (lpn F_Md_heavy n) (T_Md_heavy_1  σ)) 20 [] [] σ := by
  unfold T_Md_heavy_1
  refine x_iconst (v := ((-1) : Int32)) C d_Md_heavy_20 (by decide) ?_
  exact x_iret C d_Md_heavy_21
set_option maxRecDepth 20000 in
theorem s_Md_heavy_2 {G : GX} {p : Program} {l : Launch} {e : Env} {s : State} {m : MethodId} {args : Array Value} {below : List Frame} {meth : Method} {c : Code} {z0 u0 n : Nat} (C : Cx G p s m args meth c prog_14_method_117_code 8 "BellPlateModel" ((some FieldType.int))) (IH : I_Md_heavy G p l e s m args below meth c z0 u0 n) (v0R : Nat) (v1I : Int32) (v2I : Int32) (v3I : Int32) (v4I : Int32) (v5I : Int32) (σ : AM) : VX (QM eI G args s below z0 u0) G p l e s m args below meth c 3 z0 u0 8 (lpK (lpn F_Md_heavy n) (T_Md_heavy_2 v0R v1I v2I v3I v4I v5I σ)) 33 [(0, .ref v0R), (1, .int v1I), (2, .int v2I), (3, .int v3I), (4, .int v4I), (5, .int v5I)] [] σ := by
  unfold T_Md_heavy_2
  refine x_iload C d_Md_heavy_33 5 rfl ?_
  refine x_aload_n C d_Md_heavy_35 0 rfl ?_
  refine x_gd (fun h3 => ?_)
  refine x_callVI (As := []) C (c_Md_sets G l v0R  σ) (okO_iff.mp h3) rfl w1826 w58 w1824 w1827 w134 k_Md_sets rfl (by decide) (by decide) rfl (Nat.le_of_ble_eq_true rfl) d_Md_heavy_36 (fun r1 σ2 => ?_)
  refine x_icmp_ge (tgt := 177) C d_Md_heavy_39 (by decide) (fun _ => ?_) (fun _ => ?_)
  · refine x_aload_n C d_Md_heavy_42 0 rfl ?_
    refine x_gd (fun h4 => ?_)
    refine x_gd (fun h5 => ?_)
    refine x_getR (k := 27) (kv := 102) C (okO_iff.mp h4) rfl j11_ok (by decide) rfl (okO_iff.mp h5) (by decide) w1879 d_Md_heavy_43 ?_
    refine x_iload_n C d_Md_heavy_46 1 rfl ?_
    refine x_gd (fun h6 => ?_)
    refine x_aldJ C (okO_iff.mp h5) (inB_iff.mp h6) d_Md_heavy_47 ?_
    refine x_iload C d_Md_heavy_48 5 rfl ?_
    refine x_callSI (As := [.long (aL σ2 (aR σ2 v0R 27) v1I.toNatClampNeg), .int v5I]) C (c_Md_doesRing G l (aL σ2 (aR σ2 v0R 27) v1I.toNatClampNeg) v5I σ2) w2235 w2234 w2236 w134 k_Md_doesRing rfl (by decide) (by decide) rfl (Nat.le_of_ble_eq_true rfl) d_Md_heavy_50 (fun r7 σ8 => ?_)
    refine x_iload_n C d_Md_heavy_53 2 rfl ?_
    refine x_icmp_ne (tgt := 171) C d_Md_heavy_54 (by decide) (fun _ => ?_) (fun _ => ?_)
    · refine x_iload C d_Md_heavy_57 4 rfl ?_
      refine x_if_lt (tgt := 103) C d_Md_heavy_59 (by decide) (fun _ => ?_) (fun _ => ?_)
      · exact IH.2.2.2.1 v0R v1I v2I v3I v4I v5I (σ8)
      · refine x_iload_n C d_Md_heavy_62 2 rfl ?_
        refine x_if_eq (tgt := 86) C d_Md_heavy_63 (by decide) (fun _ => ?_) (fun _ => ?_)
        · refine x_aload_n C d_Md_heavy_86 0 rfl ?_
          refine x_gd (fun h9 => ?_)
          refine x_gd (fun h10 => ?_)
          refine x_getR (k := 35) (kv := 101) C (okO_iff.mp h9) rfl j11_ok (by decide) rfl (okO_iff.mp h10) (by decide) w1887 d_Md_heavy_87 ?_
          refine x_iload C d_Md_heavy_90 5 rfl ?_
          refine x_gd (fun h11 => ?_)
          refine x_aldI C (okO_iff.mp h10) (inB_iff.mp h11) d_Md_heavy_92 ?_
          refine x_aload_n C d_Md_heavy_93 0 rfl ?_
          refine x_getR (k := 35) (kv := 101) C (okO_iff.mp h9) rfl j11_ok (by decide) rfl (okO_iff.mp h10) (by decide) w1887 d_Md_heavy_94 ?_
          refine x_iload C d_Md_heavy_97 4 rfl ?_
          refine x_gd (fun h12 => ?_)
          refine x_aldI C (okO_iff.mp h10) (inB_iff.mp h12) d_Md_heavy_99 ?_
          refine x_icmp_le (tgt := 107) C d_Md_heavy_100 (by decide) (fun _ => ?_) (fun _ => ?_)
          · exact IH.2.2.2.1 v0R v1I v2I v3I v4I v5I (σ8)
          · exact IH.2.2.2.2.1 v0R v1I v2I v3I v4I v5I (σ8)
        · refine x_aload_n C d_Md_heavy_66 0 rfl ?_
          refine x_gd (fun h13 => ?_)
          refine x_gd (fun h14 => ?_)
          refine x_getR (k := 35) (kv := 101) C (okO_iff.mp h13) rfl j11_ok (by decide) rfl (okO_iff.mp h14) (by decide) w1887 d_Md_heavy_67 ?_
          refine x_iload C d_Md_heavy_70 5 rfl ?_
          refine x_gd (fun h15 => ?_)
          refine x_aldI C (okO_iff.mp h14) (inB_iff.mp h15) d_Md_heavy_72 ?_
          refine x_aload_n C d_Md_heavy_73 0 rfl ?_
          refine x_getR (k := 35) (kv := 101) C (okO_iff.mp h13) rfl j11_ok (by decide) rfl (okO_iff.mp h14) (by decide) w1887 d_Md_heavy_74 ?_
          refine x_iload C d_Md_heavy_77 4 rfl ?_
          refine x_gd (fun h16 => ?_)
          refine x_aldI C (okO_iff.mp h14) (inB_iff.mp h16) d_Md_heavy_79 ?_
          refine x_icmp_ge (tgt := 107) C d_Md_heavy_80 (by decide) (fun _ => ?_) (fun _ => ?_)
          · refine x_goto (tgt := 103) C d_Md_heavy_83 (by decide) ?_
            exact IH.2.2.2.1 v0R v1I v2I v3I v4I v5I (σ8)
          · exact IH.2.2.2.2.1 v0R v1I v2I v3I v4I v5I (σ8)
    · exact IH.2.2.2.2.2.2.2.2.2.2.1 v0R v1I v2I v3I v4I v5I (σ8)
  · refine x_iload C d_Md_heavy_177 4 rfl ?_
    refine x_if_ge (tgt := 186) C d_Md_heavy_179 (by decide) (fun _ => ?_) (fun _ => ?_)
    · refine x_iconst (v := ((-1) : Int32)) C d_Md_heavy_182 (by decide) ?_
      refine x_goto (tgt := 202) C d_Md_heavy_183 (by decide) ?_
      refine x_lv [] rfl ?_
      exact IH.2.2.2.2.2.2.2.2.2.2.2 (((-1) : Int32)) (σ2)
    · refine x_iload_n C d_Md_heavy_186 3 rfl ?_
      refine x_if_ne (tgt := 195) C d_Md_heavy_187 (by decide) (fun _ => ?_) (fun _ => ?_)
      · refine x_iload C d_Md_heavy_190 4 rfl ?_
        refine x_goto (tgt := 202) C d_Md_heavy_192 (by decide) ?_
        refine x_lv [] rfl ?_
        exact IH.2.2.2.2.2.2.2.2.2.2.2 v4I (σ2)
      · refine x_aload_n C d_Md_heavy_195 0 rfl ?_
        refine x_gd (fun h17 => ?_)
        refine x_gd (fun h18 => ?_)
        refine x_getR (k := 35) (kv := 101) C (okO_iff.mp h17) rfl j11_ok (by decide) rfl (okO_iff.mp h18) (by decide) w1887 d_Md_heavy_196 ?_
        refine x_iload C d_Md_heavy_199 4 rfl ?_
        refine x_gd (fun h19 => ?_)
        refine x_aldI C (okO_iff.mp h18) (inB_iff.mp h19) d_Md_heavy_201 ?_
        refine x_lv [] rfl ?_
        exact IH.2.2.2.2.2.2.2.2.2.2.2 (aI σ2 (aR σ2 v0R 35) v4I.toNatClampNeg) (σ2)
set_option maxRecDepth 20000 in
theorem s_Md_heavy_3 {G : GX} {p : Program} {l : Launch} {e : Env} {s : State} {m : MethodId} {args : Array Value} {below : List Frame} {meth : Method} {c : Code} {z0 u0 n : Nat} (C : Cx G p s m args meth c prog_14_method_117_code 8 "BellPlateModel" ((some FieldType.int))) (IH : I_Md_heavy G p l e s m args below meth c z0 u0 n) (v0R : Nat) (v1I : Int32) (v2I : Int32) (v3I : Int32) (v4I : Int32) (v5I : Int32) (σ : AM) : VX (QM eI G args s below z0 u0) G p l e s m args below meth c 3 z0 u0 8 (lpK (lpn F_Md_heavy n) (T_Md_heavy_3 v0R v1I v2I v3I v4I v5I σ)) 103 [(0, .ref v0R), (1, .int v1I), (2, .int v2I), (3, .int v3I), (4, .int v4I), (5, .int v5I)] [] σ := by
  unfold T_Md_heavy_3
  refine x_iconst (v := (1 : Int32)) C d_Md_heavy_103 (by decide) ?_
  refine x_goto (tgt := 108) C d_Md_heavy_104 (by decide) ?_
  exact IH.2.2.2.2.2.1 v0R v1I v2I v3I v4I v5I ((1 : Int32)) (σ)
set_option maxRecDepth 20000 in
theorem s_Md_heavy_4 {G : GX} {p : Program} {l : Launch} {e : Env} {s : State} {m : MethodId} {args : Array Value} {below : List Frame} {meth : Method} {c : Code} {z0 u0 n : Nat} (C : Cx G p s m args meth c prog_14_method_117_code 8 "BellPlateModel" ((some FieldType.int))) (IH : I_Md_heavy G p l e s m args below meth c z0 u0 n) (v0R : Nat) (v1I : Int32) (v2I : Int32) (v3I : Int32) (v4I : Int32) (v5I : Int32) (σ : AM) : VX (QM eI G args s below z0 u0) G p l e s m args below meth c 3 z0 u0 8 (lpK (lpn F_Md_heavy n) (T_Md_heavy_4 v0R v1I v2I v3I v4I v5I σ)) 107 [(0, .ref v0R), (1, .int v1I), (2, .int v2I), (3, .int v3I), (4, .int v4I), (5, .int v5I)] [] σ := by
  unfold T_Md_heavy_4
  refine x_iconst (v := (0 : Int32)) C d_Md_heavy_107 (by decide) ?_
  exact IH.2.2.2.2.2.1 v0R v1I v2I v3I v4I v5I ((0 : Int32)) (σ)
set_option maxRecDepth 20000 in
theorem s_Md_heavy_5 {G : GX} {p : Program} {l : Launch} {e : Env} {s : State} {m : MethodId} {args : Array Value} {below : List Frame} {meth : Method} {c : Code} {z0 u0 n : Nat} (C : Cx G p s m args meth c prog_14_method_117_code 8 "BellPlateModel" ((some FieldType.int))) (IH : I_Md_heavy G p l e s m args below meth c z0 u0 n) (v0R : Nat) (v1I : Int32) (v2I : Int32) (v3I : Int32) (v4I : Int32) (v5I : Int32) (s0I : Int32) (σ : AM) : VX (QM eI G args s below z0 u0) G p l e s m args below meth c 3 z0 u0 8 (lpK (lpn F_Md_heavy n) (T_Md_heavy_5 v0R v1I v2I v3I v4I v5I s0I σ)) 108 [(0, .ref v0R), (1, .int v1I), (2, .int v2I), (3, .int v3I), (4, .int v4I), (5, .int v5I)] [.int s0I] σ := by
  unfold T_Md_heavy_5
  refine x_istore (lv' := [(6, .int s0I), (0, .ref v0R), (1, .int v1I), (2, .int v2I), (3, .int v3I), (4, .int v4I), (5, .int v5I)]) C d_Md_heavy_108 (by decide) rfl ?_
  refine x_iload C d_Md_heavy_110 5 rfl ?_
  refine x_if_lt (tgt := 149) C d_Md_heavy_112 (by decide) (fun _ => ?_) (fun _ => ?_)
  · refine x_lv [1, 2, 3, 4, 5, 6, 0] rfl ?_
    exact IH.2.2.2.2.2.2.1 v0R v1I v2I v3I v4I v5I s0I (σ)
  · refine x_aload_n C d_Md_heavy_115 1 rfl ?_
    refine x_gd (fun h1 => ?_)
    refine x_gd (fun h2 => ?_)
    refine x_getR (k := 35) (kv := 101) C (okO_iff.mp h1) rfl j11_ok (by decide) rfl (okO_iff.mp h2) (by decide) w1887 d_Md_heavy_116 ?_
    refine x_iload C d_Md_heavy_119 6 rfl ?_
    refine x_gd (fun h3 => ?_)
    refine x_aldI C (okO_iff.mp h2) (inB_iff.mp h3) d_Md_heavy_121 ?_
    refine x_aload_n C d_Md_heavy_122 1 rfl ?_
    refine x_getR (k := 35) (kv := 101) C (okO_iff.mp h1) rfl j11_ok (by decide) rfl (okO_iff.mp h2) (by decide) w1887 d_Md_heavy_123 ?_
    refine x_iload C d_Md_heavy_126 5 rfl ?_
    refine x_gd (fun h4 => ?_)
    refine x_aldI C (okO_iff.mp h2) (inB_iff.mp h4) d_Md_heavy_128 ?_
    refine x_icmp_ne (tgt := 149) C d_Md_heavy_129 (by decide) (fun _ => ?_) (fun _ => ?_)
    · refine x_iload C d_Md_heavy_132 6 rfl ?_
      refine x_callSI (As := [.int v5I]) C (c_Md_bits G l v5I σ) w2232 w2231 w2233 w134 k_Md_bits rfl (by decide) (by decide) rfl (Nat.le_of_ble_eq_true rfl) d_Md_heavy_134 (fun r5 σ6 => ?_)
      refine x_iload C d_Md_heavy_137 5 rfl ?_
      refine x_callSI (As := [.int v4I]) C (c_Md_bits G l v4I σ6) w2232 w2231 w2233 w134 k_Md_bits rfl (by decide) (by decide) rfl (Nat.le_of_ble_eq_true rfl) d_Md_heavy_139 (fun r7 σ8 => ?_)
      refine x_icmp_ge (tgt := 149) C d_Md_heavy_142 (by decide) (fun _ => ?_) (fun _ => ?_)
      · refine x_iconst (v := (1 : Int32)) C d_Md_heavy_145 (by decide) ?_
        refine x_goto (tgt := 150) C d_Md_heavy_146 (by decide) ?_
        refine x_lv [1, 2, 3, 4, 5, 6, 0] rfl ?_
        exact IH.2.2.2.2.2.2.2.1 v0R v1I v2I v3I v4I v5I s0I ((1 : Int32)) (σ8)
      · refine x_lv [1, 2, 3, 4, 5, 6, 0] rfl ?_
        exact IH.2.2.2.2.2.2.1 v0R v1I v2I v3I v4I v5I s0I (σ8)
    · refine x_lv [1, 2, 3, 4, 5, 6, 0] rfl ?_
      exact IH.2.2.2.2.2.2.1 v0R v1I v2I v3I v4I v5I s0I (σ)
set_option maxRecDepth 20000 in
theorem s_Md_heavy_6 {G : GX} {p : Program} {l : Launch} {e : Env} {s : State} {m : MethodId} {args : Array Value} {below : List Frame} {meth : Method} {c : Code} {z0 u0 n : Nat} (C : Cx G p s m args meth c prog_14_method_117_code 8 "BellPlateModel" ((some FieldType.int))) (IH : I_Md_heavy G p l e s m args below meth c z0 u0 n) (v0R : Nat) (v1I : Int32) (v2I : Int32) (v3I : Int32) (v4I : Int32) (v5I : Int32) (v6I : Int32) (σ : AM) : VX (QM eI G args s below z0 u0) G p l e s m args below meth c 3 z0 u0 8 (lpK (lpn F_Md_heavy n) (T_Md_heavy_6 v0R v1I v2I v3I v4I v5I v6I σ)) 149 [(0, .ref v0R), (1, .int v1I), (2, .int v2I), (3, .int v3I), (4, .int v4I), (5, .int v5I), (6, .int v6I)] [] σ := by
  unfold T_Md_heavy_6
  refine x_iconst (v := (0 : Int32)) C d_Md_heavy_149 (by decide) ?_
  exact IH.2.2.2.2.2.2.2.1 v0R v1I v2I v3I v4I v5I v6I ((0 : Int32)) (σ)
set_option maxRecDepth 20000 in
theorem s_Md_heavy_7 {G : GX} {p : Program} {l : Launch} {e : Env} {s : State} {m : MethodId} {args : Array Value} {below : List Frame} {meth : Method} {c : Code} {z0 u0 n : Nat} (C : Cx G p s m args meth c prog_14_method_117_code 8 "BellPlateModel" ((some FieldType.int))) (IH : I_Md_heavy G p l e s m args below meth c z0 u0 n) (v0R : Nat) (v1I : Int32) (v2I : Int32) (v3I : Int32) (v4I : Int32) (v5I : Int32) (v6I : Int32) (s0I : Int32) (σ : AM) : VX (QM eI G args s below z0 u0) G p l e s m args below meth c 3 z0 u0 8 (lpK (lpn F_Md_heavy n) (T_Md_heavy_7 v0R v1I v2I v3I v4I v5I v6I s0I σ)) 150 [(0, .ref v0R), (1, .int v1I), (2, .int v2I), (3, .int v3I), (4, .int v4I), (5, .int v5I), (6, .int v6I)] [.int s0I] σ := by
  unfold T_Md_heavy_7
  refine x_istore (lv' := [(7, .int s0I), (0, .ref v0R), (1, .int v1I), (2, .int v2I), (3, .int v3I), (4, .int v4I), (5, .int v5I), (6, .int v6I)]) C d_Md_heavy_150 (by decide) rfl ?_
  refine x_iload C d_Md_heavy_152 7 rfl ?_
  refine x_if_ne (tgt := 162) C d_Md_heavy_154 (by decide) (fun _ => ?_) (fun _ => ?_)
  · refine x_iload C d_Md_heavy_157 0 rfl ?_
    refine x_if_eq (tgt := 167) C d_Md_heavy_159 (by decide) (fun _ => ?_) (fun _ => ?_)
    · refine x_iload C d_Md_heavy_167 5 rfl ?_
      refine x_lv [1, 2, 3, 4, 6] rfl ?_
      exact IH.2.2.2.2.2.2.2.2.2.1 v0R v1I v2I v3I v5I v4I (σ)
    · refine x_lv [1, 2, 3, 4, 6] rfl ?_
      exact IH.2.2.2.2.2.2.2.2.1 v0R v1I v2I v3I v5I (σ)
  · refine x_lv [1, 2, 3, 4, 6] rfl ?_
    exact IH.2.2.2.2.2.2.2.2.1 v0R v1I v2I v3I v5I (σ)
set_option maxRecDepth 20000 in
theorem s_Md_heavy_8 {G : GX} {p : Program} {l : Launch} {e : Env} {s : State} {m : MethodId} {args : Array Value} {below : List Frame} {meth : Method} {c : Code} {z0 u0 n : Nat} (C : Cx G p s m args meth c prog_14_method_117_code 8 "BellPlateModel" ((some FieldType.int))) (IH : I_Md_heavy G p l e s m args below meth c z0 u0 n) (v0R : Nat) (v1I : Int32) (v2I : Int32) (v3I : Int32) (v5I : Int32) (σ : AM) : VX (QM eI G args s below z0 u0) G p l e s m args below meth c 3 z0 u0 8 (lpK (lpn F_Md_heavy n) (T_Md_heavy_8 v0R v1I v2I v3I v5I σ)) 162 [(0, .ref v0R), (1, .int v1I), (2, .int v2I), (3, .int v3I), (5, .int v5I)] [] σ := by
  unfold T_Md_heavy_8
  refine x_iload C d_Md_heavy_162 4 rfl ?_
  refine x_goto (tgt := 169) C d_Md_heavy_164 (by decide) ?_
  exact IH.2.2.2.2.2.2.2.2.2.1 v0R v1I v2I v3I v5I v5I (σ)
set_option maxRecDepth 20000 in
theorem s_Md_heavy_9 {G : GX} {p : Program} {l : Launch} {e : Env} {s : State} {m : MethodId} {args : Array Value} {below : List Frame} {meth : Method} {c : Code} {z0 u0 n : Nat} (C : Cx G p s m args meth c prog_14_method_117_code 8 "BellPlateModel" ((some FieldType.int))) (IH : I_Md_heavy G p l e s m args below meth c z0 u0 n) (v0R : Nat) (v1I : Int32) (v2I : Int32) (v3I : Int32) (v5I : Int32) (s0I : Int32) (σ : AM) : VX (QM eI G args s below z0 u0) G p l e s m args below meth c 3 z0 u0 8 (lpK (lpn F_Md_heavy n) (T_Md_heavy_9 v0R v1I v2I v3I v5I s0I σ)) 169 [(0, .ref v0R), (1, .int v1I), (2, .int v2I), (3, .int v3I), (5, .int v5I)] [.int s0I] σ := by
  unfold T_Md_heavy_9
  refine x_istore (lv' := [(4, .int s0I), (0, .ref v0R), (1, .int v1I), (2, .int v2I), (3, .int v3I), (5, .int v5I)]) C d_Md_heavy_169 (by decide) rfl ?_
  refine x_lv [1, 2, 3, 4, 0, 5] rfl ?_
  exact IH.2.2.2.2.2.2.2.2.2.2.1 v0R v1I v2I v3I s0I v5I (σ)
set_option maxRecDepth 20000 in
theorem s_Md_heavy_10 {G : GX} {p : Program} {l : Launch} {e : Env} {s : State} {m : MethodId} {args : Array Value} {below : List Frame} {meth : Method} {c : Code} {z0 u0 n : Nat} (C : Cx G p s m args meth c prog_14_method_117_code 8 "BellPlateModel" ((some FieldType.int))) (IH : I_Md_heavy G p l e s m args below meth c z0 u0 n) (v0R : Nat) (v1I : Int32) (v2I : Int32) (v3I : Int32) (v4I : Int32) (v5I : Int32) (σ : AM) : VX (QM eI G args s below z0 u0) G p l e s m args below meth c 3 z0 u0 8 (lpK (lpn F_Md_heavy n) (T_Md_heavy_10 v0R v1I v2I v3I v4I v5I σ)) 171 [(0, .ref v0R), (1, .int v1I), (2, .int v2I), (3, .int v3I), (4, .int v4I), (5, .int v5I)] [] σ := by
  unfold T_Md_heavy_10
  refine x_iinc (v := v5I + (1 : Int32)) (lv' := [(5, .int (v5I + (1 : Int32))), (0, .ref v0R), (1, .int v1I), (2, .int v2I), (3, .int v3I), (4, .int v4I)]) C d_Md_heavy_171 5 rfl rfl (by decide) rfl ?_
  refine x_goto (tgt := 33) C d_Md_heavy_174 (by decide) ?_
  refine x_lv [1, 2, 3, 4, 5, 0] rfl ?_
  exact IH.2.2.1 v0R v1I v2I v3I v4I (v5I + (1 : Int32)) (σ)
set_option maxRecDepth 20000 in
theorem s_Md_heavy_11 {G : GX} {p : Program} {l : Launch} {e : Env} {s : State} {m : MethodId} {args : Array Value} {below : List Frame} {meth : Method} {c : Code} {z0 u0 n : Nat} (C : Cx G p s m args meth c prog_14_method_117_code 8 "BellPlateModel" ((some FieldType.int))) (IH : I_Md_heavy G p l e s m args below meth c z0 u0 n) (s0I : Int32) (σ : AM) : VX (QM eI G args s below z0 u0) G p l e s m args below meth c 3 z0 u0 8 (lpK (lpn F_Md_heavy n) (T_Md_heavy_11 s0I σ)) 202 [] [.int s0I] σ := by
  unfold T_Md_heavy_11
  exact x_iret C d_Md_heavy_202
theorem i_Md_heavy {G : GX} {p : Program} {l : Launch} {e : Env} {s : State} {m : MethodId} {args : Array Value} {below : List Frame} {meth : Method} {c : Code} {z0 u0 : Nat} (C : Cx G p s m args meth c prog_14_method_117_code 8 "BellPlateModel" ((some FieldType.int))) (n : Nat) : I_Md_heavy G p l e s m args below meth c z0 u0 n := by
  induction n with
  | zero => exact ⟨fun _ _ _ _ _ => x_none, fun _ => x_none, fun _ _ _ _ _ _ _ => x_none, fun _ _ _ _ _ _ _ => x_none, fun _ _ _ _ _ _ _ => x_none, fun _ _ _ _ _ _ _ _ => x_none, fun _ _ _ _ _ _ _ _ => x_none, fun _ _ _ _ _ _ _ _ _ => x_none, fun _ _ _ _ _ _ => x_none, fun _ _ _ _ _ _ _ => x_none, fun _ _ _ _ _ _ _ => x_none, fun _ _ => x_none⟩
  | succ n IH => exact ⟨fun v0R v1I v2I v3I σ => s_Md_heavy_0 C IH v0R v1I v2I v3I σ, fun σ => s_Md_heavy_1 C IH σ, fun v0R v1I v2I v3I v4I v5I σ => s_Md_heavy_2 C IH v0R v1I v2I v3I v4I v5I σ, fun v0R v1I v2I v3I v4I v5I σ => s_Md_heavy_3 C IH v0R v1I v2I v3I v4I v5I σ, fun v0R v1I v2I v3I v4I v5I σ => s_Md_heavy_4 C IH v0R v1I v2I v3I v4I v5I σ, fun v0R v1I v2I v3I v4I v5I s0I σ => s_Md_heavy_5 C IH v0R v1I v2I v3I v4I v5I s0I σ, fun v0R v1I v2I v3I v4I v5I v6I σ => s_Md_heavy_6 C IH v0R v1I v2I v3I v4I v5I v6I σ, fun v0R v1I v2I v3I v4I v5I v6I s0I σ => s_Md_heavy_7 C IH v0R v1I v2I v3I v4I v5I v6I s0I σ, fun v0R v1I v2I v3I v5I σ => s_Md_heavy_8 C IH v0R v1I v2I v3I v5I σ, fun v0R v1I v2I v3I v5I s0I σ => s_Md_heavy_9 C IH v0R v1I v2I v3I v5I s0I σ, fun v0R v1I v2I v3I v4I v5I σ => s_Md_heavy_10 C IH v0R v1I v2I v3I v4I v5I σ, fun s0I σ => s_Md_heavy_11 C IH s0I σ⟩
theorem c_Md_heavy (G : GX) (l : Launch) (v0R : Nat) (v1I : Int32) (v2I : Int32) (v3I : Int32) (σ : AM) : CT eI G l 3 y_Md_heavy prog_14_method_117_code 8 ((some FieldType.int)) [.ref v0R, .int v1I, .int v2I, .int v3I] σ (M_Md_heavy v0R v1I v2I v3I σ) := by
  refine ct_of (by decide +kernel) (Nat.le_of_ble_eq_true rfl) (fun p e s m args below meth c C hin => ?_)
  refine x_lve (lv' := [(0, .ref v0R), (1, .int v1I), (2, .int v2I), (3, .int v3I)]) rfl ?_
  intro r σ' h
  obtain ⟨n, hn⟩ := (lp_iff _ _ _).mp h
  exact (i_Md_heavy C n).1 v0R v1I v2I v3I σ r σ' hn
/-! BellPlateModel.leastSet(II)I -/
abbrev y_Md_leastSet : MethodName := ⟨"BellPlateModel", "leastSet", "(II)I"⟩
theorem k_Md_leastSet : y_Md_leastSet.cls ≠ "java/lang/invoke/MethodHandle" ∧ y_Md_leastSet.cls ≠ "java/lang/invoke/VarHandle" ∧ (parseMethodDescriptor y_Md_leastSet.desc).map (fun d => d.parameters.length) = some 2 := by decide +kernel
theorem d_Md_leastSet_0 : decode prog_14_method_118_code 0 = .ok (.aload_n 0, 1) := by decide +kernel
theorem d_Md_leastSet_1 : decode prog_14_method_118_code 1 = .ok (.iconst 0, 1) := by decide +kernel
theorem d_Md_leastSet_2 : decode prog_14_method_118_code 2 = .ok (.putfield 1, 3) := by decide +kernel
theorem d_Md_leastSet_5 : decode prog_14_method_118_code 5 = .ok (.aload_n 0, 1) := by decide +kernel
theorem d_Md_leastSet_6 : decode prog_14_method_118_code 6 = .ok (.iload_n 1, 1) := by decide +kernel
theorem d_Md_leastSet_7 : decode prog_14_method_118_code 7 = .ok (.invokevirtual 337, 3) := by decide +kernel
theorem d_Md_leastSet_10 : decode prog_14_method_118_code 10 = .ok (.ifCond .eq 8, 3) := by decide +kernel
theorem d_Md_leastSet_13 : decode prog_14_method_118_code 13 = .ok (.iload_n 2, 1) := by decide +kernel
theorem d_Md_leastSet_14 : decode prog_14_method_118_code 14 = .ok (.iconst (-1), 1) := by decide +kernel
theorem d_Md_leastSet_15 : decode prog_14_method_118_code 15 = .ok (.if_icmp .ge 5, 3) := by decide +kernel
theorem d_Md_leastSet_18 : decode prog_14_method_118_code 18 = .ok (.iconst (-1), 1) := by decide +kernel
theorem d_Md_leastSet_19 : decode prog_14_method_118_code 19 = .ok (.ireturn, 1) := by decide +kernel
theorem d_Md_leastSet_20 : decode prog_14_method_118_code 20 = .ok (.iconst 0, 1) := by decide +kernel
theorem d_Md_leastSet_21 : decode prog_14_method_118_code 21 = .ok (.istore_n 3, 1) := by decide +kernel
theorem d_Md_leastSet_22 : decode prog_14_method_118_code 22 = .ok (.iconst 0, 1) := by decide +kernel
theorem d_Md_leastSet_23 : decode prog_14_method_118_code 23 = .ok (.istore 4, 2) := by decide +kernel
theorem d_Md_leastSet_25 : decode prog_14_method_118_code 25 = .ok (.iload 4, 2) := by decide +kernel
theorem d_Md_leastSet_27 : decode prog_14_method_118_code 27 = .ok (.aload_n 0, 1) := by decide +kernel
theorem d_Md_leastSet_28 : decode prog_14_method_118_code 28 = .ok (.invokevirtual 306, 3) := by decide +kernel
theorem d_Md_leastSet_31 : decode prog_14_method_118_code 31 = .ok (.if_icmp .ge 109, 3) := by decide +kernel
theorem d_Md_leastSet_34 : decode prog_14_method_118_code 34 = .ok (.aload_n 0, 1) := by decide +kernel
theorem d_Md_leastSet_35 : decode prog_14_method_118_code 35 = .ok (.getfield 75, 3) := by decide +kernel
theorem d_Md_leastSet_38 : decode prog_14_method_118_code 38 = .ok (.iload_n 1, 1) := by decide +kernel
theorem d_Md_leastSet_39 : decode prog_14_method_118_code 39 = .ok (.laload, 1) := by decide +kernel
theorem d_Md_leastSet_40 : decode prog_14_method_118_code 40 = .ok (.iload 4, 2) := by decide +kernel
theorem d_Md_leastSet_42 : decode prog_14_method_118_code 42 = .ok (.invokestatic 357, 3) := by decide +kernel
theorem d_Md_leastSet_45 : decode prog_14_method_118_code 45 = .ok (.istore 5, 2) := by decide +kernel
theorem d_Md_leastSet_47 : decode prog_14_method_118_code 47 = .ok (.iconst 0, 1) := by decide +kernel
theorem d_Md_leastSet_48 : decode prog_14_method_118_code 48 = .ok (.istore 6, 2) := by decide +kernel
theorem d_Md_leastSet_50 : decode prog_14_method_118_code 50 = .ok (.iload 6, 2) := by decide +kernel
theorem d_Md_leastSet_52 : decode prog_14_method_118_code 52 = .ok (.aload_n 0, 1) := by decide +kernel
theorem d_Md_leastSet_53 : decode prog_14_method_118_code 53 = .ok (.getfield 239, 3) := by decide +kernel
theorem d_Md_leastSet_56 : decode prog_14_method_118_code 56 = .ok (.if_icmp .ge 52, 3) := by decide +kernel
theorem d_Md_leastSet_59 : decode prog_14_method_118_code 59 = .ok (.iload 5, 2) := by decide +kernel
theorem d_Md_leastSet_61 : decode prog_14_method_118_code 61 = .ok (.ifCond .eq 38, 3) := by decide +kernel
theorem d_Md_leastSet_64 : decode prog_14_method_118_code 64 = .ok (.iload 4, 2) := by decide +kernel
theorem d_Md_leastSet_66 : decode prog_14_method_118_code 66 = .ok (.iload 6, 2) := by decide +kernel
theorem d_Md_leastSet_68 : decode prog_14_method_118_code 68 = .ok (.ishr, 1) := by decide +kernel
theorem d_Md_leastSet_69 : decode prog_14_method_118_code 69 = .ok (.iconst 1, 1) := by decide +kernel
theorem d_Md_leastSet_70 : decode prog_14_method_118_code 70 = .ok (.iand, 1) := by decide +kernel
theorem d_Md_leastSet_71 : decode prog_14_method_118_code 71 = .ok (.ifCond .eq 24, 3) := by decide +kernel
theorem d_Md_leastSet_74 : decode prog_14_method_118_code 74 = .ok (.aload_n 0, 1) := by decide +kernel
theorem d_Md_leastSet_75 : decode prog_14_method_118_code 75 = .ok (.getfield 75, 3) := by decide +kernel
theorem d_Md_leastSet_78 : decode prog_14_method_118_code 78 = .ok (.iload_n 1, 1) := by decide +kernel
theorem d_Md_leastSet_79 : decode prog_14_method_118_code 79 = .ok (.laload, 1) := by decide +kernel
theorem d_Md_leastSet_80 : decode prog_14_method_118_code 80 = .ok (.iload 4, 2) := by decide +kernel
theorem d_Md_leastSet_82 : decode prog_14_method_118_code 82 = .ok (.iconst 1, 1) := by decide +kernel
theorem d_Md_leastSet_83 : decode prog_14_method_118_code 83 = .ok (.iload 6, 2) := by decide +kernel
theorem d_Md_leastSet_85 : decode prog_14_method_118_code 85 = .ok (.ishl, 1) := by decide +kernel
theorem d_Md_leastSet_86 : decode prog_14_method_118_code 86 = .ok (.iconst (-1), 1) := by decide +kernel
theorem d_Md_leastSet_87 : decode prog_14_method_118_code 87 = .ok (.ixor, 1) := by decide +kernel
theorem d_Md_leastSet_88 : decode prog_14_method_118_code 88 = .ok (.iand, 1) := by decide +kernel
theorem d_Md_leastSet_89 : decode prog_14_method_118_code 89 = .ok (.invokestatic 357, 3) := by decide +kernel
theorem d_Md_leastSet_92 : decode prog_14_method_118_code 92 = .ok (.ifCond .ne 7, 3) := by decide +kernel
theorem d_Md_leastSet_95 : decode prog_14_method_118_code 95 = .ok (.iconst 1, 1) := by decide +kernel
theorem d_Md_leastSet_96 : decode prog_14_method_118_code 96 = .ok (.goto 4, 3) := by decide +kernel
theorem d_Md_leastSet_99 : decode prog_14_method_118_code 99 = .ok (.iconst 0, 1) := by decide +kernel
theorem d_Md_leastSet_100 : decode prog_14_method_118_code 100 = .ok (.istore 5, 2) := by decide +kernel
theorem d_Md_leastSet_102 : decode prog_14_method_118_code 102 = .ok (.iinc 6 1, 3) := by decide +kernel
theorem d_Md_leastSet_105 : decode prog_14_method_118_code 105 = .ok (.goto (-55), 3) := by decide +kernel
theorem d_Md_leastSet_108 : decode prog_14_method_118_code 108 = .ok (.iload 5, 2) := by decide +kernel
theorem d_Md_leastSet_110 : decode prog_14_method_118_code 110 = .ok (.ifCond .eq 11, 3) := by decide +kernel
theorem d_Md_leastSet_113 : decode prog_14_method_118_code 113 = .ok (.iload_n 3, 1) := by decide +kernel
theorem d_Md_leastSet_114 : decode prog_14_method_118_code 114 = .ok (.iload_n 2, 1) := by decide +kernel
theorem d_Md_leastSet_115 : decode prog_14_method_118_code 115 = .ok (.if_icmp .ne 6, 3) := by decide +kernel
theorem d_Md_leastSet_118 : decode prog_14_method_118_code 118 = .ok (.iload 4, 2) := by decide +kernel
theorem d_Md_leastSet_120 : decode prog_14_method_118_code 120 = .ok (.ireturn, 1) := by decide +kernel
theorem d_Md_leastSet_121 : decode prog_14_method_118_code 121 = .ok (.iload_n 3, 1) := by decide +kernel
theorem d_Md_leastSet_122 : decode prog_14_method_118_code 122 = .ok (.iload 5, 2) := by decide +kernel
theorem d_Md_leastSet_124 : decode prog_14_method_118_code 124 = .ok (.ifCond .eq 7, 3) := by decide +kernel
theorem d_Md_leastSet_127 : decode prog_14_method_118_code 127 = .ok (.iconst 1, 1) := by decide +kernel
theorem d_Md_leastSet_128 : decode prog_14_method_118_code 128 = .ok (.goto 4, 3) := by decide +kernel
theorem d_Md_leastSet_131 : decode prog_14_method_118_code 131 = .ok (.iconst 0, 1) := by decide +kernel
theorem d_Md_leastSet_132 : decode prog_14_method_118_code 132 = .ok (.iadd, 1) := by decide +kernel
theorem d_Md_leastSet_133 : decode prog_14_method_118_code 133 = .ok (.istore_n 3, 1) := by decide +kernel
theorem d_Md_leastSet_134 : decode prog_14_method_118_code 134 = .ok (.iinc 4 1, 3) := by decide +kernel
theorem d_Md_leastSet_137 : decode prog_14_method_118_code 137 = .ok (.goto (-112), 3) := by decide +kernel
theorem d_Md_leastSet_140 : decode prog_14_method_118_code 140 = .ok (.iload_n 2, 1) := by decide +kernel
theorem d_Md_leastSet_141 : decode prog_14_method_118_code 141 = .ok (.ifCond .ge 7, 3) := by decide +kernel
theorem d_Md_leastSet_144 : decode prog_14_method_118_code 144 = .ok (.iload_n 3, 1) := by decide +kernel
theorem d_Md_leastSet_145 : decode prog_14_method_118_code 145 = .ok (.goto 4, 3) := by decide +kernel
theorem d_Md_leastSet_148 : decode prog_14_method_118_code 148 = .ok (.iconst (-1), 1) := by decide +kernel
theorem d_Md_leastSet_149 : decode prog_14_method_118_code 149 = .ok (.ireturn, 1) := by decide +kernel
abbrev S_Md_leastSet : Type := Nat × Nat × Int32 × Int32 × Int32 × Int32 × Int32 × Int32 × Int32 × Int32 × AM
noncomputable def T_Md_leastSet_0 (v0R : Nat) (v1I : Int32) (v2I : Int32) (σ : AM) : S_Md_leastSet ⊕ Option (Int32 × AM) :=
  gdT (okO σ v0R 12) <| letT (sI σ v0R 0 (0 : Int32)) fun σ2 => bndT (M_Md_isWeights v0R v1I σ2) fun r4 σ5 => if r4 = 0 then (.inl (1, 0, 0, 0, 0, 0, 0, 0, 0, 0, σ5)) else (if v2I < ((-1) : Int32) then (.inl (1, 0, 0, 0, 0, 0, 0, 0, 0, 0, σ5)) else (.inl (2, v0R, v1I, v2I, (0 : Int32), (0 : Int32), 0, 0, 0, 0, σ5)))
noncomputable def T_Md_leastSet_1  (σ : AM) : S_Md_leastSet ⊕ Option (Int32 × AM) :=
  .inr (some (((-1) : Int32), σ))
noncomputable def T_Md_leastSet_2 (v0R : Nat) (v1I : Int32) (v2I : Int32) (v3I : Int32) (v4I : Int32) (σ : AM) : S_Md_leastSet ⊕ Option (Int32 × AM) :=
  gdT (okO σ v0R 12) <| bndT (M_Md_sets v0R σ) fun r1 σ2 => if v4I < r1 then (gdT (okO σ2 v0R 12) <| gdT (okO σ2 (aR σ2 v0R 27) 102) <| gdT (inB v1I (aN σ2 (aR σ2 v0R 27))) <| bndT (M_Md_doesRing (aL σ2 (aR σ2 v0R 27) v1I.toNatClampNeg) v4I σ2) fun r7 σ8 => .inl (3, v0R, v1I, v2I, v3I, v4I, r7, (0 : Int32), 0, 0, σ8)) else (if v2I < 0 then (.inl (9, 0, 0, 0, 0, 0, 0, 0, v3I, 0, σ2)) else (.inl (9, 0, 0, 0, 0, 0, 0, 0, ((-1) : Int32), 0, σ2)))
noncomputable def T_Md_leastSet_3 (v0R : Nat) (v1I : Int32) (v2I : Int32) (v3I : Int32) (v4I : Int32) (v5I : Int32) (v6I : Int32) (σ : AM) : S_Md_leastSet ⊕ Option (Int32 × AM) :=
  gdT (okO σ v0R 12) <| if v6I < (aI σ v0R 10) then (if v5I = 0 then (.inl (5, v0R, v1I, v2I, v3I, v4I, 0, v6I, 0, 0, σ)) else (if ((v4I >>> (v6I &&& 31)) &&& (1 : Int32)) = 0 then (.inl (4, v0R, v1I, v2I, v3I, v4I, 0, v6I, 0, 0, σ)) else (gdT (okO σ (aR σ v0R 27) 102) <| gdT (inB v1I (aN σ (aR σ v0R 27))) <| bndT (M_Md_doesRing (aL σ (aR σ v0R 27) v1I.toNatClampNeg) (v4I &&& (((1 : Int32) <<< (v6I &&& 31)) ^^^ ((-1) : Int32))) σ) fun r4 σ5 => if r4 = 0 then (.inl (4, v0R, v1I, v2I, v3I, v4I, 0, v6I, 0, 0, σ5)) else (.inl (5, v0R, v1I, v2I, v3I, v4I, 0, v6I, 0, 0, σ5))))) else (if v5I = 0 then (.inl (7, v0R, v1I, v2I, v3I, v4I, v5I, 0, 0, 0, σ)) else (if v3I = v2I then (.inr (some (v4I, σ))) else (.inl (7, v0R, v1I, v2I, v3I, v4I, v5I, 0, 0, 0, σ))))
noncomputable def T_Md_leastSet_4 (v0R : Nat) (v1I : Int32) (v2I : Int32) (v3I : Int32) (v4I : Int32) (v6I : Int32) (σ : AM) : S_Md_leastSet ⊕ Option (Int32 × AM) :=
  .inl (6, v0R, v1I, v2I, v3I, v4I, 0, v6I, (1 : Int32), 0, σ)
noncomputable def T_Md_leastSet_5 (v0R : Nat) (v1I : Int32) (v2I : Int32) (v3I : Int32) (v4I : Int32) (v6I : Int32) (σ : AM) : S_Md_leastSet ⊕ Option (Int32 × AM) :=
  .inl (6, v0R, v1I, v2I, v3I, v4I, 0, v6I, (0 : Int32), 0, σ)
noncomputable def T_Md_leastSet_6 (v0R : Nat) (v1I : Int32) (v2I : Int32) (v3I : Int32) (v4I : Int32) (v6I : Int32) (s0I : Int32) (σ : AM) : S_Md_leastSet ⊕ Option (Int32 × AM) :=
  .inl (3, v0R, v1I, v2I, v3I, v4I, s0I, v6I + (1 : Int32), 0, 0, σ)
noncomputable def T_Md_leastSet_7 (v0R : Nat) (v1I : Int32) (v2I : Int32) (v3I : Int32) (v4I : Int32) (v5I : Int32) (σ : AM) : S_Md_leastSet ⊕ Option (Int32 × AM) :=
  if v5I = 0 then (.inl (8, v0R, v1I, v2I, 0, v4I, 0, 0, v3I, (0 : Int32), σ)) else (.inl (8, v0R, v1I, v2I, 0, v4I, 0, 0, v3I, (1 : Int32), σ))
noncomputable def T_Md_leastSet_8 (v0R : Nat) (v1I : Int32) (v2I : Int32) (v4I : Int32) (s0I : Int32) (s1I : Int32) (σ : AM) : S_Md_leastSet ⊕ Option (Int32 × AM) :=
  letT (s0I + s1I) fun x1 => .inl (2, v0R, v1I, v2I, x1, v4I + (1 : Int32), 0, 0, 0, 0, σ)
noncomputable def T_Md_leastSet_9 (s0I : Int32) (σ : AM) : S_Md_leastSet ⊕ Option (Int32 × AM) :=
  .inr (some (s0I, σ))
noncomputable def F_Md_leastSet : S_Md_leastSet → S_Md_leastSet ⊕ Option (Int32 × AM) := fun s => match s.1 with
  | 0 => T_Md_leastSet_0 (s.2.1) (s.2.2.1) (s.2.2.2.1) (s.2.2.2.2.2.2.2.2.2.2)
  | 1 => T_Md_leastSet_1  (s.2.2.2.2.2.2.2.2.2.2)
  | 2 => T_Md_leastSet_2 (s.2.1) (s.2.2.1) (s.2.2.2.1) (s.2.2.2.2.1) (s.2.2.2.2.2.1) (s.2.2.2.2.2.2.2.2.2.2)
  | 3 => T_Md_leastSet_3 (s.2.1) (s.2.2.1) (s.2.2.2.1) (s.2.2.2.2.1) (s.2.2.2.2.2.1) (s.2.2.2.2.2.2.1) (s.2.2.2.2.2.2.2.1) (s.2.2.2.2.2.2.2.2.2.2)
  | 4 => T_Md_leastSet_4 (s.2.1) (s.2.2.1) (s.2.2.2.1) (s.2.2.2.2.1) (s.2.2.2.2.2.1) (s.2.2.2.2.2.2.2.1) (s.2.2.2.2.2.2.2.2.2.2)
  | 5 => T_Md_leastSet_5 (s.2.1) (s.2.2.1) (s.2.2.2.1) (s.2.2.2.2.1) (s.2.2.2.2.2.1) (s.2.2.2.2.2.2.2.1) (s.2.2.2.2.2.2.2.2.2.2)
  | 6 => T_Md_leastSet_6 (s.2.1) (s.2.2.1) (s.2.2.2.1) (s.2.2.2.2.1) (s.2.2.2.2.2.1) (s.2.2.2.2.2.2.2.1) (s.2.2.2.2.2.2.2.2.1) (s.2.2.2.2.2.2.2.2.2.2)
  | 7 => T_Md_leastSet_7 (s.2.1) (s.2.2.1) (s.2.2.2.1) (s.2.2.2.2.1) (s.2.2.2.2.2.1) (s.2.2.2.2.2.2.1) (s.2.2.2.2.2.2.2.2.2.2)
  | 8 => T_Md_leastSet_8 (s.2.1) (s.2.2.1) (s.2.2.2.1) (s.2.2.2.2.2.1) (s.2.2.2.2.2.2.2.2.1) (s.2.2.2.2.2.2.2.2.2.1) (s.2.2.2.2.2.2.2.2.2.2)
  | _ => T_Md_leastSet_9 (s.2.2.2.2.2.2.2.2.1) (s.2.2.2.2.2.2.2.2.2.2)
noncomputable def L_Md_leastSet_0 (v0R : Nat) (v1I : Int32) (v2I : Int32) (σ : AM) : Option (Int32 × AM) := lp F_Md_leastSet (0, v0R, v1I, v2I, 0, 0, 0, 0, 0, 0, σ)
noncomputable def L_Md_leastSet_1  (σ : AM) : Option (Int32 × AM) := lp F_Md_leastSet (1, 0, 0, 0, 0, 0, 0, 0, 0, 0, σ)
noncomputable def L_Md_leastSet_2 (v0R : Nat) (v1I : Int32) (v2I : Int32) (v3I : Int32) (v4I : Int32) (σ : AM) : Option (Int32 × AM) := lp F_Md_leastSet (2, v0R, v1I, v2I, v3I, v4I, 0, 0, 0, 0, σ)
noncomputable def L_Md_leastSet_3 (v0R : Nat) (v1I : Int32) (v2I : Int32) (v3I : Int32) (v4I : Int32) (v5I : Int32) (v6I : Int32) (σ : AM) : Option (Int32 × AM) := lp F_Md_leastSet (3, v0R, v1I, v2I, v3I, v4I, v5I, v6I, 0, 0, σ)
noncomputable def L_Md_leastSet_4 (v0R : Nat) (v1I : Int32) (v2I : Int32) (v3I : Int32) (v4I : Int32) (v6I : Int32) (σ : AM) : Option (Int32 × AM) := lp F_Md_leastSet (4, v0R, v1I, v2I, v3I, v4I, 0, v6I, 0, 0, σ)
noncomputable def L_Md_leastSet_5 (v0R : Nat) (v1I : Int32) (v2I : Int32) (v3I : Int32) (v4I : Int32) (v6I : Int32) (σ : AM) : Option (Int32 × AM) := lp F_Md_leastSet (5, v0R, v1I, v2I, v3I, v4I, 0, v6I, 0, 0, σ)
noncomputable def L_Md_leastSet_6 (v0R : Nat) (v1I : Int32) (v2I : Int32) (v3I : Int32) (v4I : Int32) (v6I : Int32) (s0I : Int32) (σ : AM) : Option (Int32 × AM) := lp F_Md_leastSet (6, v0R, v1I, v2I, v3I, v4I, 0, v6I, s0I, 0, σ)
noncomputable def L_Md_leastSet_7 (v0R : Nat) (v1I : Int32) (v2I : Int32) (v3I : Int32) (v4I : Int32) (v5I : Int32) (σ : AM) : Option (Int32 × AM) := lp F_Md_leastSet (7, v0R, v1I, v2I, v3I, v4I, v5I, 0, 0, 0, σ)
noncomputable def L_Md_leastSet_8 (v0R : Nat) (v1I : Int32) (v2I : Int32) (v4I : Int32) (s0I : Int32) (s1I : Int32) (σ : AM) : Option (Int32 × AM) := lp F_Md_leastSet (8, v0R, v1I, v2I, 0, v4I, 0, 0, s0I, s1I, σ)
noncomputable def L_Md_leastSet_9 (s0I : Int32) (σ : AM) : Option (Int32 × AM) := lp F_Md_leastSet (9, 0, 0, 0, 0, 0, 0, 0, s0I, 0, σ)
set_option maxRecDepth 20000 in
theorem E_Md_leastSet_0 (v0R : Nat) (v1I : Int32) (v2I : Int32) (σ : AM) : L_Md_leastSet_0 v0R v1I v2I σ = (gd (okO σ v0R 12) <| letT (sI σ v0R 0 (0 : Int32)) fun σ2 => bnd (M_Md_isWeights v0R v1I σ2) fun r4 σ5 => if r4 = 0 then (L_Md_leastSet_1 σ5) else (if v2I < ((-1) : Int32) then (L_Md_leastSet_1 σ5) else (L_Md_leastSet_2 v0R v1I v2I ((0 : Int32)) ((0 : Int32)) σ5))) := by
  unfold L_Md_leastSet_0
  rw [lp_eq]
  show lpK (lp F_Md_leastSet) (T_Md_leastSet_0 v0R v1I v2I σ) = _
  unfold T_Md_leastSet_0
  simp only [lpK_ite, lq_inl, lq_inr, lpK_bnd, lpK_gd, lq_let]
  try rfl
set_option maxRecDepth 20000 in
theorem E_Md_leastSet_1  (σ : AM) : L_Md_leastSet_1  σ = ((some (((-1) : Int32), σ))) := by
  unfold L_Md_leastSet_1
  rw [lp_eq]
  show lpK (lp F_Md_leastSet) (T_Md_leastSet_1  σ) = _
  unfold T_Md_leastSet_1
  simp only [lpK_ite, lq_inl, lq_inr, lpK_bnd, lpK_gd, lq_let]
  try rfl
set_option maxRecDepth 20000 in
theorem E_Md_leastSet_2 (v0R : Nat) (v1I : Int32) (v2I : Int32) (v3I : Int32) (v4I : Int32) (σ : AM) : L_Md_leastSet_2 v0R v1I v2I v3I v4I σ = (gd (okO σ v0R 12) <| bnd (M_Md_sets v0R σ) fun r1 σ2 => if v4I < r1 then (gd (okO σ2 v0R 12) <| gd (okO σ2 (aR σ2 v0R 27) 102) <| gd (inB v1I (aN σ2 (aR σ2 v0R 27))) <| bnd (M_Md_doesRing (aL σ2 (aR σ2 v0R 27) v1I.toNatClampNeg) v4I σ2) fun r7 σ8 => L_Md_leastSet_3 v0R v1I v2I v3I v4I r7 ((0 : Int32)) σ8) else (if v2I < 0 then (L_Md_leastSet_9 v3I σ2) else (L_Md_leastSet_9 (((-1) : Int32)) σ2))) := by
  unfold L_Md_leastSet_2
  rw [lp_eq]
  show lpK (lp F_Md_leastSet) (T_Md_leastSet_2 v0R v1I v2I v3I v4I σ) = _
  unfold T_Md_leastSet_2
  simp only [lpK_ite, lq_inl, lq_inr, lpK_bnd, lpK_gd, lq_let]
  try rfl
set_option maxRecDepth 20000 in
theorem E_Md_leastSet_3 (v0R : Nat) (v1I : Int32) (v2I : Int32) (v3I : Int32) (v4I : Int32) (v5I : Int32) (v6I : Int32) (σ : AM) : L_Md_leastSet_3 v0R v1I v2I v3I v4I v5I v6I σ = (gd (okO σ v0R 12) <| if v6I < (aI σ v0R 10) then (if v5I = 0 then (L_Md_leastSet_5 v0R v1I v2I v3I v4I v6I σ) else (if ((v4I >>> (v6I &&& 31)) &&& (1 : Int32)) = 0 then (L_Md_leastSet_4 v0R v1I v2I v3I v4I v6I σ) else (gd (okO σ (aR σ v0R 27) 102) <| gd (inB v1I (aN σ (aR σ v0R 27))) <| bnd (M_Md_doesRing (aL σ (aR σ v0R 27) v1I.toNatClampNeg) (v4I &&& (((1 : Int32) <<< (v6I &&& 31)) ^^^ ((-1) : Int32))) σ) fun r4 σ5 => if r4 = 0 then (L_Md_leastSet_4 v0R v1I v2I v3I v4I v6I σ5) else (L_Md_leastSet_5 v0R v1I v2I v3I v4I v6I σ5)))) else (if v5I = 0 then (L_Md_leastSet_7 v0R v1I v2I v3I v4I v5I σ) else (if v3I = v2I then ((some (v4I, σ))) else (L_Md_leastSet_7 v0R v1I v2I v3I v4I v5I σ)))) := by
  unfold L_Md_leastSet_3
  rw [lp_eq]
  show lpK (lp F_Md_leastSet) (T_Md_leastSet_3 v0R v1I v2I v3I v4I v5I v6I σ) = _
  unfold T_Md_leastSet_3
  simp only [lpK_ite, lq_inl, lq_inr, lpK_bnd, lpK_gd, lq_let]
  try rfl
set_option maxRecDepth 20000 in
theorem E_Md_leastSet_4 (v0R : Nat) (v1I : Int32) (v2I : Int32) (v3I : Int32) (v4I : Int32) (v6I : Int32) (σ : AM) : L_Md_leastSet_4 v0R v1I v2I v3I v4I v6I σ = (L_Md_leastSet_6 v0R v1I v2I v3I v4I v6I ((1 : Int32)) σ) := by
  unfold L_Md_leastSet_4
  rw [lp_eq]
  show lpK (lp F_Md_leastSet) (T_Md_leastSet_4 v0R v1I v2I v3I v4I v6I σ) = _
  unfold T_Md_leastSet_4
  simp only [lpK_ite, lq_inl, lq_inr, lpK_bnd, lpK_gd, lq_let]
  try rfl
set_option maxRecDepth 20000 in
theorem E_Md_leastSet_5 (v0R : Nat) (v1I : Int32) (v2I : Int32) (v3I : Int32) (v4I : Int32) (v6I : Int32) (σ : AM) : L_Md_leastSet_5 v0R v1I v2I v3I v4I v6I σ = (L_Md_leastSet_6 v0R v1I v2I v3I v4I v6I ((0 : Int32)) σ) := by
  unfold L_Md_leastSet_5
  rw [lp_eq]
  show lpK (lp F_Md_leastSet) (T_Md_leastSet_5 v0R v1I v2I v3I v4I v6I σ) = _
  unfold T_Md_leastSet_5
  simp only [lpK_ite, lq_inl, lq_inr, lpK_bnd, lpK_gd, lq_let]
  try rfl
set_option maxRecDepth 20000 in
theorem E_Md_leastSet_6 (v0R : Nat) (v1I : Int32) (v2I : Int32) (v3I : Int32) (v4I : Int32) (v6I : Int32) (s0I : Int32) (σ : AM) : L_Md_leastSet_6 v0R v1I v2I v3I v4I v6I s0I σ = (L_Md_leastSet_3 v0R v1I v2I v3I v4I s0I (v6I + (1 : Int32)) σ) := by
  unfold L_Md_leastSet_6
  rw [lp_eq]
  show lpK (lp F_Md_leastSet) (T_Md_leastSet_6 v0R v1I v2I v3I v4I v6I s0I σ) = _
  unfold T_Md_leastSet_6
  simp only [lpK_ite, lq_inl, lq_inr, lpK_bnd, lpK_gd, lq_let]
  try rfl
set_option maxRecDepth 20000 in
theorem E_Md_leastSet_7 (v0R : Nat) (v1I : Int32) (v2I : Int32) (v3I : Int32) (v4I : Int32) (v5I : Int32) (σ : AM) : L_Md_leastSet_7 v0R v1I v2I v3I v4I v5I σ = (if v5I = 0 then (L_Md_leastSet_8 v0R v1I v2I v4I v3I ((0 : Int32)) σ) else (L_Md_leastSet_8 v0R v1I v2I v4I v3I ((1 : Int32)) σ)) := by
  unfold L_Md_leastSet_7
  rw [lp_eq]
  show lpK (lp F_Md_leastSet) (T_Md_leastSet_7 v0R v1I v2I v3I v4I v5I σ) = _
  unfold T_Md_leastSet_7
  simp only [lpK_ite, lq_inl, lq_inr, lpK_bnd, lpK_gd, lq_let]
  try rfl
set_option maxRecDepth 20000 in
theorem E_Md_leastSet_8 (v0R : Nat) (v1I : Int32) (v2I : Int32) (v4I : Int32) (s0I : Int32) (s1I : Int32) (σ : AM) : L_Md_leastSet_8 v0R v1I v2I v4I s0I s1I σ = (letT (s0I + s1I) fun x1 => L_Md_leastSet_2 v0R v1I v2I x1 (v4I + (1 : Int32)) σ) := by
  unfold L_Md_leastSet_8
  rw [lp_eq]
  show lpK (lp F_Md_leastSet) (T_Md_leastSet_8 v0R v1I v2I v4I s0I s1I σ) = _
  unfold T_Md_leastSet_8
  simp only [lpK_ite, lq_inl, lq_inr, lpK_bnd, lpK_gd, lq_let]
  try rfl
set_option maxRecDepth 20000 in
theorem E_Md_leastSet_9 (s0I : Int32) (σ : AM) : L_Md_leastSet_9 s0I σ = ((some (s0I, σ))) := by
  unfold L_Md_leastSet_9
  rw [lp_eq]
  show lpK (lp F_Md_leastSet) (T_Md_leastSet_9 s0I σ) = _
  unfold T_Md_leastSet_9
  simp only [lpK_ite, lq_inl, lq_inr, lpK_bnd, lpK_gd, lq_let]
  try rfl
noncomputable def M_Md_leastSet (v0R : Nat) (v1I : Int32) (v2I : Int32) (σ : AM) : Option (Int32 × AM) := mw σ (L_Md_leastSet_0 v0R v1I v2I σ)
def I_Md_leastSet (G : GX) (p : Program) (l : Launch) (e : Env) (s : State) (m : MethodId) (args : Array Value) (below : List Frame) (meth : Method) (c : Code) (z0 u0 n : Nat) : Prop :=
  (∀ (v0R : Nat) (v1I : Int32) (v2I : Int32) (σ : AM), VX (QM eI G args s below z0 u0) G p l e s m args below meth c 1 z0 u0 7 (lpn F_Md_leastSet n (0, v0R, v1I, v2I, 0, 0, 0, 0, 0, 0, σ)) 0 [(0, .ref v0R), (1, .int v1I), (2, .int v2I)] [] σ) ∧
  (∀ (σ : AM), VX (QM eI G args s below z0 u0) G p l e s m args below meth c 1 z0 u0 7 (lpn F_Md_leastSet n (1, 0, 0, 0, 0, 0, 0, 0, 0, 0, σ)) 18 [] [] σ) ∧
  (∀ (v0R : Nat) (v1I : Int32) (v2I : Int32) (v3I : Int32) (v4I : Int32) (σ : AM), VX (QM eI G args s below z0 u0) G p l e s m args below meth c 1 z0 u0 7 (lpn F_Md_leastSet n (2, v0R, v1I, v2I, v3I, v4I, 0, 0, 0, 0, σ)) 25 [(0, .ref v0R), (1, .int v1I), (2, .int v2I), (3, .int v3I), (4, .int v4I)] [] σ) ∧
  (∀ (v0R : Nat) (v1I : Int32) (v2I : Int32) (v3I : Int32) (v4I : Int32) (v5I : Int32) (v6I : Int32) (σ : AM), VX (QM eI G args s below z0 u0) G p l e s m args below meth c 1 z0 u0 7 (lpn F_Md_leastSet n (3, v0R, v1I, v2I, v3I, v4I, v5I, v6I, 0, 0, σ)) 50 [(0, .ref v0R), (1, .int v1I), (2, .int v2I), (3, .int v3I), (4, .int v4I), (5, .int v5I), (6, .int v6I)] [] σ) ∧
  (∀ (v0R : Nat) (v1I : Int32) (v2I : Int32) (v3I : Int32) (v4I : Int32) (v6I : Int32) (σ : AM), VX (QM eI G args s below z0 u0) G p l e s m args below meth c 1 z0 u0 7 (lpn F_Md_leastSet n (4, v0R, v1I, v2I, v3I, v4I, 0, v6I, 0, 0, σ)) 95 [(0, .ref v0R), (1, .int v1I), (2, .int v2I), (3, .int v3I), (4, .int v4I), (6, .int v6I)] [] σ) ∧
  (∀ (v0R : Nat) (v1I : Int32) (v2I : Int32) (v3I : Int32) (v4I : Int32) (v6I : Int32) (σ : AM), VX (QM eI G args s below z0 u0) G p l e s m args below meth c 1 z0 u0 7 (lpn F_Md_leastSet n (5, v0R, v1I, v2I, v3I, v4I, 0, v6I, 0, 0, σ)) 99 [(0, .ref v0R), (1, .int v1I), (2, .int v2I), (3, .int v3I), (4, .int v4I), (6, .int v6I)] [] σ) ∧
  (∀ (v0R : Nat) (v1I : Int32) (v2I : Int32) (v3I : Int32) (v4I : Int32) (v6I : Int32) (s0I : Int32) (σ : AM), VX (QM eI G args s below z0 u0) G p l e s m args below meth c 1 z0 u0 7 (lpn F_Md_leastSet n (6, v0R, v1I, v2I, v3I, v4I, 0, v6I, s0I, 0, σ)) 100 [(0, .ref v0R), (1, .int v1I), (2, .int v2I), (3, .int v3I), (4, .int v4I), (6, .int v6I)] [.int s0I] σ) ∧
  (∀ (v0R : Nat) (v1I : Int32) (v2I : Int32) (v3I : Int32) (v4I : Int32) (v5I : Int32) (σ : AM), VX (QM eI G args s below z0 u0) G p l e s m args below meth c 1 z0 u0 7 (lpn F_Md_leastSet n (7, v0R, v1I, v2I, v3I, v4I, v5I, 0, 0, 0, σ)) 121 [(0, .ref v0R), (1, .int v1I), (2, .int v2I), (3, .int v3I), (4, .int v4I), (5, .int v5I)] [] σ) ∧
  (∀ (v0R : Nat) (v1I : Int32) (v2I : Int32) (v4I : Int32) (s0I : Int32) (s1I : Int32) (σ : AM), VX (QM eI G args s below z0 u0) G p l e s m args below meth c 1 z0 u0 7 (lpn F_Md_leastSet n (8, v0R, v1I, v2I, 0, v4I, 0, 0, s0I, s1I, σ)) 132 [(0, .ref v0R), (1, .int v1I), (2, .int v2I), (4, .int v4I)] [.int s1I, .int s0I] σ) ∧
  (∀ (s0I : Int32) (σ : AM), VX (QM eI G args s below z0 u0) G p l e s m args below meth c 1 z0 u0 7 (lpn F_Md_leastSet n (9, 0, 0, 0, 0, 0, 0, 0, s0I, 0, σ)) 149 [] [.int s0I] σ)
set_option maxRecDepth 20000 in
theorem s_Md_leastSet_0 {G : GX} {p : Program} {l : Launch} {e : Env} {s : State} {m : MethodId} {args : Array Value} {below : List Frame} {meth : Method} {c : Code} {z0 u0 n : Nat} (C : Cx G p s m args meth c prog_14_method_118_code 7 "BellPlateModel" ((some FieldType.int))) (IH : I_Md_leastSet G p l e s m args below meth c z0 u0 n) (v0R : Nat) (v1I : Int32) (v2I : Int32) (σ : AM) : VX (QM eI G args s below z0 u0) G p l e s m args below meth c 1 z0 u0 7 (lpK (lpn F_Md_leastSet n) (T_Md_leastSet_0 v0R v1I v2I σ)) 0 [(0, .ref v0R), (1, .int v1I), (2, .int v2I)] [] σ := by
  unfold T_Md_leastSet_0
  refine x_aload_n C d_Md_leastSet_0 0 rfl ?_
  refine x_iconst (v := (0 : Int32)) C d_Md_leastSet_1 (by decide) ?_
  refine x_gd (fun h1 => ?_)
  refine x_putI (k := 0) C (okO_iff.mp h1) rfl j11_ok y11_ok n11_ok (by decide) rfl rfl rfl rfl w1852 d_Md_leastSet_2 ?_
  refine x_letS (fun σ2 e3 => ?_)
  refine x_aload_n C d_Md_leastSet_5 0 rfl ?_
  refine x_iload_n C d_Md_leastSet_6 1 rfl ?_
  refine x_callVI (As := [.int v1I]) C (c_Md_isWeights G l v0R v1I σ2) (by first | exact (okO_iff.mp h1) | (rw [e3]; exact (okO_iff.mp h1))) rfl w2182 w83 w2180 w2183 w134 k_Md_isWeights rfl (by decide) (by decide) rfl (Nat.le_of_ble_eq_true rfl) d_Md_leastSet_7 (fun r4 σ5 => ?_)
  refine x_if_eq (tgt := 18) C d_Md_leastSet_10 (by decide) (fun _ => ?_) (fun _ => ?_)
  · refine x_lv [] rfl ?_
    exact IH.2.1  (σ5)
  · refine x_iload_n C d_Md_leastSet_13 2 rfl ?_
    refine x_iconst (v := ((-1) : Int32)) C d_Md_leastSet_14 (by decide) ?_
    refine x_icmp_ge (tgt := 20) C d_Md_leastSet_15 (by decide) (fun _ => ?_) (fun _ => ?_)
    · refine x_lv [] rfl ?_
      exact IH.2.1  (σ5)
    · refine x_iconst (v := (0 : Int32)) C d_Md_leastSet_20 (by decide) ?_
      refine x_istore_n (lv' := [(3, .int (0 : Int32)), (0, .ref v0R), (1, .int v1I), (2, .int v2I)]) C d_Md_leastSet_21 (by decide) rfl rfl ?_
      refine x_iconst (v := (0 : Int32)) C d_Md_leastSet_22 (by decide) ?_
      refine x_istore (lv' := [(4, .int (0 : Int32)), (3, .int (0 : Int32)), (0, .ref v0R), (1, .int v1I), (2, .int v2I)]) C d_Md_leastSet_23 (by decide) rfl ?_
      refine x_lv [2, 3, 4, 1, 0] rfl ?_
      exact IH.2.2.1 v0R v1I v2I ((0 : Int32)) ((0 : Int32)) (σ5)
set_option maxRecDepth 20000 in
theorem s_Md_leastSet_1 {G : GX} {p : Program} {l : Launch} {e : Env} {s : State} {m : MethodId} {args : Array Value} {below : List Frame} {meth : Method} {c : Code} {z0 u0 n : Nat} (C : Cx G p s m args meth c prog_14_method_118_code 7 "BellPlateModel" ((some FieldType.int))) (IH : I_Md_leastSet G p l e s m args below meth c z0 u0 n)  (σ : AM) : VX (QM eI G args s below z0 u0) G p l e s m args below meth c 1 z0 u0 7 (lpK (lpn F_Md_leastSet n) (T_Md_leastSet_1  σ)) 18 [] [] σ := by
  unfold T_Md_leastSet_1
  refine x_iconst (v := ((-1) : Int32)) C d_Md_leastSet_18 (by decide) ?_
  exact x_iret C d_Md_leastSet_19
set_option maxRecDepth 20000 in
theorem s_Md_leastSet_2 {G : GX} {p : Program} {l : Launch} {e : Env} {s : State} {m : MethodId} {args : Array Value} {below : List Frame} {meth : Method} {c : Code} {z0 u0 n : Nat} (C : Cx G p s m args meth c prog_14_method_118_code 7 "BellPlateModel" ((some FieldType.int))) (IH : I_Md_leastSet G p l e s m args below meth c z0 u0 n) (v0R : Nat) (v1I : Int32) (v2I : Int32) (v3I : Int32) (v4I : Int32) (σ : AM) : VX (QM eI G args s below z0 u0) G p l e s m args below meth c 1 z0 u0 7 (lpK (lpn F_Md_leastSet n) (T_Md_leastSet_2 v0R v1I v2I v3I v4I σ)) 25 [(0, .ref v0R), (1, .int v1I), (2, .int v2I), (3, .int v3I), (4, .int v4I)] [] σ := by
  unfold T_Md_leastSet_2
  refine x_iload C d_Md_leastSet_25 4 rfl ?_
  refine x_aload_n C d_Md_leastSet_27 0 rfl ?_
  refine x_gd (fun h3 => ?_)
  refine x_callVI (As := []) C (c_Md_sets G l v0R  σ) (okO_iff.mp h3) rfl w1826 w58 w1824 w1827 w134 k_Md_sets rfl (by decide) (by decide) rfl (Nat.le_of_ble_eq_true rfl) d_Md_leastSet_28 (fun r1 σ2 => ?_)
  refine x_icmp_ge (tgt := 140) C d_Md_leastSet_31 (by decide) (fun _ => ?_) (fun _ => ?_)
  · refine x_aload_n C d_Md_leastSet_34 0 rfl ?_
    refine x_gd (fun h4 => ?_)
    refine x_gd (fun h5 => ?_)
    refine x_getR (k := 27) (kv := 102) C (okO_iff.mp h4) rfl j11_ok (by decide) rfl (okO_iff.mp h5) (by decide) w1879 d_Md_leastSet_35 ?_
    refine x_iload_n C d_Md_leastSet_38 1 rfl ?_
    refine x_gd (fun h6 => ?_)
    refine x_aldJ C (okO_iff.mp h5) (inB_iff.mp h6) d_Md_leastSet_39 ?_
    refine x_iload C d_Md_leastSet_40 4 rfl ?_
    refine x_callSI (As := [.long (aL σ2 (aR σ2 v0R 27) v1I.toNatClampNeg), .int v4I]) C (c_Md_doesRing G l (aL σ2 (aR σ2 v0R 27) v1I.toNatClampNeg) v4I σ2) w2235 w2234 w2236 w134 k_Md_doesRing rfl (by decide) (by decide) rfl (Nat.le_of_ble_eq_true rfl) d_Md_leastSet_42 (fun r7 σ8 => ?_)
    refine x_istore (lv' := [(5, .int r7), (0, .ref v0R), (1, .int v1I), (2, .int v2I), (3, .int v3I), (4, .int v4I)]) C d_Md_leastSet_45 (by decide) rfl ?_
    refine x_iconst (v := (0 : Int32)) C d_Md_leastSet_47 (by decide) ?_
    refine x_istore (lv' := [(6, .int (0 : Int32)), (5, .int r7), (0, .ref v0R), (1, .int v1I), (2, .int v2I), (3, .int v3I), (4, .int v4I)]) C d_Md_leastSet_48 (by decide) rfl ?_
    refine x_lv [2, 3, 4, 5, 6, 1, 0] rfl ?_
    exact IH.2.2.2.1 v0R v1I v2I v3I v4I r7 ((0 : Int32)) (σ8)
  · refine x_iload_n C d_Md_leastSet_140 2 rfl ?_
    refine x_if_ge (tgt := 148) C d_Md_leastSet_141 (by decide) (fun _ => ?_) (fun _ => ?_)
    · refine x_iload_n C d_Md_leastSet_144 3 rfl ?_
      refine x_goto (tgt := 149) C d_Md_leastSet_145 (by decide) ?_
      refine x_lv [] rfl ?_
      exact IH.2.2.2.2.2.2.2.2.2 v3I (σ2)
    · refine x_iconst (v := ((-1) : Int32)) C d_Md_leastSet_148 (by decide) ?_
      refine x_lv [] rfl ?_
      exact IH.2.2.2.2.2.2.2.2.2 (((-1) : Int32)) (σ2)
set_option maxRecDepth 20000 in
theorem s_Md_leastSet_3 {G : GX} {p : Program} {l : Launch} {e : Env} {s : State} {m : MethodId} {args : Array Value} {below : List Frame} {meth : Method} {c : Code} {z0 u0 n : Nat} (C : Cx G p s m args meth c prog_14_method_118_code 7 "BellPlateModel" ((some FieldType.int))) (IH : I_Md_leastSet G p l e s m args below meth c z0 u0 n) (v0R : Nat) (v1I : Int32) (v2I : Int32) (v3I : Int32) (v4I : Int32) (v5I : Int32) (v6I : Int32) (σ : AM) : VX (QM eI G args s below z0 u0) G p l e s m args below meth c 1 z0 u0 7 (lpK (lpn F_Md_leastSet n) (T_Md_leastSet_3 v0R v1I v2I v3I v4I v5I v6I σ)) 50 [(0, .ref v0R), (1, .int v1I), (2, .int v2I), (3, .int v3I), (4, .int v4I), (5, .int v5I), (6, .int v6I)] [] σ := by
  unfold T_Md_leastSet_3
  refine x_iload C d_Md_leastSet_50 6 rfl ?_
  refine x_aload_n C d_Md_leastSet_52 0 rfl ?_
  refine x_gd (fun h1 => ?_)
  refine x_getI (k := 10) C (okO_iff.mp h1) rfl j11_ok (by decide) rfl w1862 d_Md_leastSet_53 ?_
  refine x_icmp_ge (tgt := 108) C d_Md_leastSet_56 (by decide) (fun _ => ?_) (fun _ => ?_)
  · refine x_iload C d_Md_leastSet_59 5 rfl ?_
    refine x_if_eq (tgt := 99) C d_Md_leastSet_61 (by decide) (fun _ => ?_) (fun _ => ?_)
    · refine x_lv [0, 1, 2, 3, 4, 6] rfl ?_
      exact IH.2.2.2.2.2.1 v0R v1I v2I v3I v4I v6I (σ)
    · refine x_iload C d_Md_leastSet_64 4 rfl ?_
      refine x_iload C d_Md_leastSet_66 6 rfl ?_
      refine x_ishr C d_Md_leastSet_68 ?_
      refine x_iconst (v := (1 : Int32)) C d_Md_leastSet_69 (by decide) ?_
      refine x_iand C d_Md_leastSet_70 ?_
      refine x_if_eq (tgt := 95) C d_Md_leastSet_71 (by decide) (fun _ => ?_) (fun _ => ?_)
      · refine x_lv [0, 1, 2, 3, 4, 6] rfl ?_
        exact IH.2.2.2.2.1 v0R v1I v2I v3I v4I v6I (σ)
      · refine x_aload_n C d_Md_leastSet_74 0 rfl ?_
        refine x_gd (fun h2 => ?_)
        refine x_getR (k := 27) (kv := 102) C (okO_iff.mp h1) rfl j11_ok (by decide) rfl (okO_iff.mp h2) (by decide) w1879 d_Md_leastSet_75 ?_
        refine x_iload_n C d_Md_leastSet_78 1 rfl ?_
        refine x_gd (fun h3 => ?_)
        refine x_aldJ C (okO_iff.mp h2) (inB_iff.mp h3) d_Md_leastSet_79 ?_
        refine x_iload C d_Md_leastSet_80 4 rfl ?_
        refine x_iconst (v := (1 : Int32)) C d_Md_leastSet_82 (by decide) ?_
        refine x_iload C d_Md_leastSet_83 6 rfl ?_
        refine x_ishl C d_Md_leastSet_85 ?_
        refine x_iconst (v := ((-1) : Int32)) C d_Md_leastSet_86 (by decide) ?_
        refine x_ixor C d_Md_leastSet_87 ?_
        refine x_iand C d_Md_leastSet_88 ?_
        refine x_callSI (As := [.long (aL σ (aR σ v0R 27) v1I.toNatClampNeg), .int (v4I &&& (((1 : Int32) <<< (v6I &&& 31)) ^^^ ((-1) : Int32)))]) C (c_Md_doesRing G l (aL σ (aR σ v0R 27) v1I.toNatClampNeg) (v4I &&& (((1 : Int32) <<< (v6I &&& 31)) ^^^ ((-1) : Int32))) σ) w2235 w2234 w2236 w134 k_Md_doesRing rfl (by decide) (by decide) rfl (Nat.le_of_ble_eq_true rfl) d_Md_leastSet_89 (fun r4 σ5 => ?_)
        refine x_if_ne (tgt := 99) C d_Md_leastSet_92 (by decide) (fun _ => ?_) (fun _ => ?_)
        · refine x_lv [0, 1, 2, 3, 4, 6] rfl ?_
          exact IH.2.2.2.2.1 v0R v1I v2I v3I v4I v6I (σ5)
        · refine x_lv [0, 1, 2, 3, 4, 6] rfl ?_
          exact IH.2.2.2.2.2.1 v0R v1I v2I v3I v4I v6I (σ5)
  · refine x_iload C d_Md_leastSet_108 5 rfl ?_
    refine x_if_eq (tgt := 121) C d_Md_leastSet_110 (by decide) (fun _ => ?_) (fun _ => ?_)
    · refine x_lv [0, 1, 2, 3, 4, 5] rfl ?_
      exact IH.2.2.2.2.2.2.2.1 v0R v1I v2I v3I v4I v5I (σ)
    · refine x_iload_n C d_Md_leastSet_113 3 rfl ?_
      refine x_iload_n C d_Md_leastSet_114 2 rfl ?_
      refine x_icmp_ne (tgt := 121) C d_Md_leastSet_115 (by decide) (fun _ => ?_) (fun _ => ?_)
      · refine x_iload C d_Md_leastSet_118 4 rfl ?_
        exact x_iret C d_Md_leastSet_120
      · refine x_lv [0, 1, 2, 3, 4, 5] rfl ?_
        exact IH.2.2.2.2.2.2.2.1 v0R v1I v2I v3I v4I v5I (σ)
set_option maxRecDepth 20000 in
theorem s_Md_leastSet_4 {G : GX} {p : Program} {l : Launch} {e : Env} {s : State} {m : MethodId} {args : Array Value} {below : List Frame} {meth : Method} {c : Code} {z0 u0 n : Nat} (C : Cx G p s m args meth c prog_14_method_118_code 7 "BellPlateModel" ((some FieldType.int))) (IH : I_Md_leastSet G p l e s m args below meth c z0 u0 n) (v0R : Nat) (v1I : Int32) (v2I : Int32) (v3I : Int32) (v4I : Int32) (v6I : Int32) (σ : AM) : VX (QM eI G args s below z0 u0) G p l e s m args below meth c 1 z0 u0 7 (lpK (lpn F_Md_leastSet n) (T_Md_leastSet_4 v0R v1I v2I v3I v4I v6I σ)) 95 [(0, .ref v0R), (1, .int v1I), (2, .int v2I), (3, .int v3I), (4, .int v4I), (6, .int v6I)] [] σ := by
  unfold T_Md_leastSet_4
  refine x_iconst (v := (1 : Int32)) C d_Md_leastSet_95 (by decide) ?_
  refine x_goto (tgt := 100) C d_Md_leastSet_96 (by decide) ?_
  exact IH.2.2.2.2.2.2.1 v0R v1I v2I v3I v4I v6I ((1 : Int32)) (σ)
set_option maxRecDepth 20000 in
theorem s_Md_leastSet_5 {G : GX} {p : Program} {l : Launch} {e : Env} {s : State} {m : MethodId} {args : Array Value} {below : List Frame} {meth : Method} {c : Code} {z0 u0 n : Nat} (C : Cx G p s m args meth c prog_14_method_118_code 7 "BellPlateModel" ((some FieldType.int))) (IH : I_Md_leastSet G p l e s m args below meth c z0 u0 n) (v0R : Nat) (v1I : Int32) (v2I : Int32) (v3I : Int32) (v4I : Int32) (v6I : Int32) (σ : AM) : VX (QM eI G args s below z0 u0) G p l e s m args below meth c 1 z0 u0 7 (lpK (lpn F_Md_leastSet n) (T_Md_leastSet_5 v0R v1I v2I v3I v4I v6I σ)) 99 [(0, .ref v0R), (1, .int v1I), (2, .int v2I), (3, .int v3I), (4, .int v4I), (6, .int v6I)] [] σ := by
  unfold T_Md_leastSet_5
  refine x_iconst (v := (0 : Int32)) C d_Md_leastSet_99 (by decide) ?_
  exact IH.2.2.2.2.2.2.1 v0R v1I v2I v3I v4I v6I ((0 : Int32)) (σ)
set_option maxRecDepth 20000 in
theorem s_Md_leastSet_6 {G : GX} {p : Program} {l : Launch} {e : Env} {s : State} {m : MethodId} {args : Array Value} {below : List Frame} {meth : Method} {c : Code} {z0 u0 n : Nat} (C : Cx G p s m args meth c prog_14_method_118_code 7 "BellPlateModel" ((some FieldType.int))) (IH : I_Md_leastSet G p l e s m args below meth c z0 u0 n) (v0R : Nat) (v1I : Int32) (v2I : Int32) (v3I : Int32) (v4I : Int32) (v6I : Int32) (s0I : Int32) (σ : AM) : VX (QM eI G args s below z0 u0) G p l e s m args below meth c 1 z0 u0 7 (lpK (lpn F_Md_leastSet n) (T_Md_leastSet_6 v0R v1I v2I v3I v4I v6I s0I σ)) 100 [(0, .ref v0R), (1, .int v1I), (2, .int v2I), (3, .int v3I), (4, .int v4I), (6, .int v6I)] [.int s0I] σ := by
  unfold T_Md_leastSet_6
  refine x_istore (lv' := [(5, .int s0I), (0, .ref v0R), (1, .int v1I), (2, .int v2I), (3, .int v3I), (4, .int v4I), (6, .int v6I)]) C d_Md_leastSet_100 (by decide) rfl ?_
  refine x_iinc (v := v6I + (1 : Int32)) (lv' := [(6, .int (v6I + (1 : Int32))), (5, .int s0I), (0, .ref v0R), (1, .int v1I), (2, .int v2I), (3, .int v3I), (4, .int v4I)]) C d_Md_leastSet_102 6 rfl rfl (by decide) rfl ?_
  refine x_goto (tgt := 50) C d_Md_leastSet_105 (by decide) ?_
  refine x_lv [2, 3, 4, 5, 6, 1, 0] rfl ?_
  exact IH.2.2.2.1 v0R v1I v2I v3I v4I s0I (v6I + (1 : Int32)) (σ)
set_option maxRecDepth 20000 in
theorem s_Md_leastSet_7 {G : GX} {p : Program} {l : Launch} {e : Env} {s : State} {m : MethodId} {args : Array Value} {below : List Frame} {meth : Method} {c : Code} {z0 u0 n : Nat} (C : Cx G p s m args meth c prog_14_method_118_code 7 "BellPlateModel" ((some FieldType.int))) (IH : I_Md_leastSet G p l e s m args below meth c z0 u0 n) (v0R : Nat) (v1I : Int32) (v2I : Int32) (v3I : Int32) (v4I : Int32) (v5I : Int32) (σ : AM) : VX (QM eI G args s below z0 u0) G p l e s m args below meth c 1 z0 u0 7 (lpK (lpn F_Md_leastSet n) (T_Md_leastSet_7 v0R v1I v2I v3I v4I v5I σ)) 121 [(0, .ref v0R), (1, .int v1I), (2, .int v2I), (3, .int v3I), (4, .int v4I), (5, .int v5I)] [] σ := by
  unfold T_Md_leastSet_7
  refine x_iload_n C d_Md_leastSet_121 3 rfl ?_
  refine x_iload C d_Md_leastSet_122 5 rfl ?_
  refine x_if_eq (tgt := 131) C d_Md_leastSet_124 (by decide) (fun _ => ?_) (fun _ => ?_)
  · refine x_iconst (v := (0 : Int32)) C d_Md_leastSet_131 (by decide) ?_
    refine x_lv [0, 1, 2, 4] rfl ?_
    exact IH.2.2.2.2.2.2.2.2.1 v0R v1I v2I v4I v3I ((0 : Int32)) (σ)
  · refine x_iconst (v := (1 : Int32)) C d_Md_leastSet_127 (by decide) ?_
    refine x_goto (tgt := 132) C d_Md_leastSet_128 (by decide) ?_
    refine x_lv [0, 1, 2, 4] rfl ?_
    exact IH.2.2.2.2.2.2.2.2.1 v0R v1I v2I v4I v3I ((1 : Int32)) (σ)
set_option maxRecDepth 20000 in
theorem s_Md_leastSet_8 {G : GX} {p : Program} {l : Launch} {e : Env} {s : State} {m : MethodId} {args : Array Value} {below : List Frame} {meth : Method} {c : Code} {z0 u0 n : Nat} (C : Cx G p s m args meth c prog_14_method_118_code 7 "BellPlateModel" ((some FieldType.int))) (IH : I_Md_leastSet G p l e s m args below meth c z0 u0 n) (v0R : Nat) (v1I : Int32) (v2I : Int32) (v4I : Int32) (s0I : Int32) (s1I : Int32) (σ : AM) : VX (QM eI G args s below z0 u0) G p l e s m args below meth c 1 z0 u0 7 (lpK (lpn F_Md_leastSet n) (T_Md_leastSet_8 v0R v1I v2I v4I s0I s1I σ)) 132 [(0, .ref v0R), (1, .int v1I), (2, .int v2I), (4, .int v4I)] [.int s1I, .int s0I] σ := by
  unfold T_Md_leastSet_8
  refine x_iadd C d_Md_leastSet_132 ?_
  refine x_letI (fun x1 _ => ?_)
  refine x_istore_n (lv' := [(3, .int x1), (0, .ref v0R), (1, .int v1I), (2, .int v2I), (4, .int v4I)]) C d_Md_leastSet_133 (by decide) rfl rfl ?_
  refine x_iinc (v := v4I + (1 : Int32)) (lv' := [(4, .int (v4I + (1 : Int32))), (3, .int x1), (0, .ref v0R), (1, .int v1I), (2, .int v2I)]) C d_Md_leastSet_134 4 rfl rfl (by decide) rfl ?_
  refine x_goto (tgt := 25) C d_Md_leastSet_137 (by decide) ?_
  refine x_lv [2, 3, 4, 1, 0] rfl ?_
  exact IH.2.2.1 v0R v1I v2I x1 (v4I + (1 : Int32)) (σ)
set_option maxRecDepth 20000 in
theorem s_Md_leastSet_9 {G : GX} {p : Program} {l : Launch} {e : Env} {s : State} {m : MethodId} {args : Array Value} {below : List Frame} {meth : Method} {c : Code} {z0 u0 n : Nat} (C : Cx G p s m args meth c prog_14_method_118_code 7 "BellPlateModel" ((some FieldType.int))) (IH : I_Md_leastSet G p l e s m args below meth c z0 u0 n) (s0I : Int32) (σ : AM) : VX (QM eI G args s below z0 u0) G p l e s m args below meth c 1 z0 u0 7 (lpK (lpn F_Md_leastSet n) (T_Md_leastSet_9 s0I σ)) 149 [] [.int s0I] σ := by
  unfold T_Md_leastSet_9
  exact x_iret C d_Md_leastSet_149
theorem i_Md_leastSet {G : GX} {p : Program} {l : Launch} {e : Env} {s : State} {m : MethodId} {args : Array Value} {below : List Frame} {meth : Method} {c : Code} {z0 u0 : Nat} (C : Cx G p s m args meth c prog_14_method_118_code 7 "BellPlateModel" ((some FieldType.int))) (n : Nat) : I_Md_leastSet G p l e s m args below meth c z0 u0 n := by
  induction n with
  | zero => exact ⟨fun _ _ _ _ => x_none, fun _ => x_none, fun _ _ _ _ _ _ => x_none, fun _ _ _ _ _ _ _ _ => x_none, fun _ _ _ _ _ _ _ => x_none, fun _ _ _ _ _ _ _ => x_none, fun _ _ _ _ _ _ _ _ => x_none, fun _ _ _ _ _ _ _ => x_none, fun _ _ _ _ _ _ _ => x_none, fun _ _ => x_none⟩
  | succ n IH => exact ⟨fun v0R v1I v2I σ => s_Md_leastSet_0 C IH v0R v1I v2I σ, fun σ => s_Md_leastSet_1 C IH σ, fun v0R v1I v2I v3I v4I σ => s_Md_leastSet_2 C IH v0R v1I v2I v3I v4I σ, fun v0R v1I v2I v3I v4I v5I v6I σ => s_Md_leastSet_3 C IH v0R v1I v2I v3I v4I v5I v6I σ, fun v0R v1I v2I v3I v4I v6I σ => s_Md_leastSet_4 C IH v0R v1I v2I v3I v4I v6I σ, fun v0R v1I v2I v3I v4I v6I σ => s_Md_leastSet_5 C IH v0R v1I v2I v3I v4I v6I σ, fun v0R v1I v2I v3I v4I v6I s0I σ => s_Md_leastSet_6 C IH v0R v1I v2I v3I v4I v6I s0I σ, fun v0R v1I v2I v3I v4I v5I σ => s_Md_leastSet_7 C IH v0R v1I v2I v3I v4I v5I σ, fun v0R v1I v2I v4I s0I s1I σ => s_Md_leastSet_8 C IH v0R v1I v2I v4I s0I s1I σ, fun s0I σ => s_Md_leastSet_9 C IH s0I σ⟩
theorem c_Md_leastSet (G : GX) (l : Launch) (v0R : Nat) (v1I : Int32) (v2I : Int32) (σ : AM) : CT eI G l 1 y_Md_leastSet prog_14_method_118_code 7 ((some FieldType.int)) [.ref v0R, .int v1I, .int v2I] σ (M_Md_leastSet v0R v1I v2I σ) := by
  refine ct_of (by decide +kernel) (Nat.le_of_ble_eq_true rfl) (fun p e s m args below meth c C hin => ?_)
  refine x_lve (lv' := [(0, .ref v0R), (1, .int v1I), (2, .int v2I)]) rfl ?_
  intro r σ' h
  obtain ⟨n, hn⟩ := (lp_iff _ _ _).mp h
  exact (i_Md_leastSet C n).1 v0R v1I v2I σ r σ' hn
/-! BellPlateModel.vetoes(I)I -/
abbrev y_Md_vetoes : MethodName := ⟨"BellPlateModel", "vetoes", "(I)I"⟩
theorem k_Md_vetoes : y_Md_vetoes.cls ≠ "java/lang/invoke/MethodHandle" ∧ y_Md_vetoes.cls ≠ "java/lang/invoke/VarHandle" ∧ (parseMethodDescriptor y_Md_vetoes.desc).map (fun d => d.parameters.length) = some 1 := by decide +kernel
theorem d_Md_vetoes_0 : decode prog_14_method_119_code 0 = .ok (.aload_n 0, 1) := by decide +kernel
theorem d_Md_vetoes_1 : decode prog_14_method_119_code 1 = .ok (.iconst 0, 1) := by decide +kernel
theorem d_Md_vetoes_2 : decode prog_14_method_119_code 2 = .ok (.putfield 1, 3) := by decide +kernel
theorem d_Md_vetoes_5 : decode prog_14_method_119_code 5 = .ok (.aload_n 0, 1) := by decide +kernel
theorem d_Md_vetoes_6 : decode prog_14_method_119_code 6 = .ok (.iload_n 1, 1) := by decide +kernel
theorem d_Md_vetoes_7 : decode prog_14_method_119_code 7 = .ok (.invokevirtual 337, 3) := by decide +kernel
theorem d_Md_vetoes_10 : decode prog_14_method_119_code 10 = .ok (.ifCond .ne 5, 3) := by decide +kernel
theorem d_Md_vetoes_13 : decode prog_14_method_119_code 13 = .ok (.iconst (-1), 1) := by decide +kernel
theorem d_Md_vetoes_14 : decode prog_14_method_119_code 14 = .ok (.ireturn, 1) := by decide +kernel
theorem d_Md_vetoes_15 : decode prog_14_method_119_code 15 = .ok (.aload_n 0, 1) := by decide +kernel
theorem d_Md_vetoes_16 : decode prog_14_method_119_code 16 = .ok (.invokevirtual 306, 3) := by decide +kernel
theorem d_Md_vetoes_19 : decode prog_14_method_119_code 19 = .ok (.iconst 1, 1) := by decide +kernel
theorem d_Md_vetoes_20 : decode prog_14_method_119_code 20 = .ok (.isub, 1) := by decide +kernel
theorem d_Md_vetoes_21 : decode prog_14_method_119_code 21 = .ok (.istore_n 2, 1) := by decide +kernel
theorem d_Md_vetoes_22 : decode prog_14_method_119_code 22 = .ok (.iconst 0, 1) := by decide +kernel
theorem d_Md_vetoes_23 : decode prog_14_method_119_code 23 = .ok (.istore_n 3, 1) := by decide +kernel
theorem d_Md_vetoes_24 : decode prog_14_method_119_code 24 = .ok (.iload_n 3, 1) := by decide +kernel
theorem d_Md_vetoes_25 : decode prog_14_method_119_code 25 = .ok (.aload_n 0, 1) := by decide +kernel
theorem d_Md_vetoes_26 : decode prog_14_method_119_code 26 = .ok (.invokevirtual 306, 3) := by decide +kernel
theorem d_Md_vetoes_29 : decode prog_14_method_119_code 29 = .ok (.if_icmp .ge 30, 3) := by decide +kernel
theorem d_Md_vetoes_32 : decode prog_14_method_119_code 32 = .ok (.iload_n 2, 1) := by decide +kernel
theorem d_Md_vetoes_33 : decode prog_14_method_119_code 33 = .ok (.aload_n 0, 1) := by decide +kernel
theorem d_Md_vetoes_34 : decode prog_14_method_119_code 34 = .ok (.getfield 75, 3) := by decide +kernel
theorem d_Md_vetoes_37 : decode prog_14_method_119_code 37 = .ok (.iload_n 1, 1) := by decide +kernel
theorem d_Md_vetoes_38 : decode prog_14_method_119_code 38 = .ok (.laload, 1) := by decide +kernel
theorem d_Md_vetoes_39 : decode prog_14_method_119_code 39 = .ok (.iload_n 3, 1) := by decide +kernel
theorem d_Md_vetoes_40 : decode prog_14_method_119_code 40 = .ok (.invokestatic 357, 3) := by decide +kernel
theorem d_Md_vetoes_43 : decode prog_14_method_119_code 43 = .ok (.ifCond .eq 7, 3) := by decide +kernel
theorem d_Md_vetoes_46 : decode prog_14_method_119_code 46 = .ok (.iload_n 3, 1) := by decide +kernel
theorem d_Md_vetoes_47 : decode prog_14_method_119_code 47 = .ok (.goto 4, 3) := by decide +kernel
theorem d_Md_vetoes_50 : decode prog_14_method_119_code 50 = .ok (.iload_n 2, 1) := by decide +kernel
theorem d_Md_vetoes_51 : decode prog_14_method_119_code 51 = .ok (.iand, 1) := by decide +kernel
theorem d_Md_vetoes_52 : decode prog_14_method_119_code 52 = .ok (.istore_n 2, 1) := by decide +kernel
theorem d_Md_vetoes_53 : decode prog_14_method_119_code 53 = .ok (.iinc 3 1, 3) := by decide +kernel
theorem d_Md_vetoes_56 : decode prog_14_method_119_code 56 = .ok (.goto (-32), 3) := by decide +kernel
theorem d_Md_vetoes_59 : decode prog_14_method_119_code 59 = .ok (.iload_n 2, 1) := by decide +kernel
theorem d_Md_vetoes_60 : decode prog_14_method_119_code 60 = .ok (.ireturn, 1) := by decide +kernel
abbrev S_Md_vetoes : Type := Nat × Nat × Int32 × Int32 × Int32 × Int32 × Int32 × AM
noncomputable def T_Md_vetoes_0 (v0R : Nat) (v1I : Int32) (σ : AM) : S_Md_vetoes ⊕ Option (Int32 × AM) :=
  gdT (okO σ v0R 12) <| letT (sI σ v0R 0 (0 : Int32)) fun σ2 => bndT (M_Md_isWeights v0R v1I σ2) fun r4 σ5 => if r4 = 0 then (.inr (some (((-1) : Int32), σ5))) else (gdT (okO σ5 v0R 12) <| bndT (M_Md_sets v0R σ5) fun r6 σ7 => letT (r6 - (1 : Int32)) fun x9 => .inl (1, v0R, v1I, x9, (0 : Int32), 0, 0, σ7))
noncomputable def T_Md_vetoes_1 (v0R : Nat) (v1I : Int32) (v2I : Int32) (v3I : Int32) (σ : AM) : S_Md_vetoes ⊕ Option (Int32 × AM) :=
  gdT (okO σ v0R 12) <| bndT (M_Md_sets v0R σ) fun r1 σ2 => if v3I < r1 then (gdT (okO σ2 v0R 12) <| gdT (okO σ2 (aR σ2 v0R 27) 102) <| gdT (inB v1I (aN σ2 (aR σ2 v0R 27))) <| bndT (M_Md_doesRing (aL σ2 (aR σ2 v0R 27) v1I.toNatClampNeg) v3I σ2) fun r7 σ8 => if r7 = 0 then (.inl (2, v0R, v1I, 0, v3I, v2I, v2I, σ8)) else (.inl (2, v0R, v1I, 0, v3I, v2I, v3I, σ8))) else (.inr (some (v2I, σ2)))
noncomputable def T_Md_vetoes_2 (v0R : Nat) (v1I : Int32) (v3I : Int32) (s0I : Int32) (s1I : Int32) (σ : AM) : S_Md_vetoes ⊕ Option (Int32 × AM) :=
  letT (s0I &&& s1I) fun x1 => .inl (1, v0R, v1I, x1, v3I + (1 : Int32), 0, 0, σ)
noncomputable def F_Md_vetoes : S_Md_vetoes → S_Md_vetoes ⊕ Option (Int32 × AM) := fun s => match s.1 with
  | 0 => T_Md_vetoes_0 (s.2.1) (s.2.2.1) (s.2.2.2.2.2.2.2)
  | 1 => T_Md_vetoes_1 (s.2.1) (s.2.2.1) (s.2.2.2.1) (s.2.2.2.2.1) (s.2.2.2.2.2.2.2)
  | _ => T_Md_vetoes_2 (s.2.1) (s.2.2.1) (s.2.2.2.2.1) (s.2.2.2.2.2.1) (s.2.2.2.2.2.2.1) (s.2.2.2.2.2.2.2)
noncomputable def L_Md_vetoes_0 (v0R : Nat) (v1I : Int32) (σ : AM) : Option (Int32 × AM) := lp F_Md_vetoes (0, v0R, v1I, 0, 0, 0, 0, σ)
noncomputable def L_Md_vetoes_1 (v0R : Nat) (v1I : Int32) (v2I : Int32) (v3I : Int32) (σ : AM) : Option (Int32 × AM) := lp F_Md_vetoes (1, v0R, v1I, v2I, v3I, 0, 0, σ)
noncomputable def L_Md_vetoes_2 (v0R : Nat) (v1I : Int32) (v3I : Int32) (s0I : Int32) (s1I : Int32) (σ : AM) : Option (Int32 × AM) := lp F_Md_vetoes (2, v0R, v1I, 0, v3I, s0I, s1I, σ)
set_option maxRecDepth 20000 in
theorem E_Md_vetoes_0 (v0R : Nat) (v1I : Int32) (σ : AM) : L_Md_vetoes_0 v0R v1I σ = (gd (okO σ v0R 12) <| letT (sI σ v0R 0 (0 : Int32)) fun σ2 => bnd (M_Md_isWeights v0R v1I σ2) fun r4 σ5 => if r4 = 0 then ((some (((-1) : Int32), σ5))) else (gd (okO σ5 v0R 12) <| bnd (M_Md_sets v0R σ5) fun r6 σ7 => letT (r6 - (1 : Int32)) fun x9 => L_Md_vetoes_1 v0R v1I x9 ((0 : Int32)) σ7)) := by
  unfold L_Md_vetoes_0
  rw [lp_eq]
  show lpK (lp F_Md_vetoes) (T_Md_vetoes_0 v0R v1I σ) = _
  unfold T_Md_vetoes_0
  simp only [lpK_ite, lq_inl, lq_inr, lpK_bnd, lpK_gd, lq_let]
  try rfl
set_option maxRecDepth 20000 in
theorem E_Md_vetoes_1 (v0R : Nat) (v1I : Int32) (v2I : Int32) (v3I : Int32) (σ : AM) : L_Md_vetoes_1 v0R v1I v2I v3I σ = (gd (okO σ v0R 12) <| bnd (M_Md_sets v0R σ) fun r1 σ2 => if v3I < r1 then (gd (okO σ2 v0R 12) <| gd (okO σ2 (aR σ2 v0R 27) 102) <| gd (inB v1I (aN σ2 (aR σ2 v0R 27))) <| bnd (M_Md_doesRing (aL σ2 (aR σ2 v0R 27) v1I.toNatClampNeg) v3I σ2) fun r7 σ8 => if r7 = 0 then (L_Md_vetoes_2 v0R v1I v3I v2I v2I σ8) else (L_Md_vetoes_2 v0R v1I v3I v2I v3I σ8)) else ((some (v2I, σ2)))) := by
  unfold L_Md_vetoes_1
  rw [lp_eq]
  show lpK (lp F_Md_vetoes) (T_Md_vetoes_1 v0R v1I v2I v3I σ) = _
  unfold T_Md_vetoes_1
  simp only [lpK_ite, lq_inl, lq_inr, lpK_bnd, lpK_gd, lq_let]
  try rfl
set_option maxRecDepth 20000 in
theorem E_Md_vetoes_2 (v0R : Nat) (v1I : Int32) (v3I : Int32) (s0I : Int32) (s1I : Int32) (σ : AM) : L_Md_vetoes_2 v0R v1I v3I s0I s1I σ = (letT (s0I &&& s1I) fun x1 => L_Md_vetoes_1 v0R v1I x1 (v3I + (1 : Int32)) σ) := by
  unfold L_Md_vetoes_2
  rw [lp_eq]
  show lpK (lp F_Md_vetoes) (T_Md_vetoes_2 v0R v1I v3I s0I s1I σ) = _
  unfold T_Md_vetoes_2
  simp only [lpK_ite, lq_inl, lq_inr, lpK_bnd, lpK_gd, lq_let]
  try rfl
noncomputable def M_Md_vetoes (v0R : Nat) (v1I : Int32) (σ : AM) : Option (Int32 × AM) := mw σ (L_Md_vetoes_0 v0R v1I σ)
def I_Md_vetoes (G : GX) (p : Program) (l : Launch) (e : Env) (s : State) (m : MethodId) (args : Array Value) (below : List Frame) (meth : Method) (c : Code) (z0 u0 n : Nat) : Prop :=
  (∀ (v0R : Nat) (v1I : Int32) (σ : AM), VX (QM eI G args s below z0 u0) G p l e s m args below meth c 1 z0 u0 4 (lpn F_Md_vetoes n (0, v0R, v1I, 0, 0, 0, 0, σ)) 0 [(0, .ref v0R), (1, .int v1I)] [] σ) ∧
  (∀ (v0R : Nat) (v1I : Int32) (v2I : Int32) (v3I : Int32) (σ : AM), VX (QM eI G args s below z0 u0) G p l e s m args below meth c 1 z0 u0 4 (lpn F_Md_vetoes n (1, v0R, v1I, v2I, v3I, 0, 0, σ)) 24 [(0, .ref v0R), (1, .int v1I), (2, .int v2I), (3, .int v3I)] [] σ) ∧
  (∀ (v0R : Nat) (v1I : Int32) (v3I : Int32) (s0I : Int32) (s1I : Int32) (σ : AM), VX (QM eI G args s below z0 u0) G p l e s m args below meth c 1 z0 u0 4 (lpn F_Md_vetoes n (2, v0R, v1I, 0, v3I, s0I, s1I, σ)) 51 [(0, .ref v0R), (1, .int v1I), (3, .int v3I)] [.int s1I, .int s0I] σ)
set_option maxRecDepth 20000 in
theorem s_Md_vetoes_0 {G : GX} {p : Program} {l : Launch} {e : Env} {s : State} {m : MethodId} {args : Array Value} {below : List Frame} {meth : Method} {c : Code} {z0 u0 n : Nat} (C : Cx G p s m args meth c prog_14_method_119_code 4 "BellPlateModel" ((some FieldType.int))) (IH : I_Md_vetoes G p l e s m args below meth c z0 u0 n) (v0R : Nat) (v1I : Int32) (σ : AM) : VX (QM eI G args s below z0 u0) G p l e s m args below meth c 1 z0 u0 4 (lpK (lpn F_Md_vetoes n) (T_Md_vetoes_0 v0R v1I σ)) 0 [(0, .ref v0R), (1, .int v1I)] [] σ := by
  unfold T_Md_vetoes_0
  refine x_aload_n C d_Md_vetoes_0 0 rfl ?_
  refine x_iconst (v := (0 : Int32)) C d_Md_vetoes_1 (by decide) ?_
  refine x_gd (fun h1 => ?_)
  refine x_putI (k := 0) C (okO_iff.mp h1) rfl j11_ok y11_ok n11_ok (by decide) rfl rfl rfl rfl w1852 d_Md_vetoes_2 ?_
  refine x_letS (fun σ2 e3 => ?_)
  refine x_aload_n C d_Md_vetoes_5 0 rfl ?_
  refine x_iload_n C d_Md_vetoes_6 1 rfl ?_
  refine x_callVI (As := [.int v1I]) C (c_Md_isWeights G l v0R v1I σ2) (by first | exact (okO_iff.mp h1) | (rw [e3]; exact (okO_iff.mp h1))) rfl w2182 w83 w2180 w2183 w134 k_Md_isWeights rfl (by decide) (by decide) rfl (Nat.le_of_ble_eq_true rfl) d_Md_vetoes_7 (fun r4 σ5 => ?_)
  refine x_if_ne (tgt := 15) C d_Md_vetoes_10 (by decide) (fun _ => ?_) (fun _ => ?_)
  · refine x_iconst (v := ((-1) : Int32)) C d_Md_vetoes_13 (by decide) ?_
    exact x_iret C d_Md_vetoes_14
  · refine x_aload_n C d_Md_vetoes_15 0 rfl ?_
    refine x_gd (fun h8 => ?_)
    refine x_callVI (As := []) C (c_Md_sets G l v0R  σ5) (okO_iff.mp h8) rfl w1826 w58 w1824 w1827 w134 k_Md_sets rfl (by decide) (by decide) rfl (Nat.le_of_ble_eq_true rfl) d_Md_vetoes_16 (fun r6 σ7 => ?_)
    refine x_iconst (v := (1 : Int32)) C d_Md_vetoes_19 (by decide) ?_
    refine x_isub C d_Md_vetoes_20 ?_
    refine x_letI (fun x9 _ => ?_)
    refine x_istore_n (lv' := [(2, .int x9), (0, .ref v0R), (1, .int v1I)]) C d_Md_vetoes_21 (by decide) rfl rfl ?_
    refine x_iconst (v := (0 : Int32)) C d_Md_vetoes_22 (by decide) ?_
    refine x_istore_n (lv' := [(3, .int (0 : Int32)), (2, .int x9), (0, .ref v0R), (1, .int v1I)]) C d_Md_vetoes_23 (by decide) rfl rfl ?_
    refine x_lv [2, 3, 1, 0] rfl ?_
    exact IH.2.1 v0R v1I x9 ((0 : Int32)) (σ7)
set_option maxRecDepth 20000 in
theorem s_Md_vetoes_1 {G : GX} {p : Program} {l : Launch} {e : Env} {s : State} {m : MethodId} {args : Array Value} {below : List Frame} {meth : Method} {c : Code} {z0 u0 n : Nat} (C : Cx G p s m args meth c prog_14_method_119_code 4 "BellPlateModel" ((some FieldType.int))) (IH : I_Md_vetoes G p l e s m args below meth c z0 u0 n) (v0R : Nat) (v1I : Int32) (v2I : Int32) (v3I : Int32) (σ : AM) : VX (QM eI G args s below z0 u0) G p l e s m args below meth c 1 z0 u0 4 (lpK (lpn F_Md_vetoes n) (T_Md_vetoes_1 v0R v1I v2I v3I σ)) 24 [(0, .ref v0R), (1, .int v1I), (2, .int v2I), (3, .int v3I)] [] σ := by
  unfold T_Md_vetoes_1
  refine x_iload_n C d_Md_vetoes_24 3 rfl ?_
  refine x_aload_n C d_Md_vetoes_25 0 rfl ?_
  refine x_gd (fun h3 => ?_)
  refine x_callVI (As := []) C (c_Md_sets G l v0R  σ) (okO_iff.mp h3) rfl w1826 w58 w1824 w1827 w134 k_Md_sets rfl (by decide) (by decide) rfl (Nat.le_of_ble_eq_true rfl) d_Md_vetoes_26 (fun r1 σ2 => ?_)
  refine x_icmp_ge (tgt := 59) C d_Md_vetoes_29 (by decide) (fun _ => ?_) (fun _ => ?_)
  · refine x_iload_n C d_Md_vetoes_32 2 rfl ?_
    refine x_aload_n C d_Md_vetoes_33 0 rfl ?_
    refine x_gd (fun h4 => ?_)
    refine x_gd (fun h5 => ?_)
    refine x_getR (k := 27) (kv := 102) C (okO_iff.mp h4) rfl j11_ok (by decide) rfl (okO_iff.mp h5) (by decide) w1879 d_Md_vetoes_34 ?_
    refine x_iload_n C d_Md_vetoes_37 1 rfl ?_
    refine x_gd (fun h6 => ?_)
    refine x_aldJ C (okO_iff.mp h5) (inB_iff.mp h6) d_Md_vetoes_38 ?_
    refine x_iload_n C d_Md_vetoes_39 3 rfl ?_
    refine x_callSI (As := [.long (aL σ2 (aR σ2 v0R 27) v1I.toNatClampNeg), .int v3I]) C (c_Md_doesRing G l (aL σ2 (aR σ2 v0R 27) v1I.toNatClampNeg) v3I σ2) w2235 w2234 w2236 w134 k_Md_doesRing rfl (by decide) (by decide) rfl (Nat.le_of_ble_eq_true rfl) d_Md_vetoes_40 (fun r7 σ8 => ?_)
    refine x_if_eq (tgt := 50) C d_Md_vetoes_43 (by decide) (fun _ => ?_) (fun _ => ?_)
    · refine x_iload_n C d_Md_vetoes_50 2 rfl ?_
      refine x_lv [0, 1, 3] rfl ?_
      exact IH.2.2 v0R v1I v3I v2I v2I (σ8)
    · refine x_iload_n C d_Md_vetoes_46 3 rfl ?_
      refine x_goto (tgt := 51) C d_Md_vetoes_47 (by decide) ?_
      refine x_lv [0, 1, 3] rfl ?_
      exact IH.2.2 v0R v1I v3I v2I v3I (σ8)
  · refine x_iload_n C d_Md_vetoes_59 2 rfl ?_
    exact x_iret C d_Md_vetoes_60
set_option maxRecDepth 20000 in
theorem s_Md_vetoes_2 {G : GX} {p : Program} {l : Launch} {e : Env} {s : State} {m : MethodId} {args : Array Value} {below : List Frame} {meth : Method} {c : Code} {z0 u0 n : Nat} (C : Cx G p s m args meth c prog_14_method_119_code 4 "BellPlateModel" ((some FieldType.int))) (IH : I_Md_vetoes G p l e s m args below meth c z0 u0 n) (v0R : Nat) (v1I : Int32) (v3I : Int32) (s0I : Int32) (s1I : Int32) (σ : AM) : VX (QM eI G args s below z0 u0) G p l e s m args below meth c 1 z0 u0 4 (lpK (lpn F_Md_vetoes n) (T_Md_vetoes_2 v0R v1I v3I s0I s1I σ)) 51 [(0, .ref v0R), (1, .int v1I), (3, .int v3I)] [.int s1I, .int s0I] σ := by
  unfold T_Md_vetoes_2
  refine x_iand C d_Md_vetoes_51 ?_
  refine x_letI (fun x1 _ => ?_)
  refine x_istore_n (lv' := [(2, .int x1), (0, .ref v0R), (1, .int v1I), (3, .int v3I)]) C d_Md_vetoes_52 (by decide) rfl rfl ?_
  refine x_iinc (v := v3I + (1 : Int32)) (lv' := [(3, .int (v3I + (1 : Int32))), (2, .int x1), (0, .ref v0R), (1, .int v1I)]) C d_Md_vetoes_53 3 rfl rfl (by decide) rfl ?_
  refine x_goto (tgt := 24) C d_Md_vetoes_56 (by decide) ?_
  refine x_lv [2, 3, 1, 0] rfl ?_
  exact IH.2.1 v0R v1I x1 (v3I + (1 : Int32)) (σ)
theorem i_Md_vetoes {G : GX} {p : Program} {l : Launch} {e : Env} {s : State} {m : MethodId} {args : Array Value} {below : List Frame} {meth : Method} {c : Code} {z0 u0 : Nat} (C : Cx G p s m args meth c prog_14_method_119_code 4 "BellPlateModel" ((some FieldType.int))) (n : Nat) : I_Md_vetoes G p l e s m args below meth c z0 u0 n := by
  induction n with
  | zero => exact ⟨fun _ _ _ => x_none, fun _ _ _ _ _ => x_none, fun _ _ _ _ _ _ => x_none⟩
  | succ n IH => exact ⟨fun v0R v1I σ => s_Md_vetoes_0 C IH v0R v1I σ, fun v0R v1I v2I v3I σ => s_Md_vetoes_1 C IH v0R v1I v2I v3I σ, fun v0R v1I v3I s0I s1I σ => s_Md_vetoes_2 C IH v0R v1I v3I s0I s1I σ⟩
theorem c_Md_vetoes (G : GX) (l : Launch) (v0R : Nat) (v1I : Int32) (σ : AM) : CT eI G l 1 y_Md_vetoes prog_14_method_119_code 4 ((some FieldType.int)) [.ref v0R, .int v1I] σ (M_Md_vetoes v0R v1I σ) := by
  refine ct_of (by decide +kernel) (Nat.le_of_ble_eq_true rfl) (fun p e s m args below meth c C hin => ?_)
  refine x_lve (lv' := [(0, .ref v0R), (1, .int v1I)]) rfl ?_
  intro r σ' h
  obtain ⟨n, hn⟩ := (lp_iff _ _ _).mp h
  exact (i_Md_vetoes C n).1 v0R v1I σ r σ' hn
/-! BellPlateModel.lay(I)I -/
abbrev y_Md_lay : MethodName := ⟨"BellPlateModel", "lay", "(I)I"⟩
theorem k_Md_lay : y_Md_lay.cls ≠ "java/lang/invoke/MethodHandle" ∧ y_Md_lay.cls ≠ "java/lang/invoke/VarHandle" ∧ (parseMethodDescriptor y_Md_lay.desc).map (fun d => d.parameters.length) = some 1 := by decide +kernel
theorem d_Md_lay_0 : decode prog_14_method_120_code 0 = .ok (.aload_n 0, 1) := by decide +kernel
theorem d_Md_lay_1 : decode prog_14_method_120_code 1 = .ok (.iconst 0, 1) := by decide +kernel
theorem d_Md_lay_2 : decode prog_14_method_120_code 2 = .ok (.putfield 1, 3) := by decide +kernel
theorem d_Md_lay_5 : decode prog_14_method_120_code 5 = .ok (.iconst 0, 1) := by decide +kernel
theorem d_Md_lay_6 : decode prog_14_method_120_code 6 = .ok (.istore_n 2, 1) := by decide +kernel
theorem d_Md_lay_7 : decode prog_14_method_120_code 7 = .ok (.iconst 0, 1) := by decide +kernel
theorem d_Md_lay_8 : decode prog_14_method_120_code 8 = .ok (.istore_n 3, 1) := by decide +kernel
theorem d_Md_lay_9 : decode prog_14_method_120_code 9 = .ok (.iload_n 3, 1) := by decide +kernel
theorem d_Md_lay_10 : decode prog_14_method_120_code 10 = .ok (.aload_n 0, 1) := by decide +kernel
theorem d_Md_lay_11 : decode prog_14_method_120_code 11 = .ok (.getfield 251, 3) := by decide +kernel
theorem d_Md_lay_14 : decode prog_14_method_120_code 14 = .ok (.if_icmp .ge 29, 3) := by decide +kernel
theorem d_Md_lay_17 : decode prog_14_method_120_code 17 = .ok (.iload_n 2, 1) := by decide +kernel
theorem d_Md_lay_18 : decode prog_14_method_120_code 18 = .ok (.ifCond .ne 13, 3) := by decide +kernel
theorem d_Md_lay_21 : decode prog_14_method_120_code 21 = .ok (.aload_n 0, 1) := by decide +kernel
theorem d_Md_lay_22 : decode prog_14_method_120_code 22 = .ok (.getfield 149, 3) := by decide +kernel
theorem d_Md_lay_25 : decode prog_14_method_120_code 25 = .ok (.iload_n 3, 1) := by decide +kernel
theorem d_Md_lay_26 : decode prog_14_method_120_code 26 = .ok (.iaload, 1) := by decide +kernel
theorem d_Md_lay_27 : decode prog_14_method_120_code 27 = .ok (.iload_n 1, 1) := by decide +kernel
theorem d_Md_lay_28 : decode prog_14_method_120_code 28 = .ok (.if_icmp .ne 7, 3) := by decide +kernel
theorem d_Md_lay_31 : decode prog_14_method_120_code 31 = .ok (.iconst 1, 1) := by decide +kernel
theorem d_Md_lay_32 : decode prog_14_method_120_code 32 = .ok (.goto 4, 3) := by decide +kernel
theorem d_Md_lay_35 : decode prog_14_method_120_code 35 = .ok (.iconst 0, 1) := by decide +kernel
theorem d_Md_lay_36 : decode prog_14_method_120_code 36 = .ok (.istore_n 2, 1) := by decide +kernel
theorem d_Md_lay_37 : decode prog_14_method_120_code 37 = .ok (.iinc 3 1, 3) := by decide +kernel
theorem d_Md_lay_40 : decode prog_14_method_120_code 40 = .ok (.goto (-31), 3) := by decide +kernel
theorem d_Md_lay_43 : decode prog_14_method_120_code 43 = .ok (.aload_n 0, 1) := by decide +kernel
theorem d_Md_lay_44 : decode prog_14_method_120_code 44 = .ok (.iload_n 1, 1) := by decide +kernel
theorem d_Md_lay_45 : decode prog_14_method_120_code 45 = .ok (.invokevirtual 393, 3) := by decide +kernel
theorem d_Md_lay_48 : decode prog_14_method_120_code 48 = .ok (.ifCond .eq 7, 3) := by decide +kernel
theorem d_Md_lay_51 : decode prog_14_method_120_code 51 = .ok (.iload_n 2, 1) := by decide +kernel
theorem d_Md_lay_52 : decode prog_14_method_120_code 52 = .ok (.ifCond .eq 5, 3) := by decide +kernel
theorem d_Md_lay_55 : decode prog_14_method_120_code 55 = .ok (.iconst (-1), 1) := by decide +kernel
theorem d_Md_lay_56 : decode prog_14_method_120_code 56 = .ok (.ireturn, 1) := by decide +kernel
theorem d_Md_lay_57 : decode prog_14_method_120_code 57 = .ok (.aload_n 0, 1) := by decide +kernel
theorem d_Md_lay_58 : decode prog_14_method_120_code 58 = .ok (.getfield 149, 3) := by decide +kernel
theorem d_Md_lay_61 : decode prog_14_method_120_code 61 = .ok (.aload_n 0, 1) := by decide +kernel
theorem d_Md_lay_62 : decode prog_14_method_120_code 62 = .ok (.getfield 251, 3) := by decide +kernel
theorem d_Md_lay_65 : decode prog_14_method_120_code 65 = .ok (.iload_n 1, 1) := by decide +kernel
theorem d_Md_lay_66 : decode prog_14_method_120_code 66 = .ok (.iastore, 1) := by decide +kernel
theorem d_Md_lay_67 : decode prog_14_method_120_code 67 = .ok (.aload_n 0, 1) := by decide +kernel
theorem d_Md_lay_68 : decode prog_14_method_120_code 68 = .ok (.dup, 1) := by decide +kernel
theorem d_Md_lay_69 : decode prog_14_method_120_code 69 = .ok (.getfield 251, 3) := by decide +kernel
theorem d_Md_lay_72 : decode prog_14_method_120_code 72 = .ok (.iconst 1, 1) := by decide +kernel
theorem d_Md_lay_73 : decode prog_14_method_120_code 73 = .ok (.iadd, 1) := by decide +kernel
theorem d_Md_lay_74 : decode prog_14_method_120_code 74 = .ok (.putfield 251, 3) := by decide +kernel
theorem d_Md_lay_77 : decode prog_14_method_120_code 77 = .ok (.aload_n 0, 1) := by decide +kernel
theorem d_Md_lay_78 : decode prog_14_method_120_code 78 = .ok (.getfield 251, 3) := by decide +kernel
theorem d_Md_lay_81 : decode prog_14_method_120_code 81 = .ok (.ireturn, 1) := by decide +kernel
abbrev S_Md_lay : Type := Nat × Nat × Int32 × Int32 × Int32 × Int32 × AM
noncomputable def T_Md_lay_0 (v0R : Nat) (v1I : Int32) (σ : AM) : S_Md_lay ⊕ Option (Int32 × AM) :=
  gdT (okO σ v0R 12) <| letT (sI σ v0R 0 (0 : Int32)) fun σ2 => .inl (1, v0R, v1I, (0 : Int32), (0 : Int32), 0, σ2)
noncomputable def T_Md_lay_1 (v0R : Nat) (v1I : Int32) (v2I : Int32) (v3I : Int32) (σ : AM) : S_Md_lay ⊕ Option (Int32 × AM) :=
  gdT (okO σ v0R 12) <| if v3I < (aI σ v0R 70) then (if v2I = 0 then (gdT (okO σ (aR σ v0R 71) 101) <| gdT (inB v3I (aN σ (aR σ v0R 71))) <| if (aI σ (aR σ v0R 71) v3I.toNatClampNeg) = v1I then (.inl (2, v0R, v1I, 0, v3I, 0, σ)) else (.inl (3, v0R, v1I, 0, v3I, (0 : Int32), σ))) else (.inl (2, v0R, v1I, 0, v3I, 0, σ))) else (bndT (M_Md_isThing v0R v1I σ) fun r4 σ5 => if r4 = 0 then (.inl (4, 0, 0, 0, 0, 0, σ5)) else (if v2I = 0 then (gdT (okO σ5 v0R 12) <| gdT (okO σ5 (aR σ5 v0R 71) 101) <| gdT (inB (aI σ5 v0R 70) (aN σ5 (aR σ5 v0R 71))) <| letT (sI σ5 (aR σ5 v0R 71) (aI σ5 v0R 70).toNatClampNeg v1I) fun σ9 => letT (sI σ9 v0R 70 ((aI σ9 v0R 70) + (1 : Int32))) fun σ11 => .inr (some ((aI σ11 v0R 70), σ11))) else (.inl (4, 0, 0, 0, 0, 0, σ5))))
noncomputable def T_Md_lay_2 (v0R : Nat) (v1I : Int32) (v3I : Int32) (σ : AM) : S_Md_lay ⊕ Option (Int32 × AM) :=
  .inl (3, v0R, v1I, 0, v3I, (1 : Int32), σ)
noncomputable def T_Md_lay_3 (v0R : Nat) (v1I : Int32) (v3I : Int32) (s0I : Int32) (σ : AM) : S_Md_lay ⊕ Option (Int32 × AM) :=
  .inl (1, v0R, v1I, s0I, v3I + (1 : Int32), 0, σ)
noncomputable def T_Md_lay_4  (σ : AM) : S_Md_lay ⊕ Option (Int32 × AM) :=
  .inr (some (((-1) : Int32), σ))
noncomputable def F_Md_lay : S_Md_lay → S_Md_lay ⊕ Option (Int32 × AM) := fun s => match s.1 with
  | 0 => T_Md_lay_0 (s.2.1) (s.2.2.1) (s.2.2.2.2.2.2)
  | 1 => T_Md_lay_1 (s.2.1) (s.2.2.1) (s.2.2.2.1) (s.2.2.2.2.1) (s.2.2.2.2.2.2)
  | 2 => T_Md_lay_2 (s.2.1) (s.2.2.1) (s.2.2.2.2.1) (s.2.2.2.2.2.2)
  | 3 => T_Md_lay_3 (s.2.1) (s.2.2.1) (s.2.2.2.2.1) (s.2.2.2.2.2.1) (s.2.2.2.2.2.2)
  | _ => T_Md_lay_4  (s.2.2.2.2.2.2)
noncomputable def L_Md_lay_0 (v0R : Nat) (v1I : Int32) (σ : AM) : Option (Int32 × AM) := lp F_Md_lay (0, v0R, v1I, 0, 0, 0, σ)
noncomputable def L_Md_lay_1 (v0R : Nat) (v1I : Int32) (v2I : Int32) (v3I : Int32) (σ : AM) : Option (Int32 × AM) := lp F_Md_lay (1, v0R, v1I, v2I, v3I, 0, σ)
noncomputable def L_Md_lay_2 (v0R : Nat) (v1I : Int32) (v3I : Int32) (σ : AM) : Option (Int32 × AM) := lp F_Md_lay (2, v0R, v1I, 0, v3I, 0, σ)
noncomputable def L_Md_lay_3 (v0R : Nat) (v1I : Int32) (v3I : Int32) (s0I : Int32) (σ : AM) : Option (Int32 × AM) := lp F_Md_lay (3, v0R, v1I, 0, v3I, s0I, σ)
noncomputable def L_Md_lay_4  (σ : AM) : Option (Int32 × AM) := lp F_Md_lay (4, 0, 0, 0, 0, 0, σ)
set_option maxRecDepth 20000 in
theorem E_Md_lay_0 (v0R : Nat) (v1I : Int32) (σ : AM) : L_Md_lay_0 v0R v1I σ = (gd (okO σ v0R 12) <| letT (sI σ v0R 0 (0 : Int32)) fun σ2 => L_Md_lay_1 v0R v1I ((0 : Int32)) ((0 : Int32)) σ2) := by
  unfold L_Md_lay_0
  rw [lp_eq]
  show lpK (lp F_Md_lay) (T_Md_lay_0 v0R v1I σ) = _
  unfold T_Md_lay_0
  simp only [lpK_ite, lq_inl, lq_inr, lpK_bnd, lpK_gd, lq_let]
  try rfl
set_option maxRecDepth 20000 in
theorem E_Md_lay_1 (v0R : Nat) (v1I : Int32) (v2I : Int32) (v3I : Int32) (σ : AM) : L_Md_lay_1 v0R v1I v2I v3I σ = (gd (okO σ v0R 12) <| if v3I < (aI σ v0R 70) then (if v2I = 0 then (gd (okO σ (aR σ v0R 71) 101) <| gd (inB v3I (aN σ (aR σ v0R 71))) <| if (aI σ (aR σ v0R 71) v3I.toNatClampNeg) = v1I then (L_Md_lay_2 v0R v1I v3I σ) else (L_Md_lay_3 v0R v1I v3I ((0 : Int32)) σ)) else (L_Md_lay_2 v0R v1I v3I σ)) else (bnd (M_Md_isThing v0R v1I σ) fun r4 σ5 => if r4 = 0 then (L_Md_lay_4 σ5) else (if v2I = 0 then (gd (okO σ5 v0R 12) <| gd (okO σ5 (aR σ5 v0R 71) 101) <| gd (inB (aI σ5 v0R 70) (aN σ5 (aR σ5 v0R 71))) <| letT (sI σ5 (aR σ5 v0R 71) (aI σ5 v0R 70).toNatClampNeg v1I) fun σ9 => letT (sI σ9 v0R 70 ((aI σ9 v0R 70) + (1 : Int32))) fun σ11 => (some ((aI σ11 v0R 70), σ11))) else (L_Md_lay_4 σ5)))) := by
  unfold L_Md_lay_1
  rw [lp_eq]
  show lpK (lp F_Md_lay) (T_Md_lay_1 v0R v1I v2I v3I σ) = _
  unfold T_Md_lay_1
  simp only [lpK_ite, lq_inl, lq_inr, lpK_bnd, lpK_gd, lq_let]
  try rfl
set_option maxRecDepth 20000 in
theorem E_Md_lay_2 (v0R : Nat) (v1I : Int32) (v3I : Int32) (σ : AM) : L_Md_lay_2 v0R v1I v3I σ = (L_Md_lay_3 v0R v1I v3I ((1 : Int32)) σ) := by
  unfold L_Md_lay_2
  rw [lp_eq]
  show lpK (lp F_Md_lay) (T_Md_lay_2 v0R v1I v3I σ) = _
  unfold T_Md_lay_2
  simp only [lpK_ite, lq_inl, lq_inr, lpK_bnd, lpK_gd, lq_let]
  try rfl
set_option maxRecDepth 20000 in
theorem E_Md_lay_3 (v0R : Nat) (v1I : Int32) (v3I : Int32) (s0I : Int32) (σ : AM) : L_Md_lay_3 v0R v1I v3I s0I σ = (L_Md_lay_1 v0R v1I s0I (v3I + (1 : Int32)) σ) := by
  unfold L_Md_lay_3
  rw [lp_eq]
  show lpK (lp F_Md_lay) (T_Md_lay_3 v0R v1I v3I s0I σ) = _
  unfold T_Md_lay_3
  simp only [lpK_ite, lq_inl, lq_inr, lpK_bnd, lpK_gd, lq_let]
  try rfl
set_option maxRecDepth 20000 in
theorem E_Md_lay_4  (σ : AM) : L_Md_lay_4  σ = ((some (((-1) : Int32), σ))) := by
  unfold L_Md_lay_4
  rw [lp_eq]
  show lpK (lp F_Md_lay) (T_Md_lay_4  σ) = _
  unfold T_Md_lay_4
  simp only [lpK_ite, lq_inl, lq_inr, lpK_bnd, lpK_gd, lq_let]
  try rfl
noncomputable def M_Md_lay (v0R : Nat) (v1I : Int32) (σ : AM) : Option (Int32 × AM) := mw σ (L_Md_lay_0 v0R v1I σ)
def I_Md_lay (G : GX) (p : Program) (l : Launch) (e : Env) (s : State) (m : MethodId) (args : Array Value) (below : List Frame) (meth : Method) (c : Code) (z0 u0 n : Nat) : Prop :=
  (∀ (v0R : Nat) (v1I : Int32) (σ : AM), VX (QM eI G args s below z0 u0) G p l e s m args below meth c 1 z0 u0 4 (lpn F_Md_lay n (0, v0R, v1I, 0, 0, 0, σ)) 0 [(0, .ref v0R), (1, .int v1I)] [] σ) ∧
  (∀ (v0R : Nat) (v1I : Int32) (v2I : Int32) (v3I : Int32) (σ : AM), VX (QM eI G args s below z0 u0) G p l e s m args below meth c 1 z0 u0 4 (lpn F_Md_lay n (1, v0R, v1I, v2I, v3I, 0, σ)) 9 [(0, .ref v0R), (1, .int v1I), (2, .int v2I), (3, .int v3I)] [] σ) ∧
  (∀ (v0R : Nat) (v1I : Int32) (v3I : Int32) (σ : AM), VX (QM eI G args s below z0 u0) G p l e s m args below meth c 1 z0 u0 4 (lpn F_Md_lay n (2, v0R, v1I, 0, v3I, 0, σ)) 31 [(0, .ref v0R), (1, .int v1I), (3, .int v3I)] [] σ) ∧
  (∀ (v0R : Nat) (v1I : Int32) (v3I : Int32) (s0I : Int32) (σ : AM), VX (QM eI G args s below z0 u0) G p l e s m args below meth c 1 z0 u0 4 (lpn F_Md_lay n (3, v0R, v1I, 0, v3I, s0I, σ)) 36 [(0, .ref v0R), (1, .int v1I), (3, .int v3I)] [.int s0I] σ) ∧
  (∀ (σ : AM), VX (QM eI G args s below z0 u0) G p l e s m args below meth c 1 z0 u0 4 (lpn F_Md_lay n (4, 0, 0, 0, 0, 0, σ)) 55 [] [] σ)
set_option maxRecDepth 20000 in
theorem s_Md_lay_0 {G : GX} {p : Program} {l : Launch} {e : Env} {s : State} {m : MethodId} {args : Array Value} {below : List Frame} {meth : Method} {c : Code} {z0 u0 n : Nat} (C : Cx G p s m args meth c prog_14_method_120_code 4 "BellPlateModel" ((some FieldType.int))) (IH : I_Md_lay G p l e s m args below meth c z0 u0 n) (v0R : Nat) (v1I : Int32) (σ : AM) : VX (QM eI G args s below z0 u0) G p l e s m args below meth c 1 z0 u0 4 (lpK (lpn F_Md_lay n) (T_Md_lay_0 v0R v1I σ)) 0 [(0, .ref v0R), (1, .int v1I)] [] σ := by
  unfold T_Md_lay_0
  refine x_aload_n C d_Md_lay_0 0 rfl ?_
  refine x_iconst (v := (0 : Int32)) C d_Md_lay_1 (by decide) ?_
  refine x_gd (fun h1 => ?_)
  refine x_putI (k := 0) C (okO_iff.mp h1) rfl j11_ok y11_ok n11_ok (by decide) rfl rfl rfl rfl w1852 d_Md_lay_2 ?_
  refine x_letS (fun σ2 e3 => ?_)
  refine x_iconst (v := (0 : Int32)) C d_Md_lay_5 (by decide) ?_
  refine x_istore_n (lv' := [(2, .int (0 : Int32)), (0, .ref v0R), (1, .int v1I)]) C d_Md_lay_6 (by decide) rfl rfl ?_
  refine x_iconst (v := (0 : Int32)) C d_Md_lay_7 (by decide) ?_
  refine x_istore_n (lv' := [(3, .int (0 : Int32)), (2, .int (0 : Int32)), (0, .ref v0R), (1, .int v1I)]) C d_Md_lay_8 (by decide) rfl rfl ?_
  refine x_lv [2, 3, 1, 0] rfl ?_
  exact IH.2.1 v0R v1I ((0 : Int32)) ((0 : Int32)) (σ2)
set_option maxRecDepth 20000 in
theorem s_Md_lay_1 {G : GX} {p : Program} {l : Launch} {e : Env} {s : State} {m : MethodId} {args : Array Value} {below : List Frame} {meth : Method} {c : Code} {z0 u0 n : Nat} (C : Cx G p s m args meth c prog_14_method_120_code 4 "BellPlateModel" ((some FieldType.int))) (IH : I_Md_lay G p l e s m args below meth c z0 u0 n) (v0R : Nat) (v1I : Int32) (v2I : Int32) (v3I : Int32) (σ : AM) : VX (QM eI G args s below z0 u0) G p l e s m args below meth c 1 z0 u0 4 (lpK (lpn F_Md_lay n) (T_Md_lay_1 v0R v1I v2I v3I σ)) 9 [(0, .ref v0R), (1, .int v1I), (2, .int v2I), (3, .int v3I)] [] σ := by
  unfold T_Md_lay_1
  refine x_iload_n C d_Md_lay_9 3 rfl ?_
  refine x_aload_n C d_Md_lay_10 0 rfl ?_
  refine x_gd (fun h1 => ?_)
  refine x_getI (k := 70) C (okO_iff.mp h1) rfl j11_ok (by decide) rfl w1922 d_Md_lay_11 ?_
  refine x_icmp_ge (tgt := 43) C d_Md_lay_14 (by decide) (fun _ => ?_) (fun _ => ?_)
  · refine x_iload_n C d_Md_lay_17 2 rfl ?_
    refine x_if_ne (tgt := 31) C d_Md_lay_18 (by decide) (fun _ => ?_) (fun _ => ?_)
    · refine x_aload_n C d_Md_lay_21 0 rfl ?_
      refine x_gd (fun h2 => ?_)
      refine x_getR (k := 71) (kv := 101) C (okO_iff.mp h1) rfl j11_ok (by decide) rfl (okO_iff.mp h2) (by decide) w1923 d_Md_lay_22 ?_
      refine x_iload_n C d_Md_lay_25 3 rfl ?_
      refine x_gd (fun h3 => ?_)
      refine x_aldI C (okO_iff.mp h2) (inB_iff.mp h3) d_Md_lay_26 ?_
      refine x_iload_n C d_Md_lay_27 1 rfl ?_
      refine x_icmp_ne (tgt := 35) C d_Md_lay_28 (by decide) (fun _ => ?_) (fun _ => ?_)
      · refine x_lv [0, 1, 3] rfl ?_
        exact IH.2.2.1 v0R v1I v3I (σ)
      · refine x_iconst (v := (0 : Int32)) C d_Md_lay_35 (by decide) ?_
        refine x_lv [0, 1, 3] rfl ?_
        exact IH.2.2.2.1 v0R v1I v3I ((0 : Int32)) (σ)
    · refine x_lv [0, 1, 3] rfl ?_
      exact IH.2.2.1 v0R v1I v3I (σ)
  · refine x_aload_n C d_Md_lay_43 0 rfl ?_
    refine x_iload_n C d_Md_lay_44 1 rfl ?_
    refine x_callVI (As := [.int v1I]) C (c_Md_isThing G l v0R v1I σ) (okO_iff.mp h1) rfl w2258 w92 w2256 w2259 w134 k_Md_isThing rfl (by decide) (by decide) rfl (Nat.le_of_ble_eq_true rfl) d_Md_lay_45 (fun r4 σ5 => ?_)
    refine x_if_eq (tgt := 55) C d_Md_lay_48 (by decide) (fun _ => ?_) (fun _ => ?_)
    · refine x_lv [] rfl ?_
      exact IH.2.2.2.2  (σ5)
    · refine x_iload_n C d_Md_lay_51 2 rfl ?_
      refine x_if_eq (tgt := 57) C d_Md_lay_52 (by decide) (fun _ => ?_) (fun _ => ?_)
      · refine x_aload_n C d_Md_lay_57 0 rfl ?_
        refine x_gd (fun h6 => ?_)
        refine x_gd (fun h7 => ?_)
        refine x_getR (k := 71) (kv := 101) C (okO_iff.mp h6) rfl j11_ok (by decide) rfl (okO_iff.mp h7) (by decide) w1923 d_Md_lay_58 ?_
        refine x_aload_n C d_Md_lay_61 0 rfl ?_
        refine x_getI (k := 70) C (okO_iff.mp h6) rfl j11_ok (by decide) rfl w1922 d_Md_lay_62 ?_
        refine x_iload_n C d_Md_lay_65 1 rfl ?_
        refine x_gd (fun h8 => ?_)
        refine x_astI C (okO_iff.mp h7) (inB_iff.mp h8) d_Md_lay_66 ?_
        refine x_letS (fun σ9 e10 => ?_)
        refine x_aload_n C d_Md_lay_67 0 rfl ?_
        refine x_dup C d_Md_lay_68 rfl ?_
        refine x_getI (k := 70) C (by first | exact (okO_iff.mp h6) | (rw [e10]; exact (okO_iff.mp h6))) rfl j11_ok (by decide) rfl w1922 d_Md_lay_69 ?_
        refine x_iconst (v := (1 : Int32)) C d_Md_lay_72 (by decide) ?_
        refine x_iadd C d_Md_lay_73 ?_
        refine x_putI (k := 70) C (by first | exact (okO_iff.mp h6) | (rw [e10]; exact (okO_iff.mp h6))) rfl j11_ok y11_ok n11_ok (by decide) rfl rfl rfl rfl w1922 d_Md_lay_74 ?_
        refine x_letS (fun σ11 e12 => ?_)
        refine x_aload_n C d_Md_lay_77 0 rfl ?_
        refine x_getI (k := 70) C (by first | exact (okO_iff.mp h6) | (rw [e12, e10]; exact (okO_iff.mp h6))) rfl j11_ok (by decide) rfl w1922 d_Md_lay_78 ?_
        exact x_iret C d_Md_lay_81
      · refine x_lv [] rfl ?_
        exact IH.2.2.2.2  (σ5)
set_option maxRecDepth 20000 in
theorem s_Md_lay_2 {G : GX} {p : Program} {l : Launch} {e : Env} {s : State} {m : MethodId} {args : Array Value} {below : List Frame} {meth : Method} {c : Code} {z0 u0 n : Nat} (C : Cx G p s m args meth c prog_14_method_120_code 4 "BellPlateModel" ((some FieldType.int))) (IH : I_Md_lay G p l e s m args below meth c z0 u0 n) (v0R : Nat) (v1I : Int32) (v3I : Int32) (σ : AM) : VX (QM eI G args s below z0 u0) G p l e s m args below meth c 1 z0 u0 4 (lpK (lpn F_Md_lay n) (T_Md_lay_2 v0R v1I v3I σ)) 31 [(0, .ref v0R), (1, .int v1I), (3, .int v3I)] [] σ := by
  unfold T_Md_lay_2
  refine x_iconst (v := (1 : Int32)) C d_Md_lay_31 (by decide) ?_
  refine x_goto (tgt := 36) C d_Md_lay_32 (by decide) ?_
  exact IH.2.2.2.1 v0R v1I v3I ((1 : Int32)) (σ)
set_option maxRecDepth 20000 in
theorem s_Md_lay_3 {G : GX} {p : Program} {l : Launch} {e : Env} {s : State} {m : MethodId} {args : Array Value} {below : List Frame} {meth : Method} {c : Code} {z0 u0 n : Nat} (C : Cx G p s m args meth c prog_14_method_120_code 4 "BellPlateModel" ((some FieldType.int))) (IH : I_Md_lay G p l e s m args below meth c z0 u0 n) (v0R : Nat) (v1I : Int32) (v3I : Int32) (s0I : Int32) (σ : AM) : VX (QM eI G args s below z0 u0) G p l e s m args below meth c 1 z0 u0 4 (lpK (lpn F_Md_lay n) (T_Md_lay_3 v0R v1I v3I s0I σ)) 36 [(0, .ref v0R), (1, .int v1I), (3, .int v3I)] [.int s0I] σ := by
  unfold T_Md_lay_3
  refine x_istore_n (lv' := [(2, .int s0I), (0, .ref v0R), (1, .int v1I), (3, .int v3I)]) C d_Md_lay_36 (by decide) rfl rfl ?_
  refine x_iinc (v := v3I + (1 : Int32)) (lv' := [(3, .int (v3I + (1 : Int32))), (2, .int s0I), (0, .ref v0R), (1, .int v1I)]) C d_Md_lay_37 3 rfl rfl (by decide) rfl ?_
  refine x_goto (tgt := 9) C d_Md_lay_40 (by decide) ?_
  refine x_lv [2, 3, 1, 0] rfl ?_
  exact IH.2.1 v0R v1I s0I (v3I + (1 : Int32)) (σ)
set_option maxRecDepth 20000 in
theorem s_Md_lay_4 {G : GX} {p : Program} {l : Launch} {e : Env} {s : State} {m : MethodId} {args : Array Value} {below : List Frame} {meth : Method} {c : Code} {z0 u0 n : Nat} (C : Cx G p s m args meth c prog_14_method_120_code 4 "BellPlateModel" ((some FieldType.int))) (IH : I_Md_lay G p l e s m args below meth c z0 u0 n)  (σ : AM) : VX (QM eI G args s below z0 u0) G p l e s m args below meth c 1 z0 u0 4 (lpK (lpn F_Md_lay n) (T_Md_lay_4  σ)) 55 [] [] σ := by
  unfold T_Md_lay_4
  refine x_iconst (v := ((-1) : Int32)) C d_Md_lay_55 (by decide) ?_
  exact x_iret C d_Md_lay_56
theorem i_Md_lay {G : GX} {p : Program} {l : Launch} {e : Env} {s : State} {m : MethodId} {args : Array Value} {below : List Frame} {meth : Method} {c : Code} {z0 u0 : Nat} (C : Cx G p s m args meth c prog_14_method_120_code 4 "BellPlateModel" ((some FieldType.int))) (n : Nat) : I_Md_lay G p l e s m args below meth c z0 u0 n := by
  induction n with
  | zero => exact ⟨fun _ _ _ => x_none, fun _ _ _ _ _ => x_none, fun _ _ _ _ => x_none, fun _ _ _ _ _ => x_none, fun _ => x_none⟩
  | succ n IH => exact ⟨fun v0R v1I σ => s_Md_lay_0 C IH v0R v1I σ, fun v0R v1I v2I v3I σ => s_Md_lay_1 C IH v0R v1I v2I v3I σ, fun v0R v1I v3I σ => s_Md_lay_2 C IH v0R v1I v3I σ, fun v0R v1I v3I s0I σ => s_Md_lay_3 C IH v0R v1I v3I s0I σ, fun σ => s_Md_lay_4 C IH σ⟩
theorem c_Md_lay (G : GX) (l : Launch) (v0R : Nat) (v1I : Int32) (σ : AM) : CT eI G l 1 y_Md_lay prog_14_method_120_code 4 ((some FieldType.int)) [.ref v0R, .int v1I] σ (M_Md_lay v0R v1I σ) := by
  refine ct_of (by decide +kernel) (Nat.le_of_ble_eq_true rfl) (fun p e s m args below meth c C hin => ?_)
  refine x_lve (lv' := [(0, .ref v0R), (1, .int v1I)]) rfl ?_
  intro r σ' h
  obtain ⟨n, hn⟩ := (lp_iff _ _ _).mp h
  exact (i_Md_lay C n).1 v0R v1I σ r σ' hn
/-! BellPlateModel.clear()Z -/
abbrev y_Md_clear : MethodName := ⟨"BellPlateModel", "clear", "()Z"⟩
theorem k_Md_clear : y_Md_clear.cls ≠ "java/lang/invoke/MethodHandle" ∧ y_Md_clear.cls ≠ "java/lang/invoke/VarHandle" ∧ (parseMethodDescriptor y_Md_clear.desc).map (fun d => d.parameters.length) = some 0 := by decide +kernel
theorem d_Md_clear_0 : decode prog_14_method_121_code 0 = .ok (.aload_n 0, 1) := by decide +kernel
theorem d_Md_clear_1 : decode prog_14_method_121_code 1 = .ok (.iconst 0, 1) := by decide +kernel
theorem d_Md_clear_2 : decode prog_14_method_121_code 2 = .ok (.putfield 1, 3) := by decide +kernel
theorem d_Md_clear_5 : decode prog_14_method_121_code 5 = .ok (.aload_n 0, 1) := by decide +kernel
theorem d_Md_clear_6 : decode prog_14_method_121_code 6 = .ok (.iconst 0, 1) := by decide +kernel
theorem d_Md_clear_7 : decode prog_14_method_121_code 7 = .ok (.putfield 251, 3) := by decide +kernel
theorem d_Md_clear_10 : decode prog_14_method_121_code 10 = .ok (.iconst 1, 1) := by decide +kernel
theorem d_Md_clear_11 : decode prog_14_method_121_code 11 = .ok (.ireturn, 1) := by decide +kernel
abbrev S_Md_clear : Type := Nat × Nat × AM
noncomputable def T_Md_clear_0 (v0R : Nat) (σ : AM) : S_Md_clear ⊕ Option (Int32 × AM) :=
  gdT (okO σ v0R 12) <| letT (sI σ v0R 0 (0 : Int32)) fun σ2 => letT (sI σ2 v0R 70 (0 : Int32)) fun σ4 => .inr (some ((1 : Int32), σ4))
noncomputable def F_Md_clear : S_Md_clear → S_Md_clear ⊕ Option (Int32 × AM) := fun s => match s.1 with
  | _ => T_Md_clear_0 (s.2.1) (s.2.2)
noncomputable def L_Md_clear_0 (v0R : Nat) (σ : AM) : Option (Int32 × AM) := lp F_Md_clear (0, v0R, σ)
set_option maxRecDepth 20000 in
theorem E_Md_clear_0 (v0R : Nat) (σ : AM) : L_Md_clear_0 v0R σ = (gd (okO σ v0R 12) <| letT (sI σ v0R 0 (0 : Int32)) fun σ2 => letT (sI σ2 v0R 70 (0 : Int32)) fun σ4 => (some ((1 : Int32), σ4))) := by
  unfold L_Md_clear_0
  rw [lp_eq]
  show lpK (lp F_Md_clear) (T_Md_clear_0 v0R σ) = _
  unfold T_Md_clear_0
  simp only [lpK_ite, lq_inl, lq_inr, lpK_bnd, lpK_gd, lq_let]
  try rfl
noncomputable def M_Md_clear (v0R : Nat) (σ : AM) : Option (Int32 × AM) := mw σ (L_Md_clear_0 v0R σ)
def I_Md_clear (G : GX) (p : Program) (l : Launch) (e : Env) (s : State) (m : MethodId) (args : Array Value) (below : List Frame) (meth : Method) (c : Code) (z0 u0 n : Nat) : Prop :=
  (∀ (v0R : Nat) (σ : AM), VX (QM eI G args s below z0 u0) G p l e s m args below meth c 0 z0 u0 1 (lpn F_Md_clear n (0, v0R, σ)) 0 [(0, .ref v0R)] [] σ)
set_option maxRecDepth 20000 in
theorem s_Md_clear_0 {G : GX} {p : Program} {l : Launch} {e : Env} {s : State} {m : MethodId} {args : Array Value} {below : List Frame} {meth : Method} {c : Code} {z0 u0 n : Nat} (C : Cx G p s m args meth c prog_14_method_121_code 1 "BellPlateModel" ((some FieldType.boolean))) (IH : I_Md_clear G p l e s m args below meth c z0 u0 n) (v0R : Nat) (σ : AM) : VX (QM eI G args s below z0 u0) G p l e s m args below meth c 0 z0 u0 1 (lpK (lpn F_Md_clear n) (T_Md_clear_0 v0R σ)) 0 [(0, .ref v0R)] [] σ := by
  unfold T_Md_clear_0
  refine x_aload_n C d_Md_clear_0 0 rfl ?_
  refine x_iconst (v := (0 : Int32)) C d_Md_clear_1 (by decide) ?_
  refine x_gd (fun h1 => ?_)
  refine x_putI (k := 0) C (okO_iff.mp h1) rfl j11_ok y11_ok n11_ok (by decide) rfl rfl rfl rfl w1852 d_Md_clear_2 ?_
  refine x_letS (fun σ2 e3 => ?_)
  refine x_aload_n C d_Md_clear_5 0 rfl ?_
  refine x_iconst (v := (0 : Int32)) C d_Md_clear_6 (by decide) ?_
  refine x_putI (k := 70) C (by first | exact (okO_iff.mp h1) | (rw [e3]; exact (okO_iff.mp h1))) rfl j11_ok y11_ok n11_ok (by decide) rfl rfl rfl rfl w1922 d_Md_clear_7 ?_
  refine x_letS (fun σ4 e5 => ?_)
  refine x_iconst (v := (1 : Int32)) C d_Md_clear_10 (by decide) ?_
  exact x_zret C (by decide) d_Md_clear_11
theorem i_Md_clear {G : GX} {p : Program} {l : Launch} {e : Env} {s : State} {m : MethodId} {args : Array Value} {below : List Frame} {meth : Method} {c : Code} {z0 u0 : Nat} (C : Cx G p s m args meth c prog_14_method_121_code 1 "BellPlateModel" ((some FieldType.boolean))) (n : Nat) : I_Md_clear G p l e s m args below meth c z0 u0 n := by
  induction n with
  | zero => exact fun _ _ => x_none
  | succ n IH => exact fun v0R σ => s_Md_clear_0 C IH v0R σ
theorem c_Md_clear (G : GX) (l : Launch) (v0R : Nat) (σ : AM) : CT eI G l 0 y_Md_clear prog_14_method_121_code 1 ((some FieldType.boolean)) [.ref v0R] σ (M_Md_clear v0R σ) := by
  refine ct_of (by decide +kernel) (Nat.le_of_ble_eq_true rfl) (fun p e s m args below meth c C hin => ?_)
  refine x_lve (lv' := [(0, .ref v0R)]) rfl ?_
  intro r σ' h
  obtain ⟨n, hn⟩ := (lp_iff _ _ _).mp h
  exact (i_Md_clear C n) v0R σ r σ' hn
/-! BellPlateModel.feather(I)I -/
abbrev y_Md_feather : MethodName := ⟨"BellPlateModel", "feather", "(I)I"⟩
theorem k_Md_feather : y_Md_feather.cls ≠ "java/lang/invoke/MethodHandle" ∧ y_Md_feather.cls ≠ "java/lang/invoke/VarHandle" ∧ (parseMethodDescriptor y_Md_feather.desc).map (fun d => d.parameters.length) = some 1 := by decide +kernel
theorem d_Md_feather_0 : decode prog_14_method_122_code 0 = .ok (.aload_n 0, 1) := by decide +kernel
theorem d_Md_feather_1 : decode prog_14_method_122_code 1 = .ok (.iconst 0, 1) := by decide +kernel
theorem d_Md_feather_2 : decode prog_14_method_122_code 2 = .ok (.putfield 1, 3) := by decide +kernel
theorem d_Md_feather_5 : decode prog_14_method_122_code 5 = .ok (.aload_n 0, 1) := by decide +kernel
theorem d_Md_feather_6 : decode prog_14_method_122_code 6 = .ok (.iload_n 1, 1) := by decide +kernel
theorem d_Md_feather_7 : decode prog_14_method_122_code 7 = .ok (.invokevirtual 337, 3) := by decide +kernel
theorem d_Md_feather_10 : decode prog_14_method_122_code 10 = .ok (.ifCond .ne 5, 3) := by decide +kernel
theorem d_Md_feather_13 : decode prog_14_method_122_code 13 = .ok (.iconst (-1), 1) := by decide +kernel
theorem d_Md_feather_14 : decode prog_14_method_122_code 14 = .ok (.ireturn, 1) := by decide +kernel
theorem d_Md_feather_15 : decode prog_14_method_122_code 15 = .ok (.iconst 0, 1) := by decide +kernel
theorem d_Md_feather_16 : decode prog_14_method_122_code 16 = .ok (.istore_n 2, 1) := by decide +kernel
theorem d_Md_feather_17 : decode prog_14_method_122_code 17 = .ok (.iconst 0, 1) := by decide +kernel
theorem d_Md_feather_18 : decode prog_14_method_122_code 18 = .ok (.istore_n 3, 1) := by decide +kernel
theorem d_Md_feather_19 : decode prog_14_method_122_code 19 = .ok (.iload_n 3, 1) := by decide +kernel
theorem d_Md_feather_20 : decode prog_14_method_122_code 20 = .ok (.aload_n 0, 1) := by decide +kernel
theorem d_Md_feather_21 : decode prog_14_method_122_code 21 = .ok (.getfield 251, 3) := by decide +kernel
theorem d_Md_feather_24 : decode prog_14_method_122_code 24 = .ok (.if_icmp .ge 40, 3) := by decide +kernel
theorem d_Md_feather_27 : decode prog_14_method_122_code 27 = .ok (.iload_n 2, 1) := by decide +kernel
theorem d_Md_feather_28 : decode prog_14_method_122_code 28 = .ok (.iconst 1, 1) := by decide +kernel
theorem d_Md_feather_29 : decode prog_14_method_122_code 29 = .ok (.aload_n 0, 1) := by decide +kernel
theorem d_Md_feather_30 : decode prog_14_method_122_code 30 = .ok (.getfield 149, 3) := by decide +kernel
theorem d_Md_feather_33 : decode prog_14_method_122_code 33 = .ok (.iload_n 3, 1) := by decide +kernel
theorem d_Md_feather_34 : decode prog_14_method_122_code 34 = .ok (.iaload, 1) := by decide +kernel
theorem d_Md_feather_35 : decode prog_14_method_122_code 35 = .ok (.ishl, 1) := by decide +kernel
theorem d_Md_feather_36 : decode prog_14_method_122_code 36 = .ok (.ior, 1) := by decide +kernel
theorem d_Md_feather_37 : decode prog_14_method_122_code 37 = .ok (.istore_n 2, 1) := by decide +kernel
theorem d_Md_feather_38 : decode prog_14_method_122_code 38 = .ok (.aload_n 0, 1) := by decide +kernel
theorem d_Md_feather_39 : decode prog_14_method_122_code 39 = .ok (.getfield 75, 3) := by decide +kernel
theorem d_Md_feather_42 : decode prog_14_method_122_code 42 = .ok (.iload_n 1, 1) := by decide +kernel
theorem d_Md_feather_43 : decode prog_14_method_122_code 43 = .ok (.laload, 1) := by decide +kernel
theorem d_Md_feather_44 : decode prog_14_method_122_code 44 = .ok (.iload_n 2, 1) := by decide +kernel
theorem d_Md_feather_45 : decode prog_14_method_122_code 45 = .ok (.invokestatic 357, 3) := by decide +kernel
theorem d_Md_feather_48 : decode prog_14_method_122_code 48 = .ok (.ifCond .eq 10, 3) := by decide +kernel
theorem d_Md_feather_51 : decode prog_14_method_122_code 51 = .ok (.aload_n 0, 1) := by decide +kernel
theorem d_Md_feather_52 : decode prog_14_method_122_code 52 = .ok (.getfield 149, 3) := by decide +kernel
theorem d_Md_feather_55 : decode prog_14_method_122_code 55 = .ok (.iload_n 3, 1) := by decide +kernel
theorem d_Md_feather_56 : decode prog_14_method_122_code 56 = .ok (.iaload, 1) := by decide +kernel
theorem d_Md_feather_57 : decode prog_14_method_122_code 57 = .ok (.ireturn, 1) := by decide +kernel
theorem d_Md_feather_58 : decode prog_14_method_122_code 58 = .ok (.iinc 3 1, 3) := by decide +kernel
theorem d_Md_feather_61 : decode prog_14_method_122_code 61 = .ok (.goto (-42), 3) := by decide +kernel
theorem d_Md_feather_64 : decode prog_14_method_122_code 64 = .ok (.iconst (-1), 1) := by decide +kernel
theorem d_Md_feather_65 : decode prog_14_method_122_code 65 = .ok (.ireturn, 1) := by decide +kernel
abbrev S_Md_feather : Type := Nat × Nat × Int32 × Int32 × Int32 × AM
noncomputable def T_Md_feather_0 (v0R : Nat) (v1I : Int32) (σ : AM) : S_Md_feather ⊕ Option (Int32 × AM) :=
  gdT (okO σ v0R 12) <| letT (sI σ v0R 0 (0 : Int32)) fun σ2 => bndT (M_Md_isWeights v0R v1I σ2) fun r4 σ5 => if r4 = 0 then (.inr (some (((-1) : Int32), σ5))) else (.inl (1, v0R, v1I, (0 : Int32), (0 : Int32), σ5))
noncomputable def T_Md_feather_1 (v0R : Nat) (v1I : Int32) (v2I : Int32) (v3I : Int32) (σ : AM) : S_Md_feather ⊕ Option (Int32 × AM) :=
  gdT (okO σ v0R 12) <| if v3I < (aI σ v0R 70) then (gdT (okO σ (aR σ v0R 71) 101) <| gdT (inB v3I (aN σ (aR σ v0R 71))) <| letT (v2I ||| ((1 : Int32) <<< ((aI σ (aR σ v0R 71) v3I.toNatClampNeg) &&& 31))) fun x4 => gdT (okO σ (aR σ v0R 27) 102) <| gdT (inB v1I (aN σ (aR σ v0R 27))) <| bndT (M_Md_doesRing (aL σ (aR σ v0R 27) v1I.toNatClampNeg) x4 σ) fun r7 σ8 => if r7 = 0 then (.inl (1, v0R, v1I, x4, v3I + (1 : Int32), σ8)) else (gdT (okO σ8 v0R 12) <| gdT (okO σ8 (aR σ8 v0R 71) 101) <| gdT (inB v3I (aN σ8 (aR σ8 v0R 71))) <| .inr (some ((aI σ8 (aR σ8 v0R 71) v3I.toNatClampNeg), σ8)))) else (.inr (some (((-1) : Int32), σ)))
noncomputable def F_Md_feather : S_Md_feather → S_Md_feather ⊕ Option (Int32 × AM) := fun s => match s.1 with
  | 0 => T_Md_feather_0 (s.2.1) (s.2.2.1) (s.2.2.2.2.2)
  | _ => T_Md_feather_1 (s.2.1) (s.2.2.1) (s.2.2.2.1) (s.2.2.2.2.1) (s.2.2.2.2.2)
noncomputable def L_Md_feather_0 (v0R : Nat) (v1I : Int32) (σ : AM) : Option (Int32 × AM) := lp F_Md_feather (0, v0R, v1I, 0, 0, σ)
noncomputable def L_Md_feather_1 (v0R : Nat) (v1I : Int32) (v2I : Int32) (v3I : Int32) (σ : AM) : Option (Int32 × AM) := lp F_Md_feather (1, v0R, v1I, v2I, v3I, σ)
set_option maxRecDepth 20000 in
theorem E_Md_feather_0 (v0R : Nat) (v1I : Int32) (σ : AM) : L_Md_feather_0 v0R v1I σ = (gd (okO σ v0R 12) <| letT (sI σ v0R 0 (0 : Int32)) fun σ2 => bnd (M_Md_isWeights v0R v1I σ2) fun r4 σ5 => if r4 = 0 then ((some (((-1) : Int32), σ5))) else (L_Md_feather_1 v0R v1I ((0 : Int32)) ((0 : Int32)) σ5)) := by
  unfold L_Md_feather_0
  rw [lp_eq]
  show lpK (lp F_Md_feather) (T_Md_feather_0 v0R v1I σ) = _
  unfold T_Md_feather_0
  simp only [lpK_ite, lq_inl, lq_inr, lpK_bnd, lpK_gd, lq_let]
  try rfl
set_option maxRecDepth 20000 in
theorem E_Md_feather_1 (v0R : Nat) (v1I : Int32) (v2I : Int32) (v3I : Int32) (σ : AM) : L_Md_feather_1 v0R v1I v2I v3I σ = (gd (okO σ v0R 12) <| if v3I < (aI σ v0R 70) then (gd (okO σ (aR σ v0R 71) 101) <| gd (inB v3I (aN σ (aR σ v0R 71))) <| letT (v2I ||| ((1 : Int32) <<< ((aI σ (aR σ v0R 71) v3I.toNatClampNeg) &&& 31))) fun x4 => gd (okO σ (aR σ v0R 27) 102) <| gd (inB v1I (aN σ (aR σ v0R 27))) <| bnd (M_Md_doesRing (aL σ (aR σ v0R 27) v1I.toNatClampNeg) x4 σ) fun r7 σ8 => if r7 = 0 then (L_Md_feather_1 v0R v1I x4 (v3I + (1 : Int32)) σ8) else (gd (okO σ8 v0R 12) <| gd (okO σ8 (aR σ8 v0R 71) 101) <| gd (inB v3I (aN σ8 (aR σ8 v0R 71))) <| (some ((aI σ8 (aR σ8 v0R 71) v3I.toNatClampNeg), σ8)))) else ((some (((-1) : Int32), σ)))) := by
  unfold L_Md_feather_1
  rw [lp_eq]
  show lpK (lp F_Md_feather) (T_Md_feather_1 v0R v1I v2I v3I σ) = _
  unfold T_Md_feather_1
  simp only [lpK_ite, lq_inl, lq_inr, lpK_bnd, lpK_gd, lq_let]
  try rfl
noncomputable def M_Md_feather (v0R : Nat) (v1I : Int32) (σ : AM) : Option (Int32 × AM) := mw σ (L_Md_feather_0 v0R v1I σ)
def I_Md_feather (G : GX) (p : Program) (l : Launch) (e : Env) (s : State) (m : MethodId) (args : Array Value) (below : List Frame) (meth : Method) (c : Code) (z0 u0 n : Nat) : Prop :=
  (∀ (v0R : Nat) (v1I : Int32) (σ : AM), VX (QM eI G args s below z0 u0) G p l e s m args below meth c 1 z0 u0 4 (lpn F_Md_feather n (0, v0R, v1I, 0, 0, σ)) 0 [(0, .ref v0R), (1, .int v1I)] [] σ) ∧
  (∀ (v0R : Nat) (v1I : Int32) (v2I : Int32) (v3I : Int32) (σ : AM), VX (QM eI G args s below z0 u0) G p l e s m args below meth c 1 z0 u0 4 (lpn F_Md_feather n (1, v0R, v1I, v2I, v3I, σ)) 19 [(0, .ref v0R), (1, .int v1I), (2, .int v2I), (3, .int v3I)] [] σ)
set_option maxRecDepth 20000 in
theorem s_Md_feather_0 {G : GX} {p : Program} {l : Launch} {e : Env} {s : State} {m : MethodId} {args : Array Value} {below : List Frame} {meth : Method} {c : Code} {z0 u0 n : Nat} (C : Cx G p s m args meth c prog_14_method_122_code 4 "BellPlateModel" ((some FieldType.int))) (IH : I_Md_feather G p l e s m args below meth c z0 u0 n) (v0R : Nat) (v1I : Int32) (σ : AM) : VX (QM eI G args s below z0 u0) G p l e s m args below meth c 1 z0 u0 4 (lpK (lpn F_Md_feather n) (T_Md_feather_0 v0R v1I σ)) 0 [(0, .ref v0R), (1, .int v1I)] [] σ := by
  unfold T_Md_feather_0
  refine x_aload_n C d_Md_feather_0 0 rfl ?_
  refine x_iconst (v := (0 : Int32)) C d_Md_feather_1 (by decide) ?_
  refine x_gd (fun h1 => ?_)
  refine x_putI (k := 0) C (okO_iff.mp h1) rfl j11_ok y11_ok n11_ok (by decide) rfl rfl rfl rfl w1852 d_Md_feather_2 ?_
  refine x_letS (fun σ2 e3 => ?_)
  refine x_aload_n C d_Md_feather_5 0 rfl ?_
  refine x_iload_n C d_Md_feather_6 1 rfl ?_
  refine x_callVI (As := [.int v1I]) C (c_Md_isWeights G l v0R v1I σ2) (by first | exact (okO_iff.mp h1) | (rw [e3]; exact (okO_iff.mp h1))) rfl w2182 w83 w2180 w2183 w134 k_Md_isWeights rfl (by decide) (by decide) rfl (Nat.le_of_ble_eq_true rfl) d_Md_feather_7 (fun r4 σ5 => ?_)
  refine x_if_ne (tgt := 15) C d_Md_feather_10 (by decide) (fun _ => ?_) (fun _ => ?_)
  · refine x_iconst (v := ((-1) : Int32)) C d_Md_feather_13 (by decide) ?_
    exact x_iret C d_Md_feather_14
  · refine x_iconst (v := (0 : Int32)) C d_Md_feather_15 (by decide) ?_
    refine x_istore_n (lv' := [(2, .int (0 : Int32)), (0, .ref v0R), (1, .int v1I)]) C d_Md_feather_16 (by decide) rfl rfl ?_
    refine x_iconst (v := (0 : Int32)) C d_Md_feather_17 (by decide) ?_
    refine x_istore_n (lv' := [(3, .int (0 : Int32)), (2, .int (0 : Int32)), (0, .ref v0R), (1, .int v1I)]) C d_Md_feather_18 (by decide) rfl rfl ?_
    refine x_lv [2, 3, 1, 0] rfl ?_
    exact IH.2 v0R v1I ((0 : Int32)) ((0 : Int32)) (σ5)
set_option maxRecDepth 20000 in
theorem s_Md_feather_1 {G : GX} {p : Program} {l : Launch} {e : Env} {s : State} {m : MethodId} {args : Array Value} {below : List Frame} {meth : Method} {c : Code} {z0 u0 n : Nat} (C : Cx G p s m args meth c prog_14_method_122_code 4 "BellPlateModel" ((some FieldType.int))) (IH : I_Md_feather G p l e s m args below meth c z0 u0 n) (v0R : Nat) (v1I : Int32) (v2I : Int32) (v3I : Int32) (σ : AM) : VX (QM eI G args s below z0 u0) G p l e s m args below meth c 1 z0 u0 4 (lpK (lpn F_Md_feather n) (T_Md_feather_1 v0R v1I v2I v3I σ)) 19 [(0, .ref v0R), (1, .int v1I), (2, .int v2I), (3, .int v3I)] [] σ := by
  unfold T_Md_feather_1
  refine x_iload_n C d_Md_feather_19 3 rfl ?_
  refine x_aload_n C d_Md_feather_20 0 rfl ?_
  refine x_gd (fun h1 => ?_)
  refine x_getI (k := 70) C (okO_iff.mp h1) rfl j11_ok (by decide) rfl w1922 d_Md_feather_21 ?_
  refine x_icmp_ge (tgt := 64) C d_Md_feather_24 (by decide) (fun _ => ?_) (fun _ => ?_)
  · refine x_iload_n C d_Md_feather_27 2 rfl ?_
    refine x_iconst (v := (1 : Int32)) C d_Md_feather_28 (by decide) ?_
    refine x_aload_n C d_Md_feather_29 0 rfl ?_
    refine x_gd (fun h2 => ?_)
    refine x_getR (k := 71) (kv := 101) C (okO_iff.mp h1) rfl j11_ok (by decide) rfl (okO_iff.mp h2) (by decide) w1923 d_Md_feather_30 ?_
    refine x_iload_n C d_Md_feather_33 3 rfl ?_
    refine x_gd (fun h3 => ?_)
    refine x_aldI C (okO_iff.mp h2) (inB_iff.mp h3) d_Md_feather_34 ?_
    refine x_ishl C d_Md_feather_35 ?_
    refine x_ior C d_Md_feather_36 ?_
    refine x_letI (fun x4 _ => ?_)
    refine x_istore_n (lv' := [(2, .int x4), (0, .ref v0R), (1, .int v1I), (3, .int v3I)]) C d_Md_feather_37 (by decide) rfl rfl ?_
    refine x_aload_n C d_Md_feather_38 1 rfl ?_
    refine x_gd (fun h5 => ?_)
    refine x_getR (k := 27) (kv := 102) C (okO_iff.mp h1) rfl j11_ok (by decide) rfl (okO_iff.mp h5) (by decide) w1879 d_Md_feather_39 ?_
    refine x_iload_n C d_Md_feather_42 2 rfl ?_
    refine x_gd (fun h6 => ?_)
    refine x_aldJ C (okO_iff.mp h5) (inB_iff.mp h6) d_Md_feather_43 ?_
    refine x_iload_n C d_Md_feather_44 0 rfl ?_
    refine x_callSI (As := [.long (aL σ (aR σ v0R 27) v1I.toNatClampNeg), .int x4]) C (c_Md_doesRing G l (aL σ (aR σ v0R 27) v1I.toNatClampNeg) x4 σ) w2235 w2234 w2236 w134 k_Md_doesRing rfl (by decide) (by decide) rfl (Nat.le_of_ble_eq_true rfl) d_Md_feather_45 (fun r7 σ8 => ?_)
    refine x_if_eq (tgt := 58) C d_Md_feather_48 (by decide) (fun _ => ?_) (fun _ => ?_)
    · refine x_iinc (v := v3I + (1 : Int32)) (lv' := [(3, .int (v3I + (1 : Int32))), (2, .int x4), (0, .ref v0R), (1, .int v1I)]) C d_Md_feather_58 3 rfl rfl (by decide) rfl ?_
      refine x_goto (tgt := 19) C d_Md_feather_61 (by decide) ?_
      refine x_lv [2, 3, 1, 0] rfl ?_
      exact IH.2 v0R v1I x4 (v3I + (1 : Int32)) (σ8)
    · refine x_aload_n C d_Md_feather_51 1 rfl ?_
      refine x_gd (fun h9 => ?_)
      refine x_gd (fun h10 => ?_)
      refine x_getR (k := 71) (kv := 101) C (okO_iff.mp h9) rfl j11_ok (by decide) rfl (okO_iff.mp h10) (by decide) w1923 d_Md_feather_52 ?_
      refine x_iload_n C d_Md_feather_55 3 rfl ?_
      refine x_gd (fun h11 => ?_)
      refine x_aldI C (okO_iff.mp h10) (inB_iff.mp h11) d_Md_feather_56 ?_
      exact x_iret C d_Md_feather_57
  · refine x_iconst (v := ((-1) : Int32)) C d_Md_feather_64 (by decide) ?_
    exact x_iret C d_Md_feather_65
theorem i_Md_feather {G : GX} {p : Program} {l : Launch} {e : Env} {s : State} {m : MethodId} {args : Array Value} {below : List Frame} {meth : Method} {c : Code} {z0 u0 : Nat} (C : Cx G p s m args meth c prog_14_method_122_code 4 "BellPlateModel" ((some FieldType.int))) (n : Nat) : I_Md_feather G p l e s m args below meth c z0 u0 n := by
  induction n with
  | zero => exact ⟨fun _ _ _ => x_none, fun _ _ _ _ _ => x_none⟩
  | succ n IH => exact ⟨fun v0R v1I σ => s_Md_feather_0 C IH v0R v1I σ, fun v0R v1I v2I v3I σ => s_Md_feather_1 C IH v0R v1I v2I v3I σ⟩
theorem c_Md_feather (G : GX) (l : Launch) (v0R : Nat) (v1I : Int32) (σ : AM) : CT eI G l 1 y_Md_feather prog_14_method_122_code 4 ((some FieldType.int)) [.ref v0R, .int v1I] σ (M_Md_feather v0R v1I σ) := by
  refine ct_of (by decide +kernel) (Nat.le_of_ble_eq_true rfl) (fun p e s m args below meth c C hin => ?_)
  refine x_lve (lv' := [(0, .ref v0R), (1, .int v1I)]) rfl ?_
  intro r σ' h
  obtain ⟨n, hn⟩ := (lp_iff _ _ _).mp h
  exact (i_Md_feather C n).1 v0R v1I σ r σ' hn
/-! BellPlateModel.mark(IZ)Z -/
abbrev y_Md_mark : MethodName := ⟨"BellPlateModel", "mark", "(IZ)Z"⟩
theorem k_Md_mark : y_Md_mark.cls ≠ "java/lang/invoke/MethodHandle" ∧ y_Md_mark.cls ≠ "java/lang/invoke/VarHandle" ∧ (parseMethodDescriptor y_Md_mark.desc).map (fun d => d.parameters.length) = some 2 := by decide +kernel
theorem d_Md_mark_0 : decode prog_14_method_123_code 0 = .ok (.aload_n 0, 1) := by decide +kernel
theorem d_Md_mark_1 : decode prog_14_method_123_code 1 = .ok (.iconst 0, 1) := by decide +kernel
theorem d_Md_mark_2 : decode prog_14_method_123_code 2 = .ok (.putfield 1, 3) := by decide +kernel
theorem d_Md_mark_5 : decode prog_14_method_123_code 5 = .ok (.iload_n 1, 1) := by decide +kernel
theorem d_Md_mark_6 : decode prog_14_method_123_code 6 = .ok (.iconst 0, 1) := by decide +kernel
theorem d_Md_mark_7 : decode prog_14_method_123_code 7 = .ok (.iconst 3, 1) := by decide +kernel
theorem d_Md_mark_8 : decode prog_14_method_123_code 8 = .ok (.invokestatic 350, 3) := by decide +kernel
theorem d_Md_mark_11 : decode prog_14_method_123_code 11 = .ok (.ifCond .eq 16, 3) := by decide +kernel
theorem d_Md_mark_14 : decode prog_14_method_123_code 14 = .ok (.iload_n 2, 1) := by decide +kernel
theorem d_Md_mark_15 : decode prog_14_method_123_code 15 = .ok (.ifCond .eq 14, 3) := by decide +kernel
theorem d_Md_mark_18 : decode prog_14_method_123_code 18 = .ok (.aload_n 0, 1) := by decide +kernel
theorem d_Md_mark_19 : decode prog_14_method_123_code 19 = .ok (.getfield 152, 3) := by decide +kernel
theorem d_Md_mark_22 : decode prog_14_method_123_code 22 = .ok (.iload_n 1, 1) := by decide +kernel
theorem d_Md_mark_23 : decode prog_14_method_123_code 23 = .ok (.iaload, 1) := by decide +kernel
theorem d_Md_mark_24 : decode prog_14_method_123_code 24 = .ok (.ifCond .ne 5, 3) := by decide +kernel
theorem d_Md_mark_27 : decode prog_14_method_123_code 27 = .ok (.iconst 0, 1) := by decide +kernel
theorem d_Md_mark_28 : decode prog_14_method_123_code 28 = .ok (.ireturn, 1) := by decide +kernel
theorem d_Md_mark_29 : decode prog_14_method_123_code 29 = .ok (.iload_n 2, 1) := by decide +kernel
theorem d_Md_mark_30 : decode prog_14_method_123_code 30 = .ok (.ifCond .ne 45, 3) := by decide +kernel
theorem d_Md_mark_33 : decode prog_14_method_123_code 33 = .ok (.aload_n 0, 1) := by decide +kernel
theorem d_Md_mark_34 : decode prog_14_method_123_code 34 = .ok (.dup, 1) := by decide +kernel
theorem d_Md_mark_35 : decode prog_14_method_123_code 35 = .ok (.getfield 254, 3) := by decide +kernel
theorem d_Md_mark_38 : decode prog_14_method_123_code 38 = .ok (.iconst 1, 1) := by decide +kernel
theorem d_Md_mark_39 : decode prog_14_method_123_code 39 = .ok (.iadd, 1) := by decide +kernel
theorem d_Md_mark_40 : decode prog_14_method_123_code 40 = .ok (.putfield 254, 3) := by decide +kernel
theorem d_Md_mark_43 : decode prog_14_method_123_code 43 = .ok (.aload_n 0, 1) := by decide +kernel
theorem d_Md_mark_44 : decode prog_14_method_123_code 44 = .ok (.getfield 152, 3) := by decide +kernel
theorem d_Md_mark_47 : decode prog_14_method_123_code 47 = .ok (.iload_n 1, 1) := by decide +kernel
theorem d_Md_mark_48 : decode prog_14_method_123_code 48 = .ok (.aload_n 0, 1) := by decide +kernel
theorem d_Md_mark_49 : decode prog_14_method_123_code 49 = .ok (.getfield 254, 3) := by decide +kernel
theorem d_Md_mark_52 : decode prog_14_method_123_code 52 = .ok (.iastore, 1) := by decide +kernel
theorem d_Md_mark_53 : decode prog_14_method_123_code 53 = .ok (.aload_n 0, 1) := by decide +kernel
theorem d_Md_mark_54 : decode prog_14_method_123_code 54 = .ok (.getfield 155, 3) := by decide +kernel
theorem d_Md_mark_57 : decode prog_14_method_123_code 57 = .ok (.iload_n 1, 1) := by decide +kernel
theorem d_Md_mark_58 : decode prog_14_method_123_code 58 = .ok (.aload_n 0, 1) := by decide +kernel
theorem d_Md_mark_59 : decode prog_14_method_123_code 59 = .ok (.getfield 245, 3) := by decide +kernel
theorem d_Md_mark_62 : decode prog_14_method_123_code 62 = .ok (.iastore, 1) := by decide +kernel
theorem d_Md_mark_63 : decode prog_14_method_123_code 63 = .ok (.aload_n 0, 1) := by decide +kernel
theorem d_Md_mark_64 : decode prog_14_method_123_code 64 = .ok (.getfield 158, 3) := by decide +kernel
theorem d_Md_mark_67 : decode prog_14_method_123_code 67 = .ok (.iload_n 1, 1) := by decide +kernel
theorem d_Md_mark_68 : decode prog_14_method_123_code 68 = .ok (.aload_n 0, 1) := by decide +kernel
theorem d_Md_mark_69 : decode prog_14_method_123_code 69 = .ok (.getfield 248, 3) := by decide +kernel
theorem d_Md_mark_72 : decode prog_14_method_123_code 72 = .ok (.iastore, 1) := by decide +kernel
theorem d_Md_mark_73 : decode prog_14_method_123_code 73 = .ok (.iconst 1, 1) := by decide +kernel
theorem d_Md_mark_74 : decode prog_14_method_123_code 74 = .ok (.ireturn, 1) := by decide +kernel
theorem d_Md_mark_75 : decode prog_14_method_123_code 75 = .ok (.aload_n 0, 1) := by decide +kernel
theorem d_Md_mark_76 : decode prog_14_method_123_code 76 = .ok (.aload_n 0, 1) := by decide +kernel
theorem d_Md_mark_77 : decode prog_14_method_123_code 77 = .ok (.getfield 155, 3) := by decide +kernel
theorem d_Md_mark_80 : decode prog_14_method_123_code 80 = .ok (.iload_n 1, 1) := by decide +kernel
theorem d_Md_mark_81 : decode prog_14_method_123_code 81 = .ok (.iaload, 1) := by decide +kernel
theorem d_Md_mark_82 : decode prog_14_method_123_code 82 = .ok (.putfield 245, 3) := by decide +kernel
theorem d_Md_mark_85 : decode prog_14_method_123_code 85 = .ok (.aload_n 0, 1) := by decide +kernel
theorem d_Md_mark_86 : decode prog_14_method_123_code 86 = .ok (.aload_n 0, 1) := by decide +kernel
theorem d_Md_mark_87 : decode prog_14_method_123_code 87 = .ok (.getfield 158, 3) := by decide +kernel
theorem d_Md_mark_90 : decode prog_14_method_123_code 90 = .ok (.iload_n 1, 1) := by decide +kernel
theorem d_Md_mark_91 : decode prog_14_method_123_code 91 = .ok (.iaload, 1) := by decide +kernel
theorem d_Md_mark_92 : decode prog_14_method_123_code 92 = .ok (.putfield 248, 3) := by decide +kernel
theorem d_Md_mark_95 : decode prog_14_method_123_code 95 = .ok (.iconst 0, 1) := by decide +kernel
theorem d_Md_mark_96 : decode prog_14_method_123_code 96 = .ok (.istore_n 3, 1) := by decide +kernel
theorem d_Md_mark_97 : decode prog_14_method_123_code 97 = .ok (.iload_n 3, 1) := by decide +kernel
theorem d_Md_mark_98 : decode prog_14_method_123_code 98 = .ok (.iconst 4, 1) := by decide +kernel
theorem d_Md_mark_99 : decode prog_14_method_123_code 99 = .ok (.if_icmp .ge 40, 3) := by decide +kernel
theorem d_Md_mark_102 : decode prog_14_method_123_code 102 = .ok (.aload_n 0, 1) := by decide +kernel
theorem d_Md_mark_103 : decode prog_14_method_123_code 103 = .ok (.getfield 152, 3) := by decide +kernel
theorem d_Md_mark_106 : decode prog_14_method_123_code 106 = .ok (.iload_n 3, 1) := by decide +kernel
theorem d_Md_mark_107 : decode prog_14_method_123_code 107 = .ok (.aload_n 0, 1) := by decide +kernel
theorem d_Md_mark_108 : decode prog_14_method_123_code 108 = .ok (.getfield 152, 3) := by decide +kernel
theorem d_Md_mark_111 : decode prog_14_method_123_code 111 = .ok (.iload_n 3, 1) := by decide +kernel
theorem d_Md_mark_112 : decode prog_14_method_123_code 112 = .ok (.iaload, 1) := by decide +kernel
theorem d_Md_mark_113 : decode prog_14_method_123_code 113 = .ok (.aload_n 0, 1) := by decide +kernel
theorem d_Md_mark_114 : decode prog_14_method_123_code 114 = .ok (.getfield 152, 3) := by decide +kernel
theorem d_Md_mark_117 : decode prog_14_method_123_code 117 = .ok (.iload_n 1, 1) := by decide +kernel
theorem d_Md_mark_118 : decode prog_14_method_123_code 118 = .ok (.iaload, 1) := by decide +kernel
theorem d_Md_mark_119 : decode prog_14_method_123_code 119 = .ok (.if_icmp .le 7, 3) := by decide +kernel
theorem d_Md_mark_122 : decode prog_14_method_123_code 122 = .ok (.iconst 0, 1) := by decide +kernel
theorem d_Md_mark_123 : decode prog_14_method_123_code 123 = .ok (.goto 9, 3) := by decide +kernel
theorem d_Md_mark_126 : decode prog_14_method_123_code 126 = .ok (.aload_n 0, 1) := by decide +kernel
theorem d_Md_mark_127 : decode prog_14_method_123_code 127 = .ok (.getfield 152, 3) := by decide +kernel
theorem d_Md_mark_130 : decode prog_14_method_123_code 130 = .ok (.iload_n 3, 1) := by decide +kernel
theorem d_Md_mark_131 : decode prog_14_method_123_code 131 = .ok (.iaload, 1) := by decide +kernel
theorem d_Md_mark_132 : decode prog_14_method_123_code 132 = .ok (.iastore, 1) := by decide +kernel
theorem d_Md_mark_133 : decode prog_14_method_123_code 133 = .ok (.iinc 3 1, 3) := by decide +kernel
theorem d_Md_mark_136 : decode prog_14_method_123_code 136 = .ok (.goto (-39), 3) := by decide +kernel
theorem d_Md_mark_139 : decode prog_14_method_123_code 139 = .ok (.iconst 1, 1) := by decide +kernel
theorem d_Md_mark_140 : decode prog_14_method_123_code 140 = .ok (.ireturn, 1) := by decide +kernel
abbrev S_Md_mark : Type := Nat × Nat × Int32 × Int32 × Int32 × Nat × Int32 × Int32 × AM
noncomputable def T_Md_mark_0 (v0R : Nat) (v1I : Int32) (v2I : Int32) (σ : AM) : S_Md_mark ⊕ Option (Int32 × AM) :=
  gdT (okO σ v0R 12) <| letT (sI σ v0R 0 (0 : Int32)) fun σ2 => bndT (M_Md_within v1I (0 : Int32) (3 : Int32) σ2) fun r4 σ5 => if r4 = 0 then (.inl (1, 0, 0, 0, 0, 0, 0, 0, σ5)) else (if v2I = 0 then (.inl (2, v0R, v1I, v2I, 0, 0, 0, 0, σ5)) else (gdT (okO σ5 v0R 12) <| gdT (okO σ5 (aR σ5 v0R 73) 101) <| gdT (inB v1I (aN σ5 (aR σ5 v0R 73))) <| if (aI σ5 (aR σ5 v0R 73) v1I.toNatClampNeg) = 0 then (.inl (1, 0, 0, 0, 0, 0, 0, 0, σ5)) else (.inl (2, v0R, v1I, v2I, 0, 0, 0, 0, σ5))))
noncomputable def T_Md_mark_1  (σ : AM) : S_Md_mark ⊕ Option (Int32 × AM) :=
  .inr (some ((0 : Int32), σ))
noncomputable def T_Md_mark_2 (v0R : Nat) (v1I : Int32) (v2I : Int32) (σ : AM) : S_Md_mark ⊕ Option (Int32 × AM) :=
  if v2I = 0 then (gdT (okO σ v0R 12) <| letT (sI σ v0R 72 ((aI σ v0R 72) + (1 : Int32))) fun σ2 => gdT (okO σ2 (aR σ2 v0R 73) 101) <| gdT (inB v1I (aN σ2 (aR σ2 v0R 73))) <| letT (sI σ2 (aR σ2 v0R 73) v1I.toNatClampNeg (aI σ2 v0R 72)) fun σ6 => gdT (okO σ6 (aR σ6 v0R 74) 101) <| gdT (inB v1I (aN σ6 (aR σ6 v0R 74))) <| letT (sI σ6 (aR σ6 v0R 74) v1I.toNatClampNeg (aI σ6 v0R 37)) fun σ10 => gdT (okO σ10 (aR σ10 v0R 75) 101) <| gdT (inB v1I (aN σ10 (aR σ10 v0R 75))) <| letT (sI σ10 (aR σ10 v0R 75) v1I.toNatClampNeg (aI σ10 v0R 42)) fun σ14 => .inr (some ((1 : Int32), σ14))) else (gdT (okO σ v0R 12) <| gdT (okO σ (aR σ v0R 74) 101) <| gdT (inB v1I (aN σ (aR σ v0R 74))) <| letT (sI σ v0R 37 (aI σ (aR σ v0R 74) v1I.toNatClampNeg)) fun σ19 => gdT (okO σ19 (aR σ19 v0R 75) 101) <| gdT (inB v1I (aN σ19 (aR σ19 v0R 75))) <| letT (sI σ19 v0R 42 (aI σ19 (aR σ19 v0R 75) v1I.toNatClampNeg)) fun σ23 => .inl (3, v0R, v1I, 0, (0 : Int32), 0, 0, 0, σ23))
noncomputable def T_Md_mark_3 (v0R : Nat) (v1I : Int32) (v3I : Int32) (σ : AM) : S_Md_mark ⊕ Option (Int32 × AM) :=
  if v3I < (4 : Int32) then (gdT (okO σ v0R 12) <| gdT (okO σ (aR σ v0R 73) 101) <| gdT (inB v3I (aN σ (aR σ v0R 73))) <| gdT (inB v1I (aN σ (aR σ v0R 73))) <| if (aI σ (aR σ v0R 73) v1I.toNatClampNeg) < (aI σ (aR σ v0R 73) v3I.toNatClampNeg) then (.inl (4, v0R, v1I, 0, v3I, aR σ v0R 73, v3I, (0 : Int32), σ)) else (.inl (4, v0R, v1I, 0, v3I, aR σ v0R 73, v3I, aI σ (aR σ v0R 73) v3I.toNatClampNeg, σ))) else (.inr (some ((1 : Int32), σ)))
noncomputable def T_Md_mark_4 (v0R : Nat) (v1I : Int32) (v3I : Int32) (s0R : Nat) (s1I : Int32) (s2I : Int32) (σ : AM) : S_Md_mark ⊕ Option (Int32 × AM) :=
  gdT (okO σ s0R 101) <| gdT (inB s1I (aN σ s0R)) <| letT (sI σ s0R s1I.toNatClampNeg s2I) fun σ3 => .inl (3, v0R, v1I, 0, v3I + (1 : Int32), 0, 0, 0, σ3)
noncomputable def F_Md_mark : S_Md_mark → S_Md_mark ⊕ Option (Int32 × AM) := fun s => match s.1 with
  | 0 => T_Md_mark_0 (s.2.1) (s.2.2.1) (s.2.2.2.1) (s.2.2.2.2.2.2.2.2)
  | 1 => T_Md_mark_1  (s.2.2.2.2.2.2.2.2)
  | 2 => T_Md_mark_2 (s.2.1) (s.2.2.1) (s.2.2.2.1) (s.2.2.2.2.2.2.2.2)
  | 3 => T_Md_mark_3 (s.2.1) (s.2.2.1) (s.2.2.2.2.1) (s.2.2.2.2.2.2.2.2)
  | _ => T_Md_mark_4 (s.2.1) (s.2.2.1) (s.2.2.2.2.1) (s.2.2.2.2.2.1) (s.2.2.2.2.2.2.1) (s.2.2.2.2.2.2.2.1) (s.2.2.2.2.2.2.2.2)
noncomputable def L_Md_mark_0 (v0R : Nat) (v1I : Int32) (v2I : Int32) (σ : AM) : Option (Int32 × AM) := lp F_Md_mark (0, v0R, v1I, v2I, 0, 0, 0, 0, σ)
noncomputable def L_Md_mark_1  (σ : AM) : Option (Int32 × AM) := lp F_Md_mark (1, 0, 0, 0, 0, 0, 0, 0, σ)
noncomputable def L_Md_mark_2 (v0R : Nat) (v1I : Int32) (v2I : Int32) (σ : AM) : Option (Int32 × AM) := lp F_Md_mark (2, v0R, v1I, v2I, 0, 0, 0, 0, σ)
noncomputable def L_Md_mark_3 (v0R : Nat) (v1I : Int32) (v3I : Int32) (σ : AM) : Option (Int32 × AM) := lp F_Md_mark (3, v0R, v1I, 0, v3I, 0, 0, 0, σ)
noncomputable def L_Md_mark_4 (v0R : Nat) (v1I : Int32) (v3I : Int32) (s0R : Nat) (s1I : Int32) (s2I : Int32) (σ : AM) : Option (Int32 × AM) := lp F_Md_mark (4, v0R, v1I, 0, v3I, s0R, s1I, s2I, σ)
set_option maxRecDepth 20000 in
theorem E_Md_mark_0 (v0R : Nat) (v1I : Int32) (v2I : Int32) (σ : AM) : L_Md_mark_0 v0R v1I v2I σ = (gd (okO σ v0R 12) <| letT (sI σ v0R 0 (0 : Int32)) fun σ2 => bnd (M_Md_within v1I (0 : Int32) (3 : Int32) σ2) fun r4 σ5 => if r4 = 0 then (L_Md_mark_1 σ5) else (if v2I = 0 then (L_Md_mark_2 v0R v1I v2I σ5) else (gd (okO σ5 v0R 12) <| gd (okO σ5 (aR σ5 v0R 73) 101) <| gd (inB v1I (aN σ5 (aR σ5 v0R 73))) <| if (aI σ5 (aR σ5 v0R 73) v1I.toNatClampNeg) = 0 then (L_Md_mark_1 σ5) else (L_Md_mark_2 v0R v1I v2I σ5)))) := by
  unfold L_Md_mark_0
  rw [lp_eq]
  show lpK (lp F_Md_mark) (T_Md_mark_0 v0R v1I v2I σ) = _
  unfold T_Md_mark_0
  simp only [lpK_ite, lq_inl, lq_inr, lpK_bnd, lpK_gd, lq_let]
  try rfl
set_option maxRecDepth 20000 in
theorem E_Md_mark_1  (σ : AM) : L_Md_mark_1  σ = ((some ((0 : Int32), σ))) := by
  unfold L_Md_mark_1
  rw [lp_eq]
  show lpK (lp F_Md_mark) (T_Md_mark_1  σ) = _
  unfold T_Md_mark_1
  simp only [lpK_ite, lq_inl, lq_inr, lpK_bnd, lpK_gd, lq_let]
  try rfl
set_option maxRecDepth 20000 in
theorem E_Md_mark_2 (v0R : Nat) (v1I : Int32) (v2I : Int32) (σ : AM) : L_Md_mark_2 v0R v1I v2I σ = (if v2I = 0 then (gd (okO σ v0R 12) <| letT (sI σ v0R 72 ((aI σ v0R 72) + (1 : Int32))) fun σ2 => gd (okO σ2 (aR σ2 v0R 73) 101) <| gd (inB v1I (aN σ2 (aR σ2 v0R 73))) <| letT (sI σ2 (aR σ2 v0R 73) v1I.toNatClampNeg (aI σ2 v0R 72)) fun σ6 => gd (okO σ6 (aR σ6 v0R 74) 101) <| gd (inB v1I (aN σ6 (aR σ6 v0R 74))) <| letT (sI σ6 (aR σ6 v0R 74) v1I.toNatClampNeg (aI σ6 v0R 37)) fun σ10 => gd (okO σ10 (aR σ10 v0R 75) 101) <| gd (inB v1I (aN σ10 (aR σ10 v0R 75))) <| letT (sI σ10 (aR σ10 v0R 75) v1I.toNatClampNeg (aI σ10 v0R 42)) fun σ14 => (some ((1 : Int32), σ14))) else (gd (okO σ v0R 12) <| gd (okO σ (aR σ v0R 74) 101) <| gd (inB v1I (aN σ (aR σ v0R 74))) <| letT (sI σ v0R 37 (aI σ (aR σ v0R 74) v1I.toNatClampNeg)) fun σ19 => gd (okO σ19 (aR σ19 v0R 75) 101) <| gd (inB v1I (aN σ19 (aR σ19 v0R 75))) <| letT (sI σ19 v0R 42 (aI σ19 (aR σ19 v0R 75) v1I.toNatClampNeg)) fun σ23 => L_Md_mark_3 v0R v1I ((0 : Int32)) σ23)) := by
  unfold L_Md_mark_2
  rw [lp_eq]
  show lpK (lp F_Md_mark) (T_Md_mark_2 v0R v1I v2I σ) = _
  unfold T_Md_mark_2
  simp only [lpK_ite, lq_inl, lq_inr, lpK_bnd, lpK_gd, lq_let]
  try rfl
set_option maxRecDepth 20000 in
theorem E_Md_mark_3 (v0R : Nat) (v1I : Int32) (v3I : Int32) (σ : AM) : L_Md_mark_3 v0R v1I v3I σ = (if v3I < (4 : Int32) then (gd (okO σ v0R 12) <| gd (okO σ (aR σ v0R 73) 101) <| gd (inB v3I (aN σ (aR σ v0R 73))) <| gd (inB v1I (aN σ (aR σ v0R 73))) <| if (aI σ (aR σ v0R 73) v1I.toNatClampNeg) < (aI σ (aR σ v0R 73) v3I.toNatClampNeg) then (L_Md_mark_4 v0R v1I v3I (aR σ v0R 73) v3I ((0 : Int32)) σ) else (L_Md_mark_4 v0R v1I v3I (aR σ v0R 73) v3I (aI σ (aR σ v0R 73) v3I.toNatClampNeg) σ)) else ((some ((1 : Int32), σ)))) := by
  unfold L_Md_mark_3
  rw [lp_eq]
  show lpK (lp F_Md_mark) (T_Md_mark_3 v0R v1I v3I σ) = _
  unfold T_Md_mark_3
  simp only [lpK_ite, lq_inl, lq_inr, lpK_bnd, lpK_gd, lq_let]
  try rfl
set_option maxRecDepth 20000 in
theorem E_Md_mark_4 (v0R : Nat) (v1I : Int32) (v3I : Int32) (s0R : Nat) (s1I : Int32) (s2I : Int32) (σ : AM) : L_Md_mark_4 v0R v1I v3I s0R s1I s2I σ = (gd (okO σ s0R 101) <| gd (inB s1I (aN σ s0R)) <| letT (sI σ s0R s1I.toNatClampNeg s2I) fun σ3 => L_Md_mark_3 v0R v1I (v3I + (1 : Int32)) σ3) := by
  unfold L_Md_mark_4
  rw [lp_eq]
  show lpK (lp F_Md_mark) (T_Md_mark_4 v0R v1I v3I s0R s1I s2I σ) = _
  unfold T_Md_mark_4
  simp only [lpK_ite, lq_inl, lq_inr, lpK_bnd, lpK_gd, lq_let]
  try rfl
noncomputable def M_Md_mark (v0R : Nat) (v1I : Int32) (v2I : Int32) (σ : AM) : Option (Int32 × AM) := mw σ (L_Md_mark_0 v0R v1I v2I σ)
def I_Md_mark (G : GX) (p : Program) (l : Launch) (e : Env) (s : State) (m : MethodId) (args : Array Value) (below : List Frame) (meth : Method) (c : Code) (z0 u0 n : Nat) : Prop :=
  (∀ (v0R : Nat) (v1I : Int32) (v2I : Int32) (σ : AM), VX (QM eI G args s below z0 u0) G p l e s m args below meth c 1 z0 u0 4 (lpn F_Md_mark n (0, v0R, v1I, v2I, 0, 0, 0, 0, σ)) 0 [(0, .ref v0R), (1, .int v1I), (2, .int v2I)] [] σ) ∧
  (∀ (σ : AM), VX (QM eI G args s below z0 u0) G p l e s m args below meth c 1 z0 u0 4 (lpn F_Md_mark n (1, 0, 0, 0, 0, 0, 0, 0, σ)) 27 [] [] σ) ∧
  (∀ (v0R : Nat) (v1I : Int32) (v2I : Int32) (σ : AM), VX (QM eI G args s below z0 u0) G p l e s m args below meth c 1 z0 u0 4 (lpn F_Md_mark n (2, v0R, v1I, v2I, 0, 0, 0, 0, σ)) 29 [(0, .ref v0R), (1, .int v1I), (2, .int v2I)] [] σ) ∧
  (∀ (v0R : Nat) (v1I : Int32) (v3I : Int32) (σ : AM), VX (QM eI G args s below z0 u0) G p l e s m args below meth c 1 z0 u0 4 (lpn F_Md_mark n (3, v0R, v1I, 0, v3I, 0, 0, 0, σ)) 97 [(0, .ref v0R), (1, .int v1I), (3, .int v3I)] [] σ) ∧
  (∀ (v0R : Nat) (v1I : Int32) (v3I : Int32) (s0R : Nat) (s1I : Int32) (s2I : Int32) (σ : AM), VX (QM eI G args s below z0 u0) G p l e s m args below meth c 1 z0 u0 4 (lpn F_Md_mark n (4, v0R, v1I, 0, v3I, s0R, s1I, s2I, σ)) 132 [(0, .ref v0R), (1, .int v1I), (3, .int v3I)] [.int s2I, .int s1I, .ref s0R] σ)
set_option maxRecDepth 20000 in
theorem s_Md_mark_0 {G : GX} {p : Program} {l : Launch} {e : Env} {s : State} {m : MethodId} {args : Array Value} {below : List Frame} {meth : Method} {c : Code} {z0 u0 n : Nat} (C : Cx G p s m args meth c prog_14_method_123_code 4 "BellPlateModel" ((some FieldType.boolean))) (IH : I_Md_mark G p l e s m args below meth c z0 u0 n) (v0R : Nat) (v1I : Int32) (v2I : Int32) (σ : AM) : VX (QM eI G args s below z0 u0) G p l e s m args below meth c 1 z0 u0 4 (lpK (lpn F_Md_mark n) (T_Md_mark_0 v0R v1I v2I σ)) 0 [(0, .ref v0R), (1, .int v1I), (2, .int v2I)] [] σ := by
  unfold T_Md_mark_0
  refine x_aload_n C d_Md_mark_0 0 rfl ?_
  refine x_iconst (v := (0 : Int32)) C d_Md_mark_1 (by decide) ?_
  refine x_gd (fun h1 => ?_)
  refine x_putI (k := 0) C (okO_iff.mp h1) rfl j11_ok y11_ok n11_ok (by decide) rfl rfl rfl rfl w1852 d_Md_mark_2 ?_
  refine x_letS (fun σ2 e3 => ?_)
  refine x_iload_n C d_Md_mark_5 1 rfl ?_
  refine x_iconst (v := (0 : Int32)) C d_Md_mark_6 (by decide) ?_
  refine x_iconst (v := (3 : Int32)) C d_Md_mark_7 (by decide) ?_
  refine x_callSI (As := [.int v1I, .int (0 : Int32), .int (3 : Int32)]) C (c_Md_within G l v1I (0 : Int32) (3 : Int32) σ2) w2205 w2204 w2206 w134 k_Md_within rfl (by decide) (by decide) rfl (Nat.le_of_ble_eq_true rfl) d_Md_mark_8 (fun r4 σ5 => ?_)
  refine x_if_eq (tgt := 27) C d_Md_mark_11 (by decide) (fun _ => ?_) (fun _ => ?_)
  · refine x_lv [] rfl ?_
    exact IH.2.1  (σ5)
  · refine x_iload_n C d_Md_mark_14 2 rfl ?_
    refine x_if_eq (tgt := 29) C d_Md_mark_15 (by decide) (fun _ => ?_) (fun _ => ?_)
    · exact IH.2.2.1 v0R v1I v2I (σ5)
    · refine x_aload_n C d_Md_mark_18 0 rfl ?_
      refine x_gd (fun h6 => ?_)
      refine x_gd (fun h7 => ?_)
      refine x_getR (k := 73) (kv := 101) C (okO_iff.mp h6) rfl j11_ok (by decide) rfl (okO_iff.mp h7) (by decide) w1925 d_Md_mark_19 ?_
      refine x_iload_n C d_Md_mark_22 1 rfl ?_
      refine x_gd (fun h8 => ?_)
      refine x_aldI C (okO_iff.mp h7) (inB_iff.mp h8) d_Md_mark_23 ?_
      refine x_if_ne (tgt := 29) C d_Md_mark_24 (by decide) (fun _ => ?_) (fun _ => ?_)
      · refine x_lv [] rfl ?_
        exact IH.2.1  (σ5)
      · exact IH.2.2.1 v0R v1I v2I (σ5)
set_option maxRecDepth 20000 in
theorem s_Md_mark_1 {G : GX} {p : Program} {l : Launch} {e : Env} {s : State} {m : MethodId} {args : Array Value} {below : List Frame} {meth : Method} {c : Code} {z0 u0 n : Nat} (C : Cx G p s m args meth c prog_14_method_123_code 4 "BellPlateModel" ((some FieldType.boolean))) (IH : I_Md_mark G p l e s m args below meth c z0 u0 n)  (σ : AM) : VX (QM eI G args s below z0 u0) G p l e s m args below meth c 1 z0 u0 4 (lpK (lpn F_Md_mark n) (T_Md_mark_1  σ)) 27 [] [] σ := by
  unfold T_Md_mark_1
  refine x_iconst (v := (0 : Int32)) C d_Md_mark_27 (by decide) ?_
  exact x_zret C (by decide) d_Md_mark_28
set_option maxRecDepth 20000 in
theorem s_Md_mark_2 {G : GX} {p : Program} {l : Launch} {e : Env} {s : State} {m : MethodId} {args : Array Value} {below : List Frame} {meth : Method} {c : Code} {z0 u0 n : Nat} (C : Cx G p s m args meth c prog_14_method_123_code 4 "BellPlateModel" ((some FieldType.boolean))) (IH : I_Md_mark G p l e s m args below meth c z0 u0 n) (v0R : Nat) (v1I : Int32) (v2I : Int32) (σ : AM) : VX (QM eI G args s below z0 u0) G p l e s m args below meth c 1 z0 u0 4 (lpK (lpn F_Md_mark n) (T_Md_mark_2 v0R v1I v2I σ)) 29 [(0, .ref v0R), (1, .int v1I), (2, .int v2I)] [] σ := by
  unfold T_Md_mark_2
  refine x_iload_n C d_Md_mark_29 2 rfl ?_
  refine x_if_ne (tgt := 75) C d_Md_mark_30 (by decide) (fun _ => ?_) (fun _ => ?_)
  · refine x_aload_n C d_Md_mark_33 0 rfl ?_
    refine x_dup C d_Md_mark_34 rfl ?_
    refine x_gd (fun h1 => ?_)
    refine x_getI (k := 72) C (okO_iff.mp h1) rfl j11_ok (by decide) rfl w1924 d_Md_mark_35 ?_
    refine x_iconst (v := (1 : Int32)) C d_Md_mark_38 (by decide) ?_
    refine x_iadd C d_Md_mark_39 ?_
    refine x_putI (k := 72) C (okO_iff.mp h1) rfl j11_ok y11_ok n11_ok (by decide) rfl rfl rfl rfl w1924 d_Md_mark_40 ?_
    refine x_letS (fun σ2 e3 => ?_)
    refine x_aload_n C d_Md_mark_43 0 rfl ?_
    refine x_gd (fun h4 => ?_)
    refine x_getR (k := 73) (kv := 101) C (by first | exact (okO_iff.mp h1) | (rw [e3]; exact (okO_iff.mp h1))) rfl j11_ok (by decide) rfl (okO_iff.mp h4) (by decide) w1925 d_Md_mark_44 ?_
    refine x_iload_n C d_Md_mark_47 1 rfl ?_
    refine x_aload_n C d_Md_mark_48 0 rfl ?_
    refine x_getI (k := 72) C (by first | exact (okO_iff.mp h1) | (rw [e3]; exact (okO_iff.mp h1))) rfl j11_ok (by decide) rfl w1924 d_Md_mark_49 ?_
    refine x_gd (fun h5 => ?_)
    refine x_astI C (okO_iff.mp h4) (inB_iff.mp h5) d_Md_mark_52 ?_
    refine x_letS (fun σ6 e7 => ?_)
    refine x_aload_n C d_Md_mark_53 0 rfl ?_
    refine x_gd (fun h8 => ?_)
    refine x_getR (k := 74) (kv := 101) C (by first | exact (okO_iff.mp h1) | (rw [e7, e3]; exact (okO_iff.mp h1))) rfl j11_ok (by decide) rfl (okO_iff.mp h8) (by decide) w1926 d_Md_mark_54 ?_
    refine x_iload_n C d_Md_mark_57 1 rfl ?_
    refine x_aload_n C d_Md_mark_58 0 rfl ?_
    refine x_getI (k := 37) C (by first | exact (okO_iff.mp h1) | (rw [e7, e3]; exact (okO_iff.mp h1))) rfl j11_ok (by decide) rfl w1889 d_Md_mark_59 ?_
    refine x_gd (fun h9 => ?_)
    refine x_astI C (okO_iff.mp h8) (inB_iff.mp h9) d_Md_mark_62 ?_
    refine x_letS (fun σ10 e11 => ?_)
    refine x_aload_n C d_Md_mark_63 0 rfl ?_
    refine x_gd (fun h12 => ?_)
    refine x_getR (k := 75) (kv := 101) C (by first | exact (okO_iff.mp h1) | (rw [e11, e7, e3]; exact (okO_iff.mp h1))) rfl j11_ok (by decide) rfl (okO_iff.mp h12) (by decide) w1927 d_Md_mark_64 ?_
    refine x_iload_n C d_Md_mark_67 1 rfl ?_
    refine x_aload_n C d_Md_mark_68 0 rfl ?_
    refine x_getI (k := 42) C (by first | exact (okO_iff.mp h1) | (rw [e11, e7, e3]; exact (okO_iff.mp h1))) rfl j11_ok (by decide) rfl w1894 d_Md_mark_69 ?_
    refine x_gd (fun h13 => ?_)
    refine x_astI C (okO_iff.mp h12) (inB_iff.mp h13) d_Md_mark_72 ?_
    refine x_letS (fun σ14 e15 => ?_)
    refine x_iconst (v := (1 : Int32)) C d_Md_mark_73 (by decide) ?_
    exact x_zret C (by decide) d_Md_mark_74
  · refine x_aload_n C d_Md_mark_75 0 rfl ?_
    refine x_aload_n C d_Md_mark_76 0 rfl ?_
    refine x_gd (fun h16 => ?_)
    refine x_gd (fun h17 => ?_)
    refine x_getR (k := 74) (kv := 101) C (okO_iff.mp h16) rfl j11_ok (by decide) rfl (okO_iff.mp h17) (by decide) w1926 d_Md_mark_77 ?_
    refine x_iload_n C d_Md_mark_80 1 rfl ?_
    refine x_gd (fun h18 => ?_)
    refine x_aldI C (okO_iff.mp h17) (inB_iff.mp h18) d_Md_mark_81 ?_
    refine x_putI (k := 37) C (okO_iff.mp h16) rfl j11_ok y11_ok n11_ok (by decide) rfl rfl rfl rfl w1889 d_Md_mark_82 ?_
    refine x_letS (fun σ19 e20 => ?_)
    refine x_aload_n C d_Md_mark_85 0 rfl ?_
    refine x_aload_n C d_Md_mark_86 0 rfl ?_
    refine x_gd (fun h21 => ?_)
    refine x_getR (k := 75) (kv := 101) C (by first | exact (okO_iff.mp h16) | (rw [e20]; exact (okO_iff.mp h16))) rfl j11_ok (by decide) rfl (okO_iff.mp h21) (by decide) w1927 d_Md_mark_87 ?_
    refine x_iload_n C d_Md_mark_90 1 rfl ?_
    refine x_gd (fun h22 => ?_)
    refine x_aldI C (okO_iff.mp h21) (inB_iff.mp h22) d_Md_mark_91 ?_
    refine x_putI (k := 42) C (by first | exact (okO_iff.mp h16) | (rw [e20]; exact (okO_iff.mp h16))) rfl j11_ok y11_ok n11_ok (by decide) rfl rfl rfl rfl w1894 d_Md_mark_92 ?_
    refine x_letS (fun σ23 e24 => ?_)
    refine x_iconst (v := (0 : Int32)) C d_Md_mark_95 (by decide) ?_
    refine x_istore_n (lv' := [(3, .int (0 : Int32)), (0, .ref v0R), (1, .int v1I), (2, .int v2I)]) C d_Md_mark_96 (by decide) rfl rfl ?_
    refine x_lv [1, 2, 0] rfl ?_
    exact IH.2.2.2.1 v0R v1I ((0 : Int32)) (σ23)
set_option maxRecDepth 20000 in
theorem s_Md_mark_3 {G : GX} {p : Program} {l : Launch} {e : Env} {s : State} {m : MethodId} {args : Array Value} {below : List Frame} {meth : Method} {c : Code} {z0 u0 n : Nat} (C : Cx G p s m args meth c prog_14_method_123_code 4 "BellPlateModel" ((some FieldType.boolean))) (IH : I_Md_mark G p l e s m args below meth c z0 u0 n) (v0R : Nat) (v1I : Int32) (v3I : Int32) (σ : AM) : VX (QM eI G args s below z0 u0) G p l e s m args below meth c 1 z0 u0 4 (lpK (lpn F_Md_mark n) (T_Md_mark_3 v0R v1I v3I σ)) 97 [(0, .ref v0R), (1, .int v1I), (3, .int v3I)] [] σ := by
  unfold T_Md_mark_3
  refine x_iload_n C d_Md_mark_97 2 rfl ?_
  refine x_iconst (v := (4 : Int32)) C d_Md_mark_98 (by decide) ?_
  refine x_icmp_ge (tgt := 139) C d_Md_mark_99 (by decide) (fun _ => ?_) (fun _ => ?_)
  · refine x_aload_n C d_Md_mark_102 0 rfl ?_
    refine x_gd (fun h1 => ?_)
    refine x_gd (fun h2 => ?_)
    refine x_getR (k := 73) (kv := 101) C (okO_iff.mp h1) rfl j11_ok (by decide) rfl (okO_iff.mp h2) (by decide) w1925 d_Md_mark_103 ?_
    refine x_iload_n C d_Md_mark_106 2 rfl ?_
    refine x_aload_n C d_Md_mark_107 0 rfl ?_
    refine x_getR (k := 73) (kv := 101) C (okO_iff.mp h1) rfl j11_ok (by decide) rfl (okO_iff.mp h2) (by decide) w1925 d_Md_mark_108 ?_
    refine x_iload_n C d_Md_mark_111 2 rfl ?_
    refine x_gd (fun h3 => ?_)
    refine x_aldI C (okO_iff.mp h2) (inB_iff.mp h3) d_Md_mark_112 ?_
    refine x_aload_n C d_Md_mark_113 0 rfl ?_
    refine x_getR (k := 73) (kv := 101) C (okO_iff.mp h1) rfl j11_ok (by decide) rfl (okO_iff.mp h2) (by decide) w1925 d_Md_mark_114 ?_
    refine x_iload_n C d_Md_mark_117 1 rfl ?_
    refine x_gd (fun h4 => ?_)
    refine x_aldI C (okO_iff.mp h2) (inB_iff.mp h4) d_Md_mark_118 ?_
    refine x_icmp_le (tgt := 126) C d_Md_mark_119 (by decide) (fun _ => ?_) (fun _ => ?_)
    · refine x_iconst (v := (0 : Int32)) C d_Md_mark_122 (by decide) ?_
      refine x_goto (tgt := 132) C d_Md_mark_123 (by decide) ?_
      exact IH.2.2.2.2 v0R v1I v3I (aR σ v0R 73) v3I ((0 : Int32)) (σ)
    · refine x_aload_n C d_Md_mark_126 0 rfl ?_
      refine x_getR (k := 73) (kv := 101) C (okO_iff.mp h1) rfl j11_ok (by decide) rfl (okO_iff.mp h2) (by decide) w1925 d_Md_mark_127 ?_
      refine x_iload_n C d_Md_mark_130 2 rfl ?_
      refine x_aldI C (okO_iff.mp h2) (inB_iff.mp h3) d_Md_mark_131 ?_
      exact IH.2.2.2.2 v0R v1I v3I (aR σ v0R 73) v3I (aI σ (aR σ v0R 73) v3I.toNatClampNeg) (σ)
  · refine x_iconst (v := (1 : Int32)) C d_Md_mark_139 (by decide) ?_
    exact x_zret C (by decide) d_Md_mark_140
set_option maxRecDepth 20000 in
theorem s_Md_mark_4 {G : GX} {p : Program} {l : Launch} {e : Env} {s : State} {m : MethodId} {args : Array Value} {below : List Frame} {meth : Method} {c : Code} {z0 u0 n : Nat} (C : Cx G p s m args meth c prog_14_method_123_code 4 "BellPlateModel" ((some FieldType.boolean))) (IH : I_Md_mark G p l e s m args below meth c z0 u0 n) (v0R : Nat) (v1I : Int32) (v3I : Int32) (s0R : Nat) (s1I : Int32) (s2I : Int32) (σ : AM) : VX (QM eI G args s below z0 u0) G p l e s m args below meth c 1 z0 u0 4 (lpK (lpn F_Md_mark n) (T_Md_mark_4 v0R v1I v3I s0R s1I s2I σ)) 132 [(0, .ref v0R), (1, .int v1I), (3, .int v3I)] [.int s2I, .int s1I, .ref s0R] σ := by
  unfold T_Md_mark_4
  refine x_gd (fun h1 => ?_)
  refine x_gd (fun h2 => ?_)
  refine x_astI C (okO_iff.mp h1) (inB_iff.mp h2) d_Md_mark_132 ?_
  refine x_letS (fun σ3 e4 => ?_)
  refine x_iinc (v := v3I + (1 : Int32)) (lv' := [(3, .int (v3I + (1 : Int32))), (0, .ref v0R), (1, .int v1I)]) C d_Md_mark_133 2 rfl rfl (by decide) rfl ?_
  refine x_goto (tgt := 97) C d_Md_mark_136 (by decide) ?_
  refine x_lv [1, 2, 0] rfl ?_
  exact IH.2.2.2.1 v0R v1I (v3I + (1 : Int32)) (σ3)
theorem i_Md_mark {G : GX} {p : Program} {l : Launch} {e : Env} {s : State} {m : MethodId} {args : Array Value} {below : List Frame} {meth : Method} {c : Code} {z0 u0 : Nat} (C : Cx G p s m args meth c prog_14_method_123_code 4 "BellPlateModel" ((some FieldType.boolean))) (n : Nat) : I_Md_mark G p l e s m args below meth c z0 u0 n := by
  induction n with
  | zero => exact ⟨fun _ _ _ _ => x_none, fun _ => x_none, fun _ _ _ _ => x_none, fun _ _ _ _ => x_none, fun _ _ _ _ _ _ _ => x_none⟩
  | succ n IH => exact ⟨fun v0R v1I v2I σ => s_Md_mark_0 C IH v0R v1I v2I σ, fun σ => s_Md_mark_1 C IH σ, fun v0R v1I v2I σ => s_Md_mark_2 C IH v0R v1I v2I σ, fun v0R v1I v3I σ => s_Md_mark_3 C IH v0R v1I v3I σ, fun v0R v1I v3I s0R s1I s2I σ => s_Md_mark_4 C IH v0R v1I v3I s0R s1I s2I σ⟩
theorem c_Md_mark (G : GX) (l : Launch) (v0R : Nat) (v1I : Int32) (v2I : Int32) (σ : AM) : CT eI G l 1 y_Md_mark prog_14_method_123_code 4 ((some FieldType.boolean)) [.ref v0R, .int v1I, .int v2I] σ (M_Md_mark v0R v1I v2I σ) := by
  refine ct_of (by decide +kernel) (Nat.le_of_ble_eq_true rfl) (fun p e s m args below meth c C hin => ?_)
  refine x_lve (lv' := [(0, .ref v0R), (1, .int v1I), (2, .int v2I)]) rfl ?_
  intro r σ' h
  obtain ⟨n, hn⟩ := (lp_iff _ _ _).mp h
  exact (i_Md_mark C n).1 v0R v1I v2I σ r σ' hn
/-! BellPlateModel.count(I)I -/
abbrev y_Md_count : MethodName := ⟨"BellPlateModel", "count", "(I)I"⟩
theorem k_Md_count : y_Md_count.cls ≠ "java/lang/invoke/MethodHandle" ∧ y_Md_count.cls ≠ "java/lang/invoke/VarHandle" ∧ (parseMethodDescriptor y_Md_count.desc).map (fun d => d.parameters.length) = some 1 := by decide +kernel
theorem d_Md_count_0 : decode prog_14_method_124_code 0 = .ok (.aload_n 0, 1) := by decide +kernel
theorem d_Md_count_1 : decode prog_14_method_124_code 1 = .ok (.iconst 0, 1) := by decide +kernel
theorem d_Md_count_2 : decode prog_14_method_124_code 2 = .ok (.putfield 1, 3) := by decide +kernel
theorem d_Md_count_5 : decode prog_14_method_124_code 5 = .ok (.iconst 0, 1) := by decide +kernel
theorem d_Md_count_6 : decode prog_14_method_124_code 6 = .ok (.istore_n 2, 1) := by decide +kernel
theorem d_Md_count_7 : decode prog_14_method_124_code 7 = .ok (.iload_n 1, 1) := by decide +kernel
theorem d_Md_count_8 : decode prog_14_method_124_code 8 = .ok (.tableswitch 184 0 11 #[64, 69, 74, 79, 84, 119, 124, 129, 164, 169, 174, 179], 64) := by decide +kernel
theorem d_Md_count_72 : decode prog_14_method_124_code 72 = .ok (.aload_n 0, 1) := by decide +kernel
theorem d_Md_count_73 : decode prog_14_method_124_code 73 = .ok (.getfield 239, 3) := by decide +kernel
theorem d_Md_count_76 : decode prog_14_method_124_code 76 = .ok (.ireturn, 1) := by decide +kernel
theorem d_Md_count_77 : decode prog_14_method_124_code 77 = .ok (.aload_n 0, 1) := by decide +kernel
theorem d_Md_count_78 : decode prog_14_method_124_code 78 = .ok (.getfield 161, 3) := by decide +kernel
theorem d_Md_count_81 : decode prog_14_method_124_code 81 = .ok (.ireturn, 1) := by decide +kernel
theorem d_Md_count_82 : decode prog_14_method_124_code 82 = .ok (.aload_n 0, 1) := by decide +kernel
theorem d_Md_count_83 : decode prog_14_method_124_code 83 = .ok (.getfield 164, 3) := by decide +kernel
theorem d_Md_count_86 : decode prog_14_method_124_code 86 = .ok (.ireturn, 1) := by decide +kernel
theorem d_Md_count_87 : decode prog_14_method_124_code 87 = .ok (.aload_n 0, 1) := by decide +kernel
theorem d_Md_count_88 : decode prog_14_method_124_code 88 = .ok (.getfield 313, 3) := by decide +kernel
theorem d_Md_count_91 : decode prog_14_method_124_code 91 = .ok (.ireturn, 1) := by decide +kernel
theorem d_Md_count_92 : decode prog_14_method_124_code 92 = .ok (.iconst 0, 1) := by decide +kernel
theorem d_Md_count_93 : decode prog_14_method_124_code 93 = .ok (.istore_n 3, 1) := by decide +kernel
theorem d_Md_count_94 : decode prog_14_method_124_code 94 = .ok (.iload_n 3, 1) := by decide +kernel
theorem d_Md_count_95 : decode prog_14_method_124_code 95 = .ok (.aload_n 0, 1) := by decide +kernel
theorem d_Md_count_96 : decode prog_14_method_124_code 96 = .ok (.getfield 313, 3) := by decide +kernel
theorem d_Md_count_99 : decode prog_14_method_124_code 99 = .ok (.if_icmp .ge 26, 3) := by decide +kernel
theorem d_Md_count_102 : decode prog_14_method_124_code 102 = .ok (.iload_n 2, 1) := by decide +kernel
theorem d_Md_count_103 : decode prog_14_method_124_code 103 = .ok (.aload_n 0, 1) := by decide +kernel
theorem d_Md_count_104 : decode prog_14_method_124_code 104 = .ok (.getfield 78, 3) := by decide +kernel
theorem d_Md_count_107 : decode prog_14_method_124_code 107 = .ok (.iload_n 3, 1) := by decide +kernel
theorem d_Md_count_108 : decode prog_14_method_124_code 108 = .ok (.baload, 1) := by decide +kernel
theorem d_Md_count_109 : decode prog_14_method_124_code 109 = .ok (.ifCond .eq 7, 3) := by decide +kernel
theorem d_Md_count_112 : decode prog_14_method_124_code 112 = .ok (.iconst 1, 1) := by decide +kernel
theorem d_Md_count_113 : decode prog_14_method_124_code 113 = .ok (.goto 4, 3) := by decide +kernel
theorem d_Md_count_116 : decode prog_14_method_124_code 116 = .ok (.iconst 0, 1) := by decide +kernel
theorem d_Md_count_117 : decode prog_14_method_124_code 117 = .ok (.iadd, 1) := by decide +kernel
theorem d_Md_count_118 : decode prog_14_method_124_code 118 = .ok (.istore_n 2, 1) := by decide +kernel
theorem d_Md_count_119 : decode prog_14_method_124_code 119 = .ok (.iinc 3 1, 3) := by decide +kernel
theorem d_Md_count_122 : decode prog_14_method_124_code 122 = .ok (.goto (-28), 3) := by decide +kernel
theorem d_Md_count_125 : decode prog_14_method_124_code 125 = .ok (.iload_n 2, 1) := by decide +kernel
theorem d_Md_count_126 : decode prog_14_method_124_code 126 = .ok (.ireturn, 1) := by decide +kernel
theorem d_Md_count_127 : decode prog_14_method_124_code 127 = .ok (.aload_n 0, 1) := by decide +kernel
theorem d_Md_count_128 : decode prog_14_method_124_code 128 = .ok (.getfield 316, 3) := by decide +kernel
theorem d_Md_count_131 : decode prog_14_method_124_code 131 = .ok (.ireturn, 1) := by decide +kernel
theorem d_Md_count_132 : decode prog_14_method_124_code 132 = .ok (.aload_n 0, 1) := by decide +kernel
theorem d_Md_count_133 : decode prog_14_method_124_code 133 = .ok (.getfield 245, 3) := by decide +kernel
theorem d_Md_count_136 : decode prog_14_method_124_code 136 = .ok (.ireturn, 1) := by decide +kernel
theorem d_Md_count_137 : decode prog_14_method_124_code 137 = .ok (.iconst 0, 1) := by decide +kernel
theorem d_Md_count_138 : decode prog_14_method_124_code 138 = .ok (.istore_n 3, 1) := by decide +kernel
theorem d_Md_count_139 : decode prog_14_method_124_code 139 = .ok (.iload_n 3, 1) := by decide +kernel
theorem d_Md_count_140 : decode prog_14_method_124_code 140 = .ok (.aload_n 0, 1) := by decide +kernel
theorem d_Md_count_141 : decode prog_14_method_124_code 141 = .ok (.getfield 245, 3) := by decide +kernel
theorem d_Md_count_144 : decode prog_14_method_124_code 144 = .ok (.if_icmp .ge 26, 3) := by decide +kernel
theorem d_Md_count_147 : decode prog_14_method_124_code 147 = .ok (.iload_n 2, 1) := by decide +kernel
theorem d_Md_count_148 : decode prog_14_method_124_code 148 = .ok (.aload_n 0, 1) := by decide +kernel
theorem d_Md_count_149 : decode prog_14_method_124_code 149 = .ok (.getfield 107, 3) := by decide +kernel
theorem d_Md_count_152 : decode prog_14_method_124_code 152 = .ok (.iload_n 3, 1) := by decide +kernel
theorem d_Md_count_153 : decode prog_14_method_124_code 153 = .ok (.baload, 1) := by decide +kernel
theorem d_Md_count_154 : decode prog_14_method_124_code 154 = .ok (.ifCond .eq 7, 3) := by decide +kernel
theorem d_Md_count_157 : decode prog_14_method_124_code 157 = .ok (.iconst 1, 1) := by decide +kernel
theorem d_Md_count_158 : decode prog_14_method_124_code 158 = .ok (.goto 4, 3) := by decide +kernel
theorem d_Md_count_161 : decode prog_14_method_124_code 161 = .ok (.iconst 0, 1) := by decide +kernel
theorem d_Md_count_162 : decode prog_14_method_124_code 162 = .ok (.iadd, 1) := by decide +kernel
theorem d_Md_count_163 : decode prog_14_method_124_code 163 = .ok (.istore_n 2, 1) := by decide +kernel
theorem d_Md_count_164 : decode prog_14_method_124_code 164 = .ok (.iinc 3 1, 3) := by decide +kernel
theorem d_Md_count_167 : decode prog_14_method_124_code 167 = .ok (.goto (-28), 3) := by decide +kernel
theorem d_Md_count_170 : decode prog_14_method_124_code 170 = .ok (.iload_n 2, 1) := by decide +kernel
theorem d_Md_count_171 : decode prog_14_method_124_code 171 = .ok (.ireturn, 1) := by decide +kernel
theorem d_Md_count_172 : decode prog_14_method_124_code 172 = .ok (.aload_n 0, 1) := by decide +kernel
theorem d_Md_count_173 : decode prog_14_method_124_code 173 = .ok (.getfield 251, 3) := by decide +kernel
theorem d_Md_count_176 : decode prog_14_method_124_code 176 = .ok (.ireturn, 1) := by decide +kernel
theorem d_Md_count_177 : decode prog_14_method_124_code 177 = .ok (.aload_n 0, 1) := by decide +kernel
theorem d_Md_count_178 : decode prog_14_method_124_code 178 = .ok (.getfield 11, 3) := by decide +kernel
theorem d_Md_count_181 : decode prog_14_method_124_code 181 = .ok (.ireturn, 1) := by decide +kernel
theorem d_Md_count_182 : decode prog_14_method_124_code 182 = .ok (.aload_n 0, 1) := by decide +kernel
theorem d_Md_count_183 : decode prog_14_method_124_code 183 = .ok (.getfield 242, 3) := by decide +kernel
theorem d_Md_count_186 : decode prog_14_method_124_code 186 = .ok (.ireturn, 1) := by decide +kernel
theorem d_Md_count_187 : decode prog_14_method_124_code 187 = .ok (.aload_n 0, 1) := by decide +kernel
theorem d_Md_count_188 : decode prog_14_method_124_code 188 = .ok (.getfield 248, 3) := by decide +kernel
theorem d_Md_count_191 : decode prog_14_method_124_code 191 = .ok (.ireturn, 1) := by decide +kernel
theorem d_Md_count_192 : decode prog_14_method_124_code 192 = .ok (.iconst (-1), 1) := by decide +kernel
theorem d_Md_count_193 : decode prog_14_method_124_code 193 = .ok (.ireturn, 1) := by decide +kernel
abbrev S_Md_count : Type := Nat × Nat × Int32 × Int32 × Int32 × Int32 × Int32 × AM
noncomputable def T_Md_count_0 (v0R : Nat) (v1I : Int32) (σ : AM) : S_Md_count ⊕ Option (Int32 × AM) :=
  gdT (okO σ v0R 12) <| letT (sI σ v0R 0 (0 : Int32)) fun σ2 => if v1I = (0 : Int32) then (.inr (some ((aI σ2 v0R 10), σ2))) else (if v1I = (1 : Int32) then (.inr (some ((aI σ2 v0R 11), σ2))) else (if v1I = (2 : Int32) then (.inr (some ((aI σ2 v0R 12), σ2))) else (if v1I = (3 : Int32) then (.inr (some ((aI σ2 v0R 26), σ2))) else (if v1I = (4 : Int32) then (.inl (1, v0R, 0, (0 : Int32), (0 : Int32), 0, 0, σ2)) else (if v1I = (5 : Int32) then (.inr (some ((aI σ2 v0R 29), σ2))) else (if v1I = (6 : Int32) then (.inr (some ((aI σ2 v0R 37), σ2))) else (if v1I = (7 : Int32) then (.inl (3, v0R, 0, (0 : Int32), (0 : Int32), 0, 0, σ2)) else (if v1I = (8 : Int32) then (.inr (some ((aI σ2 v0R 70), σ2))) else (if v1I = (9 : Int32) then (.inr (some ((aI σ2 v0R 2), σ2))) else (if v1I = (10 : Int32) then (.inr (some ((aI σ2 v0R 13), σ2))) else (if v1I = (11 : Int32) then (.inr (some ((aI σ2 v0R 42), σ2))) else (.inr (some (((-1) : Int32), σ2))))))))))))))
noncomputable def T_Md_count_1 (v0R : Nat) (v2I : Int32) (v3I : Int32) (σ : AM) : S_Md_count ⊕ Option (Int32 × AM) :=
  gdT (okO σ v0R 12) <| if v3I < (aI σ v0R 26) then (gdT (okO σ (aR σ v0R 28) 103) <| gdT (inB v3I (aN σ (aR σ v0R 28))) <| if (aI σ (aR σ v0R 28) v3I.toNatClampNeg) = 0 then (.inl (2, v0R, 0, 0, v3I, v2I, (0 : Int32), σ)) else (.inl (2, v0R, 0, 0, v3I, v2I, (1 : Int32), σ))) else (.inr (some (v2I, σ)))
noncomputable def T_Md_count_2 (v0R : Nat) (v3I : Int32) (s0I : Int32) (s1I : Int32) (σ : AM) : S_Md_count ⊕ Option (Int32 × AM) :=
  letT (s0I + s1I) fun x1 => .inl (1, v0R, 0, x1, v3I + (1 : Int32), 0, 0, σ)
noncomputable def T_Md_count_3 (v0R : Nat) (v2I : Int32) (v3I : Int32) (σ : AM) : S_Md_count ⊕ Option (Int32 × AM) :=
  gdT (okO σ v0R 12) <| if v3I < (aI σ v0R 37) then (gdT (okO σ (aR σ v0R 39) 103) <| gdT (inB v3I (aN σ (aR σ v0R 39))) <| if (aI σ (aR σ v0R 39) v3I.toNatClampNeg) = 0 then (.inl (4, v0R, 0, 0, v3I, v2I, (0 : Int32), σ)) else (.inl (4, v0R, 0, 0, v3I, v2I, (1 : Int32), σ))) else (.inr (some (v2I, σ)))
noncomputable def T_Md_count_4 (v0R : Nat) (v3I : Int32) (s0I : Int32) (s1I : Int32) (σ : AM) : S_Md_count ⊕ Option (Int32 × AM) :=
  letT (s0I + s1I) fun x1 => .inl (3, v0R, 0, x1, v3I + (1 : Int32), 0, 0, σ)
noncomputable def F_Md_count : S_Md_count → S_Md_count ⊕ Option (Int32 × AM) := fun s => match s.1 with
  | 0 => T_Md_count_0 (s.2.1) (s.2.2.1) (s.2.2.2.2.2.2.2)
  | 1 => T_Md_count_1 (s.2.1) (s.2.2.2.1) (s.2.2.2.2.1) (s.2.2.2.2.2.2.2)
  | 2 => T_Md_count_2 (s.2.1) (s.2.2.2.2.1) (s.2.2.2.2.2.1) (s.2.2.2.2.2.2.1) (s.2.2.2.2.2.2.2)
  | 3 => T_Md_count_3 (s.2.1) (s.2.2.2.1) (s.2.2.2.2.1) (s.2.2.2.2.2.2.2)
  | _ => T_Md_count_4 (s.2.1) (s.2.2.2.2.1) (s.2.2.2.2.2.1) (s.2.2.2.2.2.2.1) (s.2.2.2.2.2.2.2)
noncomputable def L_Md_count_0 (v0R : Nat) (v1I : Int32) (σ : AM) : Option (Int32 × AM) := lp F_Md_count (0, v0R, v1I, 0, 0, 0, 0, σ)
noncomputable def L_Md_count_1 (v0R : Nat) (v2I : Int32) (v3I : Int32) (σ : AM) : Option (Int32 × AM) := lp F_Md_count (1, v0R, 0, v2I, v3I, 0, 0, σ)
noncomputable def L_Md_count_2 (v0R : Nat) (v3I : Int32) (s0I : Int32) (s1I : Int32) (σ : AM) : Option (Int32 × AM) := lp F_Md_count (2, v0R, 0, 0, v3I, s0I, s1I, σ)
noncomputable def L_Md_count_3 (v0R : Nat) (v2I : Int32) (v3I : Int32) (σ : AM) : Option (Int32 × AM) := lp F_Md_count (3, v0R, 0, v2I, v3I, 0, 0, σ)
noncomputable def L_Md_count_4 (v0R : Nat) (v3I : Int32) (s0I : Int32) (s1I : Int32) (σ : AM) : Option (Int32 × AM) := lp F_Md_count (4, v0R, 0, 0, v3I, s0I, s1I, σ)
set_option maxRecDepth 20000 in
theorem E_Md_count_0 (v0R : Nat) (v1I : Int32) (σ : AM) : L_Md_count_0 v0R v1I σ = (gd (okO σ v0R 12) <| letT (sI σ v0R 0 (0 : Int32)) fun σ2 => if v1I = (0 : Int32) then ((some ((aI σ2 v0R 10), σ2))) else (if v1I = (1 : Int32) then ((some ((aI σ2 v0R 11), σ2))) else (if v1I = (2 : Int32) then ((some ((aI σ2 v0R 12), σ2))) else (if v1I = (3 : Int32) then ((some ((aI σ2 v0R 26), σ2))) else (if v1I = (4 : Int32) then (L_Md_count_1 v0R ((0 : Int32)) ((0 : Int32)) σ2) else (if v1I = (5 : Int32) then ((some ((aI σ2 v0R 29), σ2))) else (if v1I = (6 : Int32) then ((some ((aI σ2 v0R 37), σ2))) else (if v1I = (7 : Int32) then (L_Md_count_3 v0R ((0 : Int32)) ((0 : Int32)) σ2) else (if v1I = (8 : Int32) then ((some ((aI σ2 v0R 70), σ2))) else (if v1I = (9 : Int32) then ((some ((aI σ2 v0R 2), σ2))) else (if v1I = (10 : Int32) then ((some ((aI σ2 v0R 13), σ2))) else (if v1I = (11 : Int32) then ((some ((aI σ2 v0R 42), σ2))) else ((some (((-1) : Int32), σ2))))))))))))))) := by
  unfold L_Md_count_0
  rw [lp_eq]
  show lpK (lp F_Md_count) (T_Md_count_0 v0R v1I σ) = _
  unfold T_Md_count_0
  simp only [lpK_ite, lq_inl, lq_inr, lpK_bnd, lpK_gd, lq_let]
  try rfl
set_option maxRecDepth 20000 in
theorem E_Md_count_1 (v0R : Nat) (v2I : Int32) (v3I : Int32) (σ : AM) : L_Md_count_1 v0R v2I v3I σ = (gd (okO σ v0R 12) <| if v3I < (aI σ v0R 26) then (gd (okO σ (aR σ v0R 28) 103) <| gd (inB v3I (aN σ (aR σ v0R 28))) <| if (aI σ (aR σ v0R 28) v3I.toNatClampNeg) = 0 then (L_Md_count_2 v0R v3I v2I ((0 : Int32)) σ) else (L_Md_count_2 v0R v3I v2I ((1 : Int32)) σ)) else ((some (v2I, σ)))) := by
  unfold L_Md_count_1
  rw [lp_eq]
  show lpK (lp F_Md_count) (T_Md_count_1 v0R v2I v3I σ) = _
  unfold T_Md_count_1
  simp only [lpK_ite, lq_inl, lq_inr, lpK_bnd, lpK_gd, lq_let]
  try rfl
set_option maxRecDepth 20000 in
theorem E_Md_count_2 (v0R : Nat) (v3I : Int32) (s0I : Int32) (s1I : Int32) (σ : AM) : L_Md_count_2 v0R v3I s0I s1I σ = (letT (s0I + s1I) fun x1 => L_Md_count_1 v0R x1 (v3I + (1 : Int32)) σ) := by
  unfold L_Md_count_2
  rw [lp_eq]
  show lpK (lp F_Md_count) (T_Md_count_2 v0R v3I s0I s1I σ) = _
  unfold T_Md_count_2
  simp only [lpK_ite, lq_inl, lq_inr, lpK_bnd, lpK_gd, lq_let]
  try rfl
set_option maxRecDepth 20000 in
theorem E_Md_count_3 (v0R : Nat) (v2I : Int32) (v3I : Int32) (σ : AM) : L_Md_count_3 v0R v2I v3I σ = (gd (okO σ v0R 12) <| if v3I < (aI σ v0R 37) then (gd (okO σ (aR σ v0R 39) 103) <| gd (inB v3I (aN σ (aR σ v0R 39))) <| if (aI σ (aR σ v0R 39) v3I.toNatClampNeg) = 0 then (L_Md_count_4 v0R v3I v2I ((0 : Int32)) σ) else (L_Md_count_4 v0R v3I v2I ((1 : Int32)) σ)) else ((some (v2I, σ)))) := by
  unfold L_Md_count_3
  rw [lp_eq]
  show lpK (lp F_Md_count) (T_Md_count_3 v0R v2I v3I σ) = _
  unfold T_Md_count_3
  simp only [lpK_ite, lq_inl, lq_inr, lpK_bnd, lpK_gd, lq_let]
  try rfl
set_option maxRecDepth 20000 in
theorem E_Md_count_4 (v0R : Nat) (v3I : Int32) (s0I : Int32) (s1I : Int32) (σ : AM) : L_Md_count_4 v0R v3I s0I s1I σ = (letT (s0I + s1I) fun x1 => L_Md_count_3 v0R x1 (v3I + (1 : Int32)) σ) := by
  unfold L_Md_count_4
  rw [lp_eq]
  show lpK (lp F_Md_count) (T_Md_count_4 v0R v3I s0I s1I σ) = _
  unfold T_Md_count_4
  simp only [lpK_ite, lq_inl, lq_inr, lpK_bnd, lpK_gd, lq_let]
  try rfl
noncomputable def M_Md_count (v0R : Nat) (v1I : Int32) (σ : AM) : Option (Int32 × AM) := mw σ (L_Md_count_0 v0R v1I σ)
def I_Md_count (G : GX) (p : Program) (l : Launch) (e : Env) (s : State) (m : MethodId) (args : Array Value) (below : List Frame) (meth : Method) (c : Code) (z0 u0 n : Nat) : Prop :=
  (∀ (v0R : Nat) (v1I : Int32) (σ : AM), VX (QM eI G args s below z0 u0) G p l e s m args below meth c 0 z0 u0 4 (lpn F_Md_count n (0, v0R, v1I, 0, 0, 0, 0, σ)) 0 [(0, .ref v0R), (1, .int v1I)] [] σ) ∧
  (∀ (v0R : Nat) (v2I : Int32) (v3I : Int32) (σ : AM), VX (QM eI G args s below z0 u0) G p l e s m args below meth c 0 z0 u0 4 (lpn F_Md_count n (1, v0R, 0, v2I, v3I, 0, 0, σ)) 94 [(0, .ref v0R), (2, .int v2I), (3, .int v3I)] [] σ) ∧
  (∀ (v0R : Nat) (v3I : Int32) (s0I : Int32) (s1I : Int32) (σ : AM), VX (QM eI G args s below z0 u0) G p l e s m args below meth c 0 z0 u0 4 (lpn F_Md_count n (2, v0R, 0, 0, v3I, s0I, s1I, σ)) 117 [(0, .ref v0R), (3, .int v3I)] [.int s1I, .int s0I] σ) ∧
  (∀ (v0R : Nat) (v2I : Int32) (v3I : Int32) (σ : AM), VX (QM eI G args s below z0 u0) G p l e s m args below meth c 0 z0 u0 4 (lpn F_Md_count n (3, v0R, 0, v2I, v3I, 0, 0, σ)) 139 [(0, .ref v0R), (2, .int v2I), (3, .int v3I)] [] σ) ∧
  (∀ (v0R : Nat) (v3I : Int32) (s0I : Int32) (s1I : Int32) (σ : AM), VX (QM eI G args s below z0 u0) G p l e s m args below meth c 0 z0 u0 4 (lpn F_Md_count n (4, v0R, 0, 0, v3I, s0I, s1I, σ)) 162 [(0, .ref v0R), (3, .int v3I)] [.int s1I, .int s0I] σ)
set_option maxRecDepth 20000 in
theorem s_Md_count_0 {G : GX} {p : Program} {l : Launch} {e : Env} {s : State} {m : MethodId} {args : Array Value} {below : List Frame} {meth : Method} {c : Code} {z0 u0 n : Nat} (C : Cx G p s m args meth c prog_14_method_124_code 4 "BellPlateModel" ((some FieldType.int))) (IH : I_Md_count G p l e s m args below meth c z0 u0 n) (v0R : Nat) (v1I : Int32) (σ : AM) : VX (QM eI G args s below z0 u0) G p l e s m args below meth c 0 z0 u0 4 (lpK (lpn F_Md_count n) (T_Md_count_0 v0R v1I σ)) 0 [(0, .ref v0R), (1, .int v1I)] [] σ := by
  unfold T_Md_count_0
  refine x_aload_n C d_Md_count_0 0 rfl ?_
  refine x_iconst (v := (0 : Int32)) C d_Md_count_1 (by decide) ?_
  refine x_gd (fun h1 => ?_)
  refine x_putI (k := 0) C (okO_iff.mp h1) rfl j11_ok y11_ok n11_ok (by decide) rfl rfl rfl rfl w1852 d_Md_count_2 ?_
  refine x_letS (fun σ2 e3 => ?_)
  refine x_iconst (v := (0 : Int32)) C d_Md_count_5 (by decide) ?_
  refine x_istore_n (lv' := [(2, .int (0 : Int32)), (0, .ref v0R), (1, .int v1I)]) C d_Md_count_6 (by decide) rfl rfl ?_
  refine x_iload_n C d_Md_count_7 2 rfl ?_
  refine x_split (fun h4 => ?_) (fun h4 => ?_)
  · refine x_tabI (tgt := 72) C h4 d_Md_count_8 (by decide) (by decide) rfl (by decide) ?_
    refine x_aload_n C d_Md_count_72 1 rfl ?_
    refine x_getI (k := 10) C (by first | exact (okO_iff.mp h1) | (rw [e3]; exact (okO_iff.mp h1))) rfl j11_ok (by decide) rfl w1862 d_Md_count_73 ?_
    exact x_iret C d_Md_count_76
  · refine x_split (fun h5 => ?_) (fun h5 => ?_)
    · refine x_tabI (tgt := 77) C h5 d_Md_count_8 (by decide) (by decide) rfl (by decide) ?_
      refine x_aload_n C d_Md_count_77 1 rfl ?_
      refine x_getI (k := 11) C (by first | exact (okO_iff.mp h1) | (rw [e3]; exact (okO_iff.mp h1))) rfl j11_ok (by decide) rfl w1863 d_Md_count_78 ?_
      exact x_iret C d_Md_count_81
    · refine x_split (fun h6 => ?_) (fun h6 => ?_)
      · refine x_tabI (tgt := 82) C h6 d_Md_count_8 (by decide) (by decide) rfl (by decide) ?_
        refine x_aload_n C d_Md_count_82 1 rfl ?_
        refine x_getI (k := 12) C (by first | exact (okO_iff.mp h1) | (rw [e3]; exact (okO_iff.mp h1))) rfl j11_ok (by decide) rfl w1864 d_Md_count_83 ?_
        exact x_iret C d_Md_count_86
      · refine x_split (fun h7 => ?_) (fun h7 => ?_)
        · refine x_tabI (tgt := 87) C h7 d_Md_count_8 (by decide) (by decide) rfl (by decide) ?_
          refine x_aload_n C d_Md_count_87 1 rfl ?_
          refine x_getI (k := 26) C (by first | exact (okO_iff.mp h1) | (rw [e3]; exact (okO_iff.mp h1))) rfl j11_ok (by decide) rfl w1878 d_Md_count_88 ?_
          exact x_iret C d_Md_count_91
        · refine x_split (fun h8 => ?_) (fun h8 => ?_)
          · refine x_tabI (tgt := 92) C h8 d_Md_count_8 (by decide) (by decide) rfl (by decide) ?_
            refine x_iconst (v := (0 : Int32)) C d_Md_count_92 (by decide) ?_
            refine x_istore_n (lv' := [(3, .int (0 : Int32)), (2, .int (0 : Int32)), (0, .ref v0R), (1, .int v1I)]) C d_Md_count_93 (by decide) rfl rfl ?_
            refine x_lv [2, 1, 0] rfl ?_
            exact IH.2.1 v0R ((0 : Int32)) ((0 : Int32)) (σ2)
          · refine x_split (fun h9 => ?_) (fun h9 => ?_)
            · refine x_tabI (tgt := 127) C h9 d_Md_count_8 (by decide) (by decide) rfl (by decide) ?_
              refine x_aload_n C d_Md_count_127 1 rfl ?_
              refine x_getI (k := 29) C (by first | exact (okO_iff.mp h1) | (rw [e3]; exact (okO_iff.mp h1))) rfl j11_ok (by decide) rfl w1881 d_Md_count_128 ?_
              exact x_iret C d_Md_count_131
            · refine x_split (fun h10 => ?_) (fun h10 => ?_)
              · refine x_tabI (tgt := 132) C h10 d_Md_count_8 (by decide) (by decide) rfl (by decide) ?_
                refine x_aload_n C d_Md_count_132 1 rfl ?_
                refine x_getI (k := 37) C (by first | exact (okO_iff.mp h1) | (rw [e3]; exact (okO_iff.mp h1))) rfl j11_ok (by decide) rfl w1889 d_Md_count_133 ?_
                exact x_iret C d_Md_count_136
              · refine x_split (fun h11 => ?_) (fun h11 => ?_)
                · refine x_tabI (tgt := 137) C h11 d_Md_count_8 (by decide) (by decide) rfl (by decide) ?_
                  refine x_iconst (v := (0 : Int32)) C d_Md_count_137 (by decide) ?_
                  refine x_istore_n (lv' := [(3, .int (0 : Int32)), (2, .int (0 : Int32)), (0, .ref v0R), (1, .int v1I)]) C d_Md_count_138 (by decide) rfl rfl ?_
                  refine x_lv [2, 1, 0] rfl ?_
                  exact IH.2.2.2.1 v0R ((0 : Int32)) ((0 : Int32)) (σ2)
                · refine x_split (fun h12 => ?_) (fun h12 => ?_)
                  · refine x_tabI (tgt := 172) C h12 d_Md_count_8 (by decide) (by decide) rfl (by decide) ?_
                    refine x_aload_n C d_Md_count_172 1 rfl ?_
                    refine x_getI (k := 70) C (by first | exact (okO_iff.mp h1) | (rw [e3]; exact (okO_iff.mp h1))) rfl j11_ok (by decide) rfl w1922 d_Md_count_173 ?_
                    exact x_iret C d_Md_count_176
                  · refine x_split (fun h13 => ?_) (fun h13 => ?_)
                    · refine x_tabI (tgt := 177) C h13 d_Md_count_8 (by decide) (by decide) rfl (by decide) ?_
                      refine x_aload_n C d_Md_count_177 1 rfl ?_
                      refine x_getI (k := 2) C (by first | exact (okO_iff.mp h1) | (rw [e3]; exact (okO_iff.mp h1))) rfl j11_ok (by decide) rfl w1854 d_Md_count_178 ?_
                      exact x_iret C d_Md_count_181
                    · refine x_split (fun h14 => ?_) (fun h14 => ?_)
                      · refine x_tabI (tgt := 182) C h14 d_Md_count_8 (by decide) (by decide) rfl (by decide) ?_
                        refine x_aload_n C d_Md_count_182 1 rfl ?_
                        refine x_getI (k := 13) C (by first | exact (okO_iff.mp h1) | (rw [e3]; exact (okO_iff.mp h1))) rfl j11_ok (by decide) rfl w1865 d_Md_count_183 ?_
                        exact x_iret C d_Md_count_186
                      · refine x_split (fun h15 => ?_) (fun h15 => ?_)
                        · refine x_tabI (tgt := 187) C h15 d_Md_count_8 (by decide) (by decide) rfl (by decide) ?_
                          refine x_aload_n C d_Md_count_187 1 rfl ?_
                          refine x_getI (k := 42) C (by first | exact (okO_iff.mp h1) | (rw [e3]; exact (okO_iff.mp h1))) rfl j11_ok (by decide) rfl w1894 d_Md_count_188 ?_
                          exact x_iret C d_Md_count_191
                        · refine x_tabO (tgt := 192) C d_Md_count_8 (by have e0 := lv_neT h4 (a := 0) (by decide); have e1 := lv_neT h5 (a := 1) (by decide); have e2 := lv_neT h6 (a := 2) (by decide); have e3 := lv_neT h7 (a := 3) (by decide); have e4 := lv_neT h8 (a := 4) (by decide); have e5 := lv_neT h9 (a := 5) (by decide); have e6 := lv_neT h10 (a := 6) (by decide); have e7 := lv_neT h11 (a := 7) (by decide); have e8 := lv_neT h12 (a := 8) (by decide); have e9 := lv_neT h13 (a := 9) (by decide); have e10 := lv_neT h14 (a := 10) (by decide); have e11 := lv_neT h15 (a := 11) (by decide); omega) (by decide) ?_
                          refine x_iconst (v := ((-1) : Int32)) C d_Md_count_192 (by decide) ?_
                          exact x_iret C d_Md_count_193
set_option maxRecDepth 20000 in
theorem s_Md_count_1 {G : GX} {p : Program} {l : Launch} {e : Env} {s : State} {m : MethodId} {args : Array Value} {below : List Frame} {meth : Method} {c : Code} {z0 u0 n : Nat} (C : Cx G p s m args meth c prog_14_method_124_code 4 "BellPlateModel" ((some FieldType.int))) (IH : I_Md_count G p l e s m args below meth c z0 u0 n) (v0R : Nat) (v2I : Int32) (v3I : Int32) (σ : AM) : VX (QM eI G args s below z0 u0) G p l e s m args below meth c 0 z0 u0 4 (lpK (lpn F_Md_count n) (T_Md_count_1 v0R v2I v3I σ)) 94 [(0, .ref v0R), (2, .int v2I), (3, .int v3I)] [] σ := by
  unfold T_Md_count_1
  refine x_iload_n C d_Md_count_94 2 rfl ?_
  refine x_aload_n C d_Md_count_95 0 rfl ?_
  refine x_gd (fun h1 => ?_)
  refine x_getI (k := 26) C (okO_iff.mp h1) rfl j11_ok (by decide) rfl w1878 d_Md_count_96 ?_
  refine x_icmp_ge (tgt := 125) C d_Md_count_99 (by decide) (fun _ => ?_) (fun _ => ?_)
  · refine x_iload_n C d_Md_count_102 1 rfl ?_
    refine x_aload_n C d_Md_count_103 0 rfl ?_
    refine x_gd (fun h2 => ?_)
    refine x_getR (k := 28) (kv := 103) C (okO_iff.mp h1) rfl j11_ok (by decide) rfl (okO_iff.mp h2) (by decide) w1880 d_Md_count_104 ?_
    refine x_iload_n C d_Md_count_107 2 rfl ?_
    refine x_gd (fun h3 => ?_)
    refine x_aldZ C (okO_iff.mp h2) (inB_iff.mp h3) d_Md_count_108 ?_
    refine x_if_eq (tgt := 116) C d_Md_count_109 (by decide) (fun _ => ?_) (fun _ => ?_)
    · refine x_iconst (v := (0 : Int32)) C d_Md_count_116 (by decide) ?_
      refine x_lv [0, 2] rfl ?_
      exact IH.2.2.1 v0R v3I v2I ((0 : Int32)) (σ)
    · refine x_iconst (v := (1 : Int32)) C d_Md_count_112 (by decide) ?_
      refine x_goto (tgt := 117) C d_Md_count_113 (by decide) ?_
      refine x_lv [0, 2] rfl ?_
      exact IH.2.2.1 v0R v3I v2I ((1 : Int32)) (σ)
  · refine x_iload_n C d_Md_count_125 1 rfl ?_
    exact x_iret C d_Md_count_126
set_option maxRecDepth 20000 in
theorem s_Md_count_2 {G : GX} {p : Program} {l : Launch} {e : Env} {s : State} {m : MethodId} {args : Array Value} {below : List Frame} {meth : Method} {c : Code} {z0 u0 n : Nat} (C : Cx G p s m args meth c prog_14_method_124_code 4 "BellPlateModel" ((some FieldType.int))) (IH : I_Md_count G p l e s m args below meth c z0 u0 n) (v0R : Nat) (v3I : Int32) (s0I : Int32) (s1I : Int32) (σ : AM) : VX (QM eI G args s below z0 u0) G p l e s m args below meth c 0 z0 u0 4 (lpK (lpn F_Md_count n) (T_Md_count_2 v0R v3I s0I s1I σ)) 117 [(0, .ref v0R), (3, .int v3I)] [.int s1I, .int s0I] σ := by
  unfold T_Md_count_2
  refine x_iadd C d_Md_count_117 ?_
  refine x_letI (fun x1 _ => ?_)
  refine x_istore_n (lv' := [(2, .int x1), (0, .ref v0R), (3, .int v3I)]) C d_Md_count_118 (by decide) rfl rfl ?_
  refine x_iinc (v := v3I + (1 : Int32)) (lv' := [(3, .int (v3I + (1 : Int32))), (2, .int x1), (0, .ref v0R)]) C d_Md_count_119 2 rfl rfl (by decide) rfl ?_
  refine x_goto (tgt := 94) C d_Md_count_122 (by decide) ?_
  refine x_lv [2, 1, 0] rfl ?_
  exact IH.2.1 v0R x1 (v3I + (1 : Int32)) (σ)
set_option maxRecDepth 20000 in
theorem s_Md_count_3 {G : GX} {p : Program} {l : Launch} {e : Env} {s : State} {m : MethodId} {args : Array Value} {below : List Frame} {meth : Method} {c : Code} {z0 u0 n : Nat} (C : Cx G p s m args meth c prog_14_method_124_code 4 "BellPlateModel" ((some FieldType.int))) (IH : I_Md_count G p l e s m args below meth c z0 u0 n) (v0R : Nat) (v2I : Int32) (v3I : Int32) (σ : AM) : VX (QM eI G args s below z0 u0) G p l e s m args below meth c 0 z0 u0 4 (lpK (lpn F_Md_count n) (T_Md_count_3 v0R v2I v3I σ)) 139 [(0, .ref v0R), (2, .int v2I), (3, .int v3I)] [] σ := by
  unfold T_Md_count_3
  refine x_iload_n C d_Md_count_139 2 rfl ?_
  refine x_aload_n C d_Md_count_140 0 rfl ?_
  refine x_gd (fun h1 => ?_)
  refine x_getI (k := 37) C (okO_iff.mp h1) rfl j11_ok (by decide) rfl w1889 d_Md_count_141 ?_
  refine x_icmp_ge (tgt := 170) C d_Md_count_144 (by decide) (fun _ => ?_) (fun _ => ?_)
  · refine x_iload_n C d_Md_count_147 1 rfl ?_
    refine x_aload_n C d_Md_count_148 0 rfl ?_
    refine x_gd (fun h2 => ?_)
    refine x_getR (k := 39) (kv := 103) C (okO_iff.mp h1) rfl j11_ok (by decide) rfl (okO_iff.mp h2) (by decide) w1891 d_Md_count_149 ?_
    refine x_iload_n C d_Md_count_152 2 rfl ?_
    refine x_gd (fun h3 => ?_)
    refine x_aldZ C (okO_iff.mp h2) (inB_iff.mp h3) d_Md_count_153 ?_
    refine x_if_eq (tgt := 161) C d_Md_count_154 (by decide) (fun _ => ?_) (fun _ => ?_)
    · refine x_iconst (v := (0 : Int32)) C d_Md_count_161 (by decide) ?_
      refine x_lv [0, 2] rfl ?_
      exact IH.2.2.2.2 v0R v3I v2I ((0 : Int32)) (σ)
    · refine x_iconst (v := (1 : Int32)) C d_Md_count_157 (by decide) ?_
      refine x_goto (tgt := 162) C d_Md_count_158 (by decide) ?_
      refine x_lv [0, 2] rfl ?_
      exact IH.2.2.2.2 v0R v3I v2I ((1 : Int32)) (σ)
  · refine x_iload_n C d_Md_count_170 1 rfl ?_
    exact x_iret C d_Md_count_171
set_option maxRecDepth 20000 in
theorem s_Md_count_4 {G : GX} {p : Program} {l : Launch} {e : Env} {s : State} {m : MethodId} {args : Array Value} {below : List Frame} {meth : Method} {c : Code} {z0 u0 n : Nat} (C : Cx G p s m args meth c prog_14_method_124_code 4 "BellPlateModel" ((some FieldType.int))) (IH : I_Md_count G p l e s m args below meth c z0 u0 n) (v0R : Nat) (v3I : Int32) (s0I : Int32) (s1I : Int32) (σ : AM) : VX (QM eI G args s below z0 u0) G p l e s m args below meth c 0 z0 u0 4 (lpK (lpn F_Md_count n) (T_Md_count_4 v0R v3I s0I s1I σ)) 162 [(0, .ref v0R), (3, .int v3I)] [.int s1I, .int s0I] σ := by
  unfold T_Md_count_4
  refine x_iadd C d_Md_count_162 ?_
  refine x_letI (fun x1 _ => ?_)
  refine x_istore_n (lv' := [(2, .int x1), (0, .ref v0R), (3, .int v3I)]) C d_Md_count_163 (by decide) rfl rfl ?_
  refine x_iinc (v := v3I + (1 : Int32)) (lv' := [(3, .int (v3I + (1 : Int32))), (2, .int x1), (0, .ref v0R)]) C d_Md_count_164 2 rfl rfl (by decide) rfl ?_
  refine x_goto (tgt := 139) C d_Md_count_167 (by decide) ?_
  refine x_lv [2, 1, 0] rfl ?_
  exact IH.2.2.2.1 v0R x1 (v3I + (1 : Int32)) (σ)
theorem i_Md_count {G : GX} {p : Program} {l : Launch} {e : Env} {s : State} {m : MethodId} {args : Array Value} {below : List Frame} {meth : Method} {c : Code} {z0 u0 : Nat} (C : Cx G p s m args meth c prog_14_method_124_code 4 "BellPlateModel" ((some FieldType.int))) (n : Nat) : I_Md_count G p l e s m args below meth c z0 u0 n := by
  induction n with
  | zero => exact ⟨fun _ _ _ => x_none, fun _ _ _ _ => x_none, fun _ _ _ _ _ => x_none, fun _ _ _ _ => x_none, fun _ _ _ _ _ => x_none⟩
  | succ n IH => exact ⟨fun v0R v1I σ => s_Md_count_0 C IH v0R v1I σ, fun v0R v2I v3I σ => s_Md_count_1 C IH v0R v2I v3I σ, fun v0R v3I s0I s1I σ => s_Md_count_2 C IH v0R v3I s0I s1I σ, fun v0R v2I v3I σ => s_Md_count_3 C IH v0R v2I v3I σ, fun v0R v3I s0I s1I σ => s_Md_count_4 C IH v0R v3I s0I s1I σ⟩
theorem c_Md_count (G : GX) (l : Launch) (v0R : Nat) (v1I : Int32) (σ : AM) : CT eI G l 0 y_Md_count prog_14_method_124_code 4 ((some FieldType.int)) [.ref v0R, .int v1I] σ (M_Md_count v0R v1I σ) := by
  refine ct_of (by decide +kernel) (Nat.le_of_ble_eq_true rfl) (fun p e s m args below meth c C hin => ?_)
  refine x_lve (lv' := [(0, .ref v0R), (1, .int v1I)]) rfl ?_
  intro r σ' h
  obtain ⟨n, hn⟩ := (lp_iff _ _ _).mp h
  exact (i_Md_count C n).1 v0R v1I σ r σ' hn
