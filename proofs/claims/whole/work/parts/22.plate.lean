/-! BellPlate.<init>()V -/
abbrev y_Bp_init : MethodName := ⟨"BellPlate", "<init>", "()V"⟩
theorem k_Bp_init : y_Bp_init.cls ≠ "java/lang/invoke/MethodHandle" ∧ y_Bp_init.cls ≠ "java/lang/invoke/VarHandle" ∧ (parseMethodDescriptor y_Bp_init.desc).map (fun d => d.parameters.length) = some 0 := by decide +kernel
theorem d_Bp_init_0 : decode prog_1_method_1_code 0 = .ok (.aload_n 0, 1) := by decide +kernel
theorem d_Bp_init_1 : decode prog_1_method_1_code 1 = .ok (.invokespecial 1, 3) := by decide +kernel
theorem d_Bp_init_4 : decode prog_1_method_1_code 4 = .ok (.aload_n 0, 1) := by decide +kernel
theorem d_Bp_init_5 : decode prog_1_method_1_code 5 = .ok (.new 7, 3) := by decide +kernel
theorem d_Bp_init_8 : decode prog_1_method_1_code 8 = .ok (.dup, 1) := by decide +kernel
theorem d_Bp_init_9 : decode prog_1_method_1_code 9 = .ok (.invokespecial 9, 3) := by decide +kernel
theorem d_Bp_init_12 : decode prog_1_method_1_code 12 = .ok (.putfield 10, 3) := by decide +kernel
theorem d_Bp_init_15 : decode prog_1_method_1_code 15 = .ok (.aload_n 0, 1) := by decide +kernel
theorem d_Bp_init_16 : decode prog_1_method_1_code 16 = .ok (.new 16, 3) := by decide +kernel
theorem d_Bp_init_19 : decode prog_1_method_1_code 19 = .ok (.dup, 1) := by decide +kernel
theorem d_Bp_init_20 : decode prog_1_method_1_code 20 = .ok (.invokespecial 18, 3) := by decide +kernel
theorem d_Bp_init_23 : decode prog_1_method_1_code 23 = .ok (.putfield 19, 3) := by decide +kernel
theorem d_Bp_init_26 : decode prog_1_method_1_code 26 = .ok (.aload_n 0, 1) := by decide +kernel
theorem d_Bp_init_27 : decode prog_1_method_1_code 27 = .ok (.new 23, 3) := by decide +kernel
theorem d_Bp_init_30 : decode prog_1_method_1_code 30 = .ok (.dup, 1) := by decide +kernel
theorem d_Bp_init_31 : decode prog_1_method_1_code 31 = .ok (.aload_n 0, 1) := by decide +kernel
theorem d_Bp_init_32 : decode prog_1_method_1_code 32 = .ok (.getfield 19, 3) := by decide +kernel
theorem d_Bp_init_35 : decode prog_1_method_1_code 35 = .ok (.invokespecial 25, 3) := by decide +kernel
theorem d_Bp_init_38 : decode prog_1_method_1_code 38 = .ok (.putfield 28, 3) := by decide +kernel
theorem d_Bp_init_41 : decode prog_1_method_1_code 41 = .ok (.aload_n 0, 1) := by decide +kernel
theorem d_Bp_init_42 : decode prog_1_method_1_code 42 = .ok (.new 32, 3) := by decide +kernel
theorem d_Bp_init_45 : decode prog_1_method_1_code 45 = .ok (.dup, 1) := by decide +kernel
theorem d_Bp_init_46 : decode prog_1_method_1_code 46 = .ok (.invokespecial 34, 3) := by decide +kernel
theorem d_Bp_init_49 : decode prog_1_method_1_code 49 = .ok (.putfield 35, 3) := by decide +kernel
theorem d_Bp_init_52 : decode prog_1_method_1_code 52 = .ok (.aload_n 0, 1) := by decide +kernel
theorem d_Bp_init_53 : decode prog_1_method_1_code 53 = .ok (.new 39, 3) := by decide +kernel
theorem d_Bp_init_56 : decode prog_1_method_1_code 56 = .ok (.dup, 1) := by decide +kernel
theorem d_Bp_init_57 : decode prog_1_method_1_code 57 = .ok (.aload_n 0, 1) := by decide +kernel
theorem d_Bp_init_58 : decode prog_1_method_1_code 58 = .ok (.getfield 28, 3) := by decide +kernel
theorem d_Bp_init_61 : decode prog_1_method_1_code 61 = .ok (.aload_n 0, 1) := by decide +kernel
theorem d_Bp_init_62 : decode prog_1_method_1_code 62 = .ok (.getfield 35, 3) := by decide +kernel
theorem d_Bp_init_65 : decode prog_1_method_1_code 65 = .ok (.invokespecial 41, 3) := by decide +kernel
theorem d_Bp_init_68 : decode prog_1_method_1_code 68 = .ok (.putfield 44, 3) := by decide +kernel
theorem d_Bp_init_71 : decode prog_1_method_1_code 71 = .ok (.aload_n 0, 1) := by decide +kernel
theorem d_Bp_init_72 : decode prog_1_method_1_code 72 = .ok (.new 48, 3) := by decide +kernel
theorem d_Bp_init_75 : decode prog_1_method_1_code 75 = .ok (.dup, 1) := by decide +kernel
theorem d_Bp_init_76 : decode prog_1_method_1_code 76 = .ok (.aload_n 0, 1) := by decide +kernel
theorem d_Bp_init_77 : decode prog_1_method_1_code 77 = .ok (.getfield 19, 3) := by decide +kernel
theorem d_Bp_init_80 : decode prog_1_method_1_code 80 = .ok (.aload_n 0, 1) := by decide +kernel
theorem d_Bp_init_81 : decode prog_1_method_1_code 81 = .ok (.getfield 28, 3) := by decide +kernel
theorem d_Bp_init_84 : decode prog_1_method_1_code 84 = .ok (.aload_n 0, 1) := by decide +kernel
theorem d_Bp_init_85 : decode prog_1_method_1_code 85 = .ok (.getfield 35, 3) := by decide +kernel
theorem d_Bp_init_88 : decode prog_1_method_1_code 88 = .ok (.aload_n 0, 1) := by decide +kernel
theorem d_Bp_init_89 : decode prog_1_method_1_code 89 = .ok (.getfield 44, 3) := by decide +kernel
theorem d_Bp_init_92 : decode prog_1_method_1_code 92 = .ok (.invokespecial 50, 3) := by decide +kernel
theorem d_Bp_init_95 : decode prog_1_method_1_code 95 = .ok (.putfield 53, 3) := by decide +kernel
theorem d_Bp_init_98 : decode prog_1_method_1_code 98 = .ok (.aload_n 0, 1) := by decide +kernel
theorem d_Bp_init_99 : decode prog_1_method_1_code 99 = .ok (.new 57, 3) := by decide +kernel
theorem d_Bp_init_102 : decode prog_1_method_1_code 102 = .ok (.dup, 1) := by decide +kernel
theorem d_Bp_init_103 : decode prog_1_method_1_code 103 = .ok (.aload_n 0, 1) := by decide +kernel
theorem d_Bp_init_104 : decode prog_1_method_1_code 104 = .ok (.getfield 28, 3) := by decide +kernel
theorem d_Bp_init_107 : decode prog_1_method_1_code 107 = .ok (.aload_n 0, 1) := by decide +kernel
theorem d_Bp_init_108 : decode prog_1_method_1_code 108 = .ok (.getfield 44, 3) := by decide +kernel
theorem d_Bp_init_111 : decode prog_1_method_1_code 111 = .ok (.invokespecial 59, 3) := by decide +kernel
theorem d_Bp_init_114 : decode prog_1_method_1_code 114 = .ok (.putfield 62, 3) := by decide +kernel
theorem d_Bp_init_117 : decode prog_1_method_1_code 117 = .ok (.aload_n 0, 1) := by decide +kernel
theorem d_Bp_init_118 : decode prog_1_method_1_code 118 = .ok (.new 66, 3) := by decide +kernel
theorem d_Bp_init_121 : decode prog_1_method_1_code 121 = .ok (.dup, 1) := by decide +kernel
theorem d_Bp_init_122 : decode prog_1_method_1_code 122 = .ok (.aload_n 0, 1) := by decide +kernel
theorem d_Bp_init_123 : decode prog_1_method_1_code 123 = .ok (.getfield 19, 3) := by decide +kernel
theorem d_Bp_init_126 : decode prog_1_method_1_code 126 = .ok (.aload_n 0, 1) := by decide +kernel
theorem d_Bp_init_127 : decode prog_1_method_1_code 127 = .ok (.getfield 35, 3) := by decide +kernel
theorem d_Bp_init_130 : decode prog_1_method_1_code 130 = .ok (.invokespecial 68, 3) := by decide +kernel
theorem d_Bp_init_133 : decode prog_1_method_1_code 133 = .ok (.putfield 71, 3) := by decide +kernel
theorem d_Bp_init_136 : decode prog_1_method_1_code 136 = .ok (.aload_n 0, 1) := by decide +kernel
theorem d_Bp_init_137 : decode prog_1_method_1_code 137 = .ok (.new 75, 3) := by decide +kernel
theorem d_Bp_init_140 : decode prog_1_method_1_code 140 = .ok (.dup, 1) := by decide +kernel
theorem d_Bp_init_141 : decode prog_1_method_1_code 141 = .ok (.aload_n 0, 1) := by decide +kernel
theorem d_Bp_init_142 : decode prog_1_method_1_code 142 = .ok (.getfield 19, 3) := by decide +kernel
theorem d_Bp_init_145 : decode prog_1_method_1_code 145 = .ok (.aload_n 0, 1) := by decide +kernel
theorem d_Bp_init_146 : decode prog_1_method_1_code 146 = .ok (.getfield 28, 3) := by decide +kernel
theorem d_Bp_init_149 : decode prog_1_method_1_code 149 = .ok (.aload_n 0, 1) := by decide +kernel
theorem d_Bp_init_150 : decode prog_1_method_1_code 150 = .ok (.getfield 35, 3) := by decide +kernel
theorem d_Bp_init_153 : decode prog_1_method_1_code 153 = .ok (.invokespecial 77, 3) := by decide +kernel
theorem d_Bp_init_156 : decode prog_1_method_1_code 156 = .ok (.putfield 80, 3) := by decide +kernel
theorem d_Bp_init_159 : decode prog_1_method_1_code 159 = .ok (.aload_n 0, 1) := by decide +kernel
theorem d_Bp_init_160 : decode prog_1_method_1_code 160 = .ok (.new 84, 3) := by decide +kernel
theorem d_Bp_init_163 : decode prog_1_method_1_code 163 = .ok (.dup, 1) := by decide +kernel
theorem d_Bp_init_164 : decode prog_1_method_1_code 164 = .ok (.aload_n 0, 1) := by decide +kernel
theorem d_Bp_init_165 : decode prog_1_method_1_code 165 = .ok (.getfield 19, 3) := by decide +kernel
theorem d_Bp_init_168 : decode prog_1_method_1_code 168 = .ok (.aload_n 0, 1) := by decide +kernel
theorem d_Bp_init_169 : decode prog_1_method_1_code 169 = .ok (.getfield 28, 3) := by decide +kernel
theorem d_Bp_init_172 : decode prog_1_method_1_code 172 = .ok (.invokespecial 86, 3) := by decide +kernel
theorem d_Bp_init_175 : decode prog_1_method_1_code 175 = .ok (.putfield 89, 3) := by decide +kernel
theorem d_Bp_init_178 : decode prog_1_method_1_code 178 = .ok (.aload_n 0, 1) := by decide +kernel
theorem d_Bp_init_179 : decode prog_1_method_1_code 179 = .ok (.bipush 6, 2) := by decide +kernel
theorem d_Bp_init_181 : decode prog_1_method_1_code 181 = .ok (.newarray .int, 2) := by decide +kernel
theorem d_Bp_init_183 : decode prog_1_method_1_code 183 = .ok (.putfield 93, 3) := by decide +kernel
theorem d_Bp_init_186 : decode prog_1_method_1_code 186 = .ok (.aload_n 0, 1) := by decide +kernel
theorem d_Bp_init_187 : decode prog_1_method_1_code 187 = .ok (.iconst 0, 1) := by decide +kernel
theorem d_Bp_init_188 : decode prog_1_method_1_code 188 = .ok (.putfield 97, 3) := by decide +kernel
theorem d_Bp_init_191 : decode prog_1_method_1_code 191 = .ok (.aload_n 0, 1) := by decide +kernel
theorem d_Bp_init_192 : decode prog_1_method_1_code 192 = .ok (.getfield 19, 3) := by decide +kernel
theorem d_Bp_init_195 : decode prog_1_method_1_code 195 = .ok (.invokevirtual 101, 3) := by decide +kernel
theorem d_Bp_init_198 : decode prog_1_method_1_code 198 = .ok (.aload_n 0, 1) := by decide +kernel
theorem d_Bp_init_199 : decode prog_1_method_1_code 199 = .ok (.getfield 28, 3) := by decide +kernel
theorem d_Bp_init_202 : decode prog_1_method_1_code 202 = .ok (.invokevirtual 104, 3) := by decide +kernel
theorem d_Bp_init_205 : decode prog_1_method_1_code 205 = .ok (.return_, 1) := by decide +kernel
abbrev S_Bp_init : Type := Nat × Nat × AM
noncomputable def T_Bp_init_0 (v0R : Nat) (σ : AM) : S_Bp_init ⊕ Option (Unit × AM) :=
  gdT (okO σ v0R 11) <| letT (nw σ 2 13) fun σ2 => letT (aZ σ) fun x4 => gdT (okO σ2 x4 2) <| bndT (M_Rd_init x4 σ2) fun _ σ6 => gdT (okO σ6 v0R 11) <| gdT (okO σ6 x4 2) <| letT (sR σ6 v0R 0 x4) fun σ10 => letT (nw σ10 1 11) fun σ12 => letT (aZ σ10) fun x14 => gdT (okO σ12 x14 1) <| bndT (M_Tw_init x14 σ12) fun _ σ16 => gdT (okO σ16 v0R 11) <| gdT (okO σ16 x14 1) <| letT (sR σ16 v0R 1 x14) fun σ20 => letT (nw σ20 3 13) fun σ22 => letT (aZ σ20) fun x24 => gdT (okO σ22 v0R 11) <| gdT (okO σ22 (aR σ22 v0R 1) 1) <| gdT (okO σ22 x24 3) <| bndT (M_Ls_init x24 (aR σ22 v0R 1) σ22) fun _ σ28 => gdT (okO σ28 v0R 11) <| gdT (okO σ28 x24 3) <| letT (sR σ28 v0R 2 x24) fun σ32 => letT (nw σ32 4 11) fun σ34 => letT (aZ σ32) fun x36 => gdT (okO σ34 x36 4) <| bndT (M_Bk_init x36 σ34) fun _ σ38 => gdT (okO σ38 v0R 11) <| gdT (okO σ38 x36 4) <| letT (sR σ38 v0R 3 x36) fun σ42 => letT (nw σ42 5 10) fun σ44 => letT (aZ σ42) fun x46 => gdT (okO σ44 v0R 11) <| gdT (okO σ44 (aR σ44 v0R 2) 3) <| gdT (okO σ44 (aR σ44 v0R 3) 4) <| gdT (okO σ44 x46 5) <| bndT (M_Rs_init x46 (aR σ44 v0R 2) (aR σ44 v0R 3) σ44) fun _ σ51 => gdT (okO σ51 v0R 11) <| gdT (okO σ51 x46 5) <| letT (sR σ51 v0R 4 x46) fun σ55 => letT (nw σ55 6 19) fun σ57 => letT (aZ σ55) fun x59 => gdT (okO σ57 v0R 11) <| gdT (okO σ57 (aR σ57 v0R 1) 1) <| gdT (okO σ57 (aR σ57 v0R 2) 3) <| gdT (okO σ57 (aR σ57 v0R 3) 4) <| gdT (okO σ57 (aR σ57 v0R 4) 5) <| gdT (okO σ57 x59 6) <| bndT (M_Ch_init x59 (aR σ57 v0R 1) (aR σ57 v0R 2) (aR σ57 v0R 3) (aR σ57 v0R 4) σ57) fun _ σ66 => gdT (okO σ66 v0R 11) <| gdT (okO σ66 x59 6) <| letT (sR σ66 v0R 5 x59) fun σ70 => letT (nw σ70 7 10) fun σ72 => letT (aZ σ70) fun x74 => gdT (okO σ72 v0R 11) <| gdT (okO σ72 (aR σ72 v0R 2) 3) <| gdT (okO σ72 (aR σ72 v0R 4) 5) <| gdT (okO σ72 x74 7) <| bndT (M_Pl_init x74 (aR σ72 v0R 2) (aR σ72 v0R 4) σ72) fun _ σ79 => gdT (okO σ79 v0R 11) <| gdT (okO σ79 x74 7) <| letT (sR σ79 v0R 6 x74) fun σ83 => letT (nw σ83 8 16) fun σ85 => letT (aZ σ83) fun x87 => gdT (okO σ85 v0R 11) <| gdT (okO σ85 (aR σ85 v0R 1) 1) <| gdT (okO σ85 (aR σ85 v0R 3) 4) <| gdT (okO σ85 x87 8) <| bndT (M_Ft_init x87 (aR σ85 v0R 1) (aR σ85 v0R 3) σ85) fun _ σ92 => gdT (okO σ92 v0R 11) <| gdT (okO σ92 x87 8) <| letT (sR σ92 v0R 7 x87) fun σ96 => letT (nw σ96 9 15) fun σ98 => letT (aZ σ96) fun x100 => gdT (okO σ98 v0R 11) <| gdT (okO σ98 (aR σ98 v0R 1) 1) <| gdT (okO σ98 (aR σ98 v0R 2) 3) <| gdT (okO σ98 (aR σ98 v0R 3) 4) <| gdT (okO σ98 x100 9) <| bndT (M_Db_init x100 (aR σ98 v0R 1) (aR σ98 v0R 2) (aR σ98 v0R 3) σ98) fun _ σ106 => gdT (okO σ106 v0R 11) <| gdT (okO σ106 x100 9) <| letT (sR σ106 v0R 8 x100) fun σ110 => letT (nw σ110 10 2) fun σ112 => letT (aZ σ110) fun x114 => gdT (okO σ112 v0R 11) <| gdT (okO σ112 (aR σ112 v0R 1) 1) <| gdT (okO σ112 (aR σ112 v0R 2) 3) <| gdT (okO σ112 x114 10) <| bndT (M_Pw_init x114 (aR σ112 v0R 1) (aR σ112 v0R 2) σ112) fun _ σ119 => gdT (okO σ119 v0R 11) <| gdT (okO σ119 x114 10) <| letT (sR σ119 v0R 9 x114) fun σ123 => letT (nw σ123 101 (6 : Int32).toNatClampNeg) fun σ125 => gdT (okO σ125 v0R 11) <| letT (sR σ125 v0R 10 (aZ σ123)) fun σ128 => letT (sI σ128 v0R 11 (0 : Int32)) fun σ130 => gdT (okO σ130 (aR σ130 v0R 1) 1) <| bndT (M_Tw_priceSets (aR σ130 v0R 1) σ130) fun _ σ134 => gdT (okO σ134 v0R 11) <| gdT (okO σ134 (aR σ134 v0R 2) 3) <| bndT (M_Ls_build (aR σ134 v0R 2) σ134) fun _ σ138 => .inr (some ((), σ138))
noncomputable def F_Bp_init : S_Bp_init → S_Bp_init ⊕ Option (Unit × AM) := fun s => match s.1 with
  | _ => T_Bp_init_0 (s.2.1) (s.2.2)
noncomputable def L_Bp_init_0 (v0R : Nat) (σ : AM) : Option (Unit × AM) := lp F_Bp_init (0, v0R, σ)
set_option maxRecDepth 20000 in
theorem E_Bp_init_0 (v0R : Nat) (σ : AM) : L_Bp_init_0 v0R σ = (gd (okO σ v0R 11) <| letT (nw σ 2 13) fun σ2 => letT (aZ σ) fun x4 => gd (okO σ2 x4 2) <| bnd (M_Rd_init x4 σ2) fun _ σ6 => gd (okO σ6 v0R 11) <| gd (okO σ6 x4 2) <| letT (sR σ6 v0R 0 x4) fun σ10 => letT (nw σ10 1 11) fun σ12 => letT (aZ σ10) fun x14 => gd (okO σ12 x14 1) <| bnd (M_Tw_init x14 σ12) fun _ σ16 => gd (okO σ16 v0R 11) <| gd (okO σ16 x14 1) <| letT (sR σ16 v0R 1 x14) fun σ20 => letT (nw σ20 3 13) fun σ22 => letT (aZ σ20) fun x24 => gd (okO σ22 v0R 11) <| gd (okO σ22 (aR σ22 v0R 1) 1) <| gd (okO σ22 x24 3) <| bnd (M_Ls_init x24 (aR σ22 v0R 1) σ22) fun _ σ28 => gd (okO σ28 v0R 11) <| gd (okO σ28 x24 3) <| letT (sR σ28 v0R 2 x24) fun σ32 => letT (nw σ32 4 11) fun σ34 => letT (aZ σ32) fun x36 => gd (okO σ34 x36 4) <| bnd (M_Bk_init x36 σ34) fun _ σ38 => gd (okO σ38 v0R 11) <| gd (okO σ38 x36 4) <| letT (sR σ38 v0R 3 x36) fun σ42 => letT (nw σ42 5 10) fun σ44 => letT (aZ σ42) fun x46 => gd (okO σ44 v0R 11) <| gd (okO σ44 (aR σ44 v0R 2) 3) <| gd (okO σ44 (aR σ44 v0R 3) 4) <| gd (okO σ44 x46 5) <| bnd (M_Rs_init x46 (aR σ44 v0R 2) (aR σ44 v0R 3) σ44) fun _ σ51 => gd (okO σ51 v0R 11) <| gd (okO σ51 x46 5) <| letT (sR σ51 v0R 4 x46) fun σ55 => letT (nw σ55 6 19) fun σ57 => letT (aZ σ55) fun x59 => gd (okO σ57 v0R 11) <| gd (okO σ57 (aR σ57 v0R 1) 1) <| gd (okO σ57 (aR σ57 v0R 2) 3) <| gd (okO σ57 (aR σ57 v0R 3) 4) <| gd (okO σ57 (aR σ57 v0R 4) 5) <| gd (okO σ57 x59 6) <| bnd (M_Ch_init x59 (aR σ57 v0R 1) (aR σ57 v0R 2) (aR σ57 v0R 3) (aR σ57 v0R 4) σ57) fun _ σ66 => gd (okO σ66 v0R 11) <| gd (okO σ66 x59 6) <| letT (sR σ66 v0R 5 x59) fun σ70 => letT (nw σ70 7 10) fun σ72 => letT (aZ σ70) fun x74 => gd (okO σ72 v0R 11) <| gd (okO σ72 (aR σ72 v0R 2) 3) <| gd (okO σ72 (aR σ72 v0R 4) 5) <| gd (okO σ72 x74 7) <| bnd (M_Pl_init x74 (aR σ72 v0R 2) (aR σ72 v0R 4) σ72) fun _ σ79 => gd (okO σ79 v0R 11) <| gd (okO σ79 x74 7) <| letT (sR σ79 v0R 6 x74) fun σ83 => letT (nw σ83 8 16) fun σ85 => letT (aZ σ83) fun x87 => gd (okO σ85 v0R 11) <| gd (okO σ85 (aR σ85 v0R 1) 1) <| gd (okO σ85 (aR σ85 v0R 3) 4) <| gd (okO σ85 x87 8) <| bnd (M_Ft_init x87 (aR σ85 v0R 1) (aR σ85 v0R 3) σ85) fun _ σ92 => gd (okO σ92 v0R 11) <| gd (okO σ92 x87 8) <| letT (sR σ92 v0R 7 x87) fun σ96 => letT (nw σ96 9 15) fun σ98 => letT (aZ σ96) fun x100 => gd (okO σ98 v0R 11) <| gd (okO σ98 (aR σ98 v0R 1) 1) <| gd (okO σ98 (aR σ98 v0R 2) 3) <| gd (okO σ98 (aR σ98 v0R 3) 4) <| gd (okO σ98 x100 9) <| bnd (M_Db_init x100 (aR σ98 v0R 1) (aR σ98 v0R 2) (aR σ98 v0R 3) σ98) fun _ σ106 => gd (okO σ106 v0R 11) <| gd (okO σ106 x100 9) <| letT (sR σ106 v0R 8 x100) fun σ110 => letT (nw σ110 10 2) fun σ112 => letT (aZ σ110) fun x114 => gd (okO σ112 v0R 11) <| gd (okO σ112 (aR σ112 v0R 1) 1) <| gd (okO σ112 (aR σ112 v0R 2) 3) <| gd (okO σ112 x114 10) <| bnd (M_Pw_init x114 (aR σ112 v0R 1) (aR σ112 v0R 2) σ112) fun _ σ119 => gd (okO σ119 v0R 11) <| gd (okO σ119 x114 10) <| letT (sR σ119 v0R 9 x114) fun σ123 => letT (nw σ123 101 (6 : Int32).toNatClampNeg) fun σ125 => gd (okO σ125 v0R 11) <| letT (sR σ125 v0R 10 (aZ σ123)) fun σ128 => letT (sI σ128 v0R 11 (0 : Int32)) fun σ130 => gd (okO σ130 (aR σ130 v0R 1) 1) <| bnd (M_Tw_priceSets (aR σ130 v0R 1) σ130) fun _ σ134 => gd (okO σ134 v0R 11) <| gd (okO σ134 (aR σ134 v0R 2) 3) <| bnd (M_Ls_build (aR σ134 v0R 2) σ134) fun _ σ138 => (some ((), σ138))) := by
  unfold L_Bp_init_0
  rw [lp_eq]
  show lpK (lp F_Bp_init) (T_Bp_init_0 v0R σ) = _
  unfold T_Bp_init_0
  simp only [lpK_ite, lq_inl, lq_inr, lpK_bnd, lpK_gd, lq_let]
  try rfl
noncomputable def M_Bp_init (v0R : Nat) (σ : AM) : Option (Unit × AM) := mw σ (L_Bp_init_0 v0R σ)
def I_Bp_init (G : GX) (p : Program) (l : Launch) (e : Env) (s : State) (m : MethodId) (args : Array Value) (below : List Frame) (meth : Method) (c : Code) (z0 u0 n : Nat) : Prop :=
  (∀ (v0R : Nat) (σ : AM), VX (QM eV G args s below z0 u0) G p l e s m args below meth c 5 z0 u0 1 (lpn F_Bp_init n (0, v0R, σ)) 0 [(0, .ref v0R)] [] σ)
set_option maxRecDepth 20000 in
theorem s_Bp_init_0 {G : GX} {p : Program} {l : Launch} {e : Env} {s : State} {m : MethodId} {args : Array Value} {below : List Frame} {meth : Method} {c : Code} {z0 u0 n : Nat} (C : Cx G p s m args meth c prog_1_method_1_code 1 "BellPlate" ((none))) (hin : meth.name = "<init>") (IH : I_Bp_init G p l e s m args below meth c z0 u0 n) (v0R : Nat) (σ : AM) : VX (QM eV G args s below z0 u0) G p l e s m args below meth c 5 z0 u0 1 (lpK (lpn F_Bp_init n) (T_Bp_init_0 v0R σ)) 0 [(0, .ref v0R)] [] σ := by
  unfold T_Bp_init_0
  refine x_aload_n C d_Bp_init_0 0 rfl ?_
  refine x_gd (fun h1 => ?_)
  refine x_obj C (okO_iff.mp h1) w152 w153 w154 (by decide) (Nat.le_of_ble_eq_true rfl) d_Bp_init_1 ?_
  refine x_aload_n C d_Bp_init_4 0 rfl ?_
  refine x_new C (ci := 1) rfl j1_ok y1_ok f1_ok w155 w156 w121 d_Bp_init_5 ?_
  refine x_letS (fun σ2 e3 => ?_)
  refine x_letR (fun x4 _ => ?_)
  refine x_dup C d_Bp_init_8 rfl ?_
  refine x_gd (fun h7 => ?_)
  refine x_callIV (As := []) C (c_Rd_init G l x4  σ2) (okO_iff.mp h7) rfl w158 rfl rfl w157 w159 w121 k_Rd_init rfl (by decide) (by decide) rfl (Nat.le_of_ble_eq_true rfl) d_Bp_init_9 (fun r5 σ6 => ?_)
  refine x_gd (fun h8 => ?_)
  refine x_gd (fun h9 => ?_)
  refine x_putRF (k := 0) (kv := 2) C (okO_iff.mp h8) rfl j10_ok y10_ok n10_ok (by decide) rfl (okO_iff.mp h9) (by decide) rfl hin rfl rfl rfl w690 d_Bp_init_12 ?_
  refine x_letS (fun σ10 e11 => ?_)
  refine x_aload_n C d_Bp_init_15 0 rfl ?_
  refine x_new C (ci := 0) rfl j0_ok y0_ok f0_ok w244 w162 w122 d_Bp_init_16 ?_
  refine x_letS (fun σ12 e13 => ?_)
  refine x_letR (fun x14 _ => ?_)
  refine x_dup C d_Bp_init_19 rfl ?_
  refine x_gd (fun h17 => ?_)
  refine x_callIV (As := []) C (c_Tw_init G l x14  σ12) (okO_iff.mp h17) rfl w164 rfl rfl w245 w165 w122 k_Tw_init rfl (by decide) (by decide) rfl (Nat.le_of_ble_eq_true rfl) d_Bp_init_20 (fun r15 σ16 => ?_)
  refine x_gd (fun h18 => ?_)
  refine x_gd (fun h19 => ?_)
  refine x_putRF (k := 1) (kv := 1) C (okO_iff.mp h18) rfl j10_ok y10_ok n10_ok (by decide) rfl (okO_iff.mp h19) (by decide) rfl hin rfl rfl rfl w691 d_Bp_init_23 ?_
  refine x_letS (fun σ20 e21 => ?_)
  refine x_aload_n C d_Bp_init_26 0 rfl ?_
  refine x_new C (ci := 2) rfl j2_ok y2_ok f2_ok w246 w247 w123 d_Bp_init_27 ?_
  refine x_letS (fun σ22 e23 => ?_)
  refine x_letR (fun x24 _ => ?_)
  refine x_dup C d_Bp_init_30 rfl ?_
  refine x_aload_n C d_Bp_init_31 0 rfl ?_
  refine x_gd (fun h25 => ?_)
  refine x_gd (fun h26 => ?_)
  refine x_getR (k := 1) (kv := 1) C (okO_iff.mp h25) rfl j10_ok (by decide) rfl (okO_iff.mp h26) (by decide) w691 d_Bp_init_32 ?_
  refine x_gd (fun h29 => ?_)
  refine x_callIV (As := [.ref (aR σ22 v0R 1)]) C (c_Ls_init G l x24 (aR σ22 v0R 1) σ22) (okO_iff.mp h29) rfl w249 rfl rfl w248 w250 w123 k_Ls_init rfl (by decide) (by decide) rfl (Nat.le_of_ble_eq_true rfl) d_Bp_init_35 (fun r27 σ28 => ?_)
  refine x_gd (fun h30 => ?_)
  refine x_gd (fun h31 => ?_)
  refine x_putRF (k := 2) (kv := 3) C (okO_iff.mp h30) rfl j10_ok y10_ok n10_ok (by decide) rfl (okO_iff.mp h31) (by decide) rfl hin rfl rfl rfl w692 d_Bp_init_38 ?_
  refine x_letS (fun σ32 e33 => ?_)
  refine x_aload_n C d_Bp_init_41 0 rfl ?_
  refine x_new C (ci := 3) rfl j3_ok y3_ok f3_ok w292 w293 w124 d_Bp_init_42 ?_
  refine x_letS (fun σ34 e35 => ?_)
  refine x_letR (fun x36 _ => ?_)
  refine x_dup C d_Bp_init_45 rfl ?_
  refine x_gd (fun h39 => ?_)
  refine x_callIV (As := []) C (c_Bk_init G l x36  σ34) (okO_iff.mp h39) rfl w295 rfl rfl w294 w296 w124 k_Bk_init rfl (by decide) (by decide) rfl (Nat.le_of_ble_eq_true rfl) d_Bp_init_46 (fun r37 σ38 => ?_)
  refine x_gd (fun h40 => ?_)
  refine x_gd (fun h41 => ?_)
  refine x_putRF (k := 3) (kv := 4) C (okO_iff.mp h40) rfl j10_ok y10_ok n10_ok (by decide) rfl (okO_iff.mp h41) (by decide) rfl hin rfl rfl rfl w693 d_Bp_init_49 ?_
  refine x_letS (fun σ42 e43 => ?_)
  refine x_aload_n C d_Bp_init_52 0 rfl ?_
  refine x_new C (ci := 4) rfl j4_ok y4_ok f4_ok w333 w334 w125 d_Bp_init_53 ?_
  refine x_letS (fun σ44 e45 => ?_)
  refine x_letR (fun x46 _ => ?_)
  refine x_dup C d_Bp_init_56 rfl ?_
  refine x_aload_n C d_Bp_init_57 0 rfl ?_
  refine x_gd (fun h47 => ?_)
  refine x_gd (fun h48 => ?_)
  refine x_getR (k := 2) (kv := 3) C (okO_iff.mp h47) rfl j10_ok (by decide) rfl (okO_iff.mp h48) (by decide) w692 d_Bp_init_58 ?_
  refine x_aload_n C d_Bp_init_61 0 rfl ?_
  refine x_gd (fun h49 => ?_)
  refine x_getR (k := 3) (kv := 4) C (okO_iff.mp h47) rfl j10_ok (by decide) rfl (okO_iff.mp h49) (by decide) w693 d_Bp_init_62 ?_
  refine x_gd (fun h52 => ?_)
  refine x_callIV (As := [.ref (aR σ44 v0R 2), .ref (aR σ44 v0R 3)]) C (c_Rs_init G l x46 (aR σ44 v0R 2) (aR σ44 v0R 3) σ44) (okO_iff.mp h52) rfl w336 rfl rfl w335 w337 w125 k_Rs_init rfl (by decide) (by decide) rfl (Nat.le_of_ble_eq_true rfl) d_Bp_init_65 (fun r50 σ51 => ?_)
  refine x_gd (fun h53 => ?_)
  refine x_gd (fun h54 => ?_)
  refine x_putRF (k := 4) (kv := 5) C (okO_iff.mp h53) rfl j10_ok y10_ok n10_ok (by decide) rfl (okO_iff.mp h54) (by decide) rfl hin rfl rfl rfl w694 d_Bp_init_68 ?_
  refine x_letS (fun σ55 e56 => ?_)
  refine x_aload_n C d_Bp_init_71 0 rfl ?_
  refine x_new C (ci := 5) rfl j5_ok y5_ok f5_ok w370 w371 w126 d_Bp_init_72 ?_
  refine x_letS (fun σ57 e58 => ?_)
  refine x_letR (fun x59 _ => ?_)
  refine x_dup C d_Bp_init_75 rfl ?_
  refine x_aload_n C d_Bp_init_76 0 rfl ?_
  refine x_gd (fun h60 => ?_)
  refine x_gd (fun h61 => ?_)
  refine x_getR (k := 1) (kv := 1) C (okO_iff.mp h60) rfl j10_ok (by decide) rfl (okO_iff.mp h61) (by decide) w691 d_Bp_init_77 ?_
  refine x_aload_n C d_Bp_init_80 0 rfl ?_
  refine x_gd (fun h62 => ?_)
  refine x_getR (k := 2) (kv := 3) C (okO_iff.mp h60) rfl j10_ok (by decide) rfl (okO_iff.mp h62) (by decide) w692 d_Bp_init_81 ?_
  refine x_aload_n C d_Bp_init_84 0 rfl ?_
  refine x_gd (fun h63 => ?_)
  refine x_getR (k := 3) (kv := 4) C (okO_iff.mp h60) rfl j10_ok (by decide) rfl (okO_iff.mp h63) (by decide) w693 d_Bp_init_85 ?_
  refine x_aload_n C d_Bp_init_88 0 rfl ?_
  refine x_gd (fun h64 => ?_)
  refine x_getR (k := 4) (kv := 5) C (okO_iff.mp h60) rfl j10_ok (by decide) rfl (okO_iff.mp h64) (by decide) w694 d_Bp_init_89 ?_
  refine x_gd (fun h67 => ?_)
  refine x_callIV (As := [.ref (aR σ57 v0R 1), .ref (aR σ57 v0R 2), .ref (aR σ57 v0R 3), .ref (aR σ57 v0R 4)]) C (c_Ch_init G l x59 (aR σ57 v0R 1) (aR σ57 v0R 2) (aR σ57 v0R 3) (aR σ57 v0R 4) σ57) (okO_iff.mp h67) rfl w373 rfl rfl w372 w374 w126 k_Ch_init rfl (by decide) (by decide) rfl (Nat.le_of_ble_eq_true rfl) d_Bp_init_92 (fun r65 σ66 => ?_)
  refine x_gd (fun h68 => ?_)
  refine x_gd (fun h69 => ?_)
  refine x_putRF (k := 5) (kv := 6) C (okO_iff.mp h68) rfl j10_ok y10_ok n10_ok (by decide) rfl (okO_iff.mp h69) (by decide) rfl hin rfl rfl rfl w695 d_Bp_init_95 ?_
  refine x_letS (fun σ70 e71 => ?_)
  refine x_aload_n C d_Bp_init_98 0 rfl ?_
  refine x_new C (ci := 6) rfl j6_ok y6_ok f6_ok w437 w438 w128 d_Bp_init_99 ?_
  refine x_letS (fun σ72 e73 => ?_)
  refine x_letR (fun x74 _ => ?_)
  refine x_dup C d_Bp_init_102 rfl ?_
  refine x_aload_n C d_Bp_init_103 0 rfl ?_
  refine x_gd (fun h75 => ?_)
  refine x_gd (fun h76 => ?_)
  refine x_getR (k := 2) (kv := 3) C (okO_iff.mp h75) rfl j10_ok (by decide) rfl (okO_iff.mp h76) (by decide) w692 d_Bp_init_104 ?_
  refine x_aload_n C d_Bp_init_107 0 rfl ?_
  refine x_gd (fun h77 => ?_)
  refine x_getR (k := 4) (kv := 5) C (okO_iff.mp h75) rfl j10_ok (by decide) rfl (okO_iff.mp h77) (by decide) w694 d_Bp_init_108 ?_
  refine x_gd (fun h80 => ?_)
  refine x_callIV (As := [.ref (aR σ72 v0R 2), .ref (aR σ72 v0R 4)]) C (c_Pl_init G l x74 (aR σ72 v0R 2) (aR σ72 v0R 4) σ72) (okO_iff.mp h80) rfl w440 rfl rfl w439 w441 w128 k_Pl_init rfl (by decide) (by decide) rfl (Nat.le_of_ble_eq_true rfl) d_Bp_init_111 (fun r78 σ79 => ?_)
  refine x_gd (fun h81 => ?_)
  refine x_gd (fun h82 => ?_)
  refine x_putRF (k := 6) (kv := 7) C (okO_iff.mp h81) rfl j10_ok y10_ok n10_ok (by decide) rfl (okO_iff.mp h82) (by decide) rfl hin rfl rfl rfl w696 d_Bp_init_114 ?_
  refine x_letS (fun σ83 e84 => ?_)
  refine x_aload_n C d_Bp_init_117 0 rfl ?_
  refine x_new C (ci := 7) rfl j7_ok y7_ok f7_ok w475 w476 w129 d_Bp_init_118 ?_
  refine x_letS (fun σ85 e86 => ?_)
  refine x_letR (fun x87 _ => ?_)
  refine x_dup C d_Bp_init_121 rfl ?_
  refine x_aload_n C d_Bp_init_122 0 rfl ?_
  refine x_gd (fun h88 => ?_)
  refine x_gd (fun h89 => ?_)
  refine x_getR (k := 1) (kv := 1) C (okO_iff.mp h88) rfl j10_ok (by decide) rfl (okO_iff.mp h89) (by decide) w691 d_Bp_init_123 ?_
  refine x_aload_n C d_Bp_init_126 0 rfl ?_
  refine x_gd (fun h90 => ?_)
  refine x_getR (k := 3) (kv := 4) C (okO_iff.mp h88) rfl j10_ok (by decide) rfl (okO_iff.mp h90) (by decide) w693 d_Bp_init_127 ?_
  refine x_gd (fun h93 => ?_)
  refine x_callIV (As := [.ref (aR σ85 v0R 1), .ref (aR σ85 v0R 3)]) C (c_Ft_init G l x87 (aR σ85 v0R 1) (aR σ85 v0R 3) σ85) (okO_iff.mp h93) rfl w478 rfl rfl w477 w479 w129 k_Ft_init rfl (by decide) (by decide) rfl (Nat.le_of_ble_eq_true rfl) d_Bp_init_130 (fun r91 σ92 => ?_)
  refine x_gd (fun h94 => ?_)
  refine x_gd (fun h95 => ?_)
  refine x_putRF (k := 7) (kv := 8) C (okO_iff.mp h94) rfl j10_ok y10_ok n10_ok (by decide) rfl (okO_iff.mp h95) (by decide) rfl hin rfl rfl rfl w697 d_Bp_init_133 ?_
  refine x_letS (fun σ96 e97 => ?_)
  refine x_aload_n C d_Bp_init_136 0 rfl ?_
  refine x_new C (ci := 8) rfl j8_ok y8_ok f8_ok w530 w531 w130 d_Bp_init_137 ?_
  refine x_letS (fun σ98 e99 => ?_)
  refine x_letR (fun x100 _ => ?_)
  refine x_dup C d_Bp_init_140 rfl ?_
  refine x_aload_n C d_Bp_init_141 0 rfl ?_
  refine x_gd (fun h101 => ?_)
  refine x_gd (fun h102 => ?_)
  refine x_getR (k := 1) (kv := 1) C (okO_iff.mp h101) rfl j10_ok (by decide) rfl (okO_iff.mp h102) (by decide) w691 d_Bp_init_142 ?_
  refine x_aload_n C d_Bp_init_145 0 rfl ?_
  refine x_gd (fun h103 => ?_)
  refine x_getR (k := 2) (kv := 3) C (okO_iff.mp h101) rfl j10_ok (by decide) rfl (okO_iff.mp h103) (by decide) w692 d_Bp_init_146 ?_
  refine x_aload_n C d_Bp_init_149 0 rfl ?_
  refine x_gd (fun h104 => ?_)
  refine x_getR (k := 3) (kv := 4) C (okO_iff.mp h101) rfl j10_ok (by decide) rfl (okO_iff.mp h104) (by decide) w693 d_Bp_init_150 ?_
  refine x_gd (fun h107 => ?_)
  refine x_callIV (As := [.ref (aR σ98 v0R 1), .ref (aR σ98 v0R 2), .ref (aR σ98 v0R 3)]) C (c_Db_init G l x100 (aR σ98 v0R 1) (aR σ98 v0R 2) (aR σ98 v0R 3) σ98) (okO_iff.mp h107) rfl w533 rfl rfl w532 w534 w130 k_Db_init rfl (by decide) (by decide) rfl (Nat.le_of_ble_eq_true rfl) d_Bp_init_153 (fun r105 σ106 => ?_)
  refine x_gd (fun h108 => ?_)
  refine x_gd (fun h109 => ?_)
  refine x_putRF (k := 8) (kv := 9) C (okO_iff.mp h108) rfl j10_ok y10_ok n10_ok (by decide) rfl (okO_iff.mp h109) (by decide) rfl hin rfl rfl rfl w698 d_Bp_init_156 ?_
  refine x_letS (fun σ110 e111 => ?_)
  refine x_aload_n C d_Bp_init_159 0 rfl ?_
  refine x_new C (ci := 9) rfl j9_ok y9_ok f9_ok w582 w583 w131 d_Bp_init_160 ?_
  refine x_letS (fun σ112 e113 => ?_)
  refine x_letR (fun x114 _ => ?_)
  refine x_dup C d_Bp_init_163 rfl ?_
  refine x_aload_n C d_Bp_init_164 0 rfl ?_
  refine x_gd (fun h115 => ?_)
  refine x_gd (fun h116 => ?_)
  refine x_getR (k := 1) (kv := 1) C (okO_iff.mp h115) rfl j10_ok (by decide) rfl (okO_iff.mp h116) (by decide) w691 d_Bp_init_165 ?_
  refine x_aload_n C d_Bp_init_168 0 rfl ?_
  refine x_gd (fun h117 => ?_)
  refine x_getR (k := 2) (kv := 3) C (okO_iff.mp h115) rfl j10_ok (by decide) rfl (okO_iff.mp h117) (by decide) w692 d_Bp_init_169 ?_
  refine x_gd (fun h120 => ?_)
  refine x_callIV (As := [.ref (aR σ112 v0R 1), .ref (aR σ112 v0R 2)]) C (c_Pw_init G l x114 (aR σ112 v0R 1) (aR σ112 v0R 2) σ112) (okO_iff.mp h120) rfl w585 rfl rfl w584 w586 w131 k_Pw_init rfl (by decide) (by decide) rfl (Nat.le_of_ble_eq_true rfl) d_Bp_init_172 (fun r118 σ119 => ?_)
  refine x_gd (fun h121 => ?_)
  refine x_gd (fun h122 => ?_)
  refine x_putRF (k := 9) (kv := 10) C (okO_iff.mp h121) rfl j10_ok y10_ok n10_ok (by decide) rfl (okO_iff.mp h122) (by decide) rfl hin rfl rfl rfl w699 d_Bp_init_175 ?_
  refine x_letS (fun σ123 e124 => ?_)
  refine x_aload_n C d_Bp_init_178 0 rfl ?_
  refine x_bipush (v := (6 : Int32)) C d_Bp_init_179 (by decide) ?_
  refine x_newaI C w203 (by decide) (by decide) d_Bp_init_181 ?_
  refine x_letS (fun σ125 e126 => ?_)
  refine x_gd (fun h127 => ?_)
  refine x_putRF (k := 10) (kv := 101) C (okO_iff.mp h127) rfl j10_ok y10_ok n10_ok (by decide) rfl (fr_K e126) (by decide) rfl hin rfl rfl rfl w700 d_Bp_init_183 ?_
  refine x_letS (fun σ128 e129 => ?_)
  refine x_aload_n C d_Bp_init_186 0 rfl ?_
  refine x_iconst (v := (0 : Int32)) C d_Bp_init_187 (by decide) ?_
  refine x_putI (k := 11) C (by first | exact (okO_iff.mp h127) | (rw [e129]; exact (okO_iff.mp h127))) rfl j10_ok y10_ok n10_ok (by decide) rfl rfl rfl rfl w701 d_Bp_init_188 ?_
  refine x_letS (fun σ130 e131 => ?_)
  refine x_aload_n C d_Bp_init_191 0 rfl ?_
  refine x_gd (fun h132 => ?_)
  refine x_getR (k := 1) (kv := 1) C (by first | exact (okO_iff.mp h127) | (rw [e131, e129]; exact (okO_iff.mp h127))) rfl j10_ok (by decide) rfl (okO_iff.mp h132) (by decide) w691 d_Bp_init_192 ?_
  refine x_callVV (As := []) C (c_Tw_priceSets G l (aR σ130 v0R 1)  σ130) (okO_iff.mp h132) rfl w596 w597 w595 w598 w122 k_Tw_priceSets rfl (by decide) (by decide) rfl (Nat.le_of_ble_eq_true rfl) d_Bp_init_195 (fun r133 σ134 => ?_)
  refine x_aload_n C d_Bp_init_198 0 rfl ?_
  refine x_gd (fun h135 => ?_)
  refine x_gd (fun h136 => ?_)
  refine x_getR (k := 2) (kv := 3) C (okO_iff.mp h135) rfl j10_ok (by decide) rfl (okO_iff.mp h136) (by decide) w692 d_Bp_init_199 ?_
  refine x_callVV (As := []) C (c_Ls_build G l (aR σ134 v0R 2)  σ134) (okO_iff.mp h136) rfl w626 w627 w625 w628 w123 k_Ls_build rfl (by decide) (by decide) rfl (Nat.le_of_ble_eq_true rfl) d_Bp_init_202 (fun r137 σ138 => ?_)
  exact x_vret C d_Bp_init_205
theorem i_Bp_init {G : GX} {p : Program} {l : Launch} {e : Env} {s : State} {m : MethodId} {args : Array Value} {below : List Frame} {meth : Method} {c : Code} {z0 u0 : Nat} (C : Cx G p s m args meth c prog_1_method_1_code 1 "BellPlate" ((none))) (hin : meth.name = "<init>") (n : Nat) : I_Bp_init G p l e s m args below meth c z0 u0 n := by
  induction n with
  | zero => exact fun _ _ => x_none
  | succ n IH => exact fun v0R σ => s_Bp_init_0 C hin IH v0R σ
theorem c_Bp_init (G : GX) (l : Launch) (v0R : Nat) (σ : AM) : CT eV G l 5 y_Bp_init prog_1_method_1_code 1 (none) [.ref v0R] σ (M_Bp_init v0R σ) := by
  refine ct_of (by decide +kernel) (Nat.le_of_ble_eq_true rfl) (fun p e s m args below meth c C hin => ?_)
  refine x_lve (lv' := [(0, .ref v0R)]) rfl ?_
  intro r σ' h
  obtain ⟨n, hn⟩ := (lp_iff _ _ _).mp h
  exact (i_Bp_init C hin n) v0R σ r σ' hn
/-! BellPlate.feed(JJJ)I -/
abbrev y_Bp_feed : MethodName := ⟨"BellPlate", "feed", "(JJJ)I"⟩
theorem k_Bp_feed : y_Bp_feed.cls ≠ "java/lang/invoke/MethodHandle" ∧ y_Bp_feed.cls ≠ "java/lang/invoke/VarHandle" ∧ (parseMethodDescriptor y_Bp_feed.desc).map (fun d => d.parameters.length) = some 3 := by decide +kernel
theorem d_Bp_feed_0 : decode prog_1_method_2_code 0 = .ok (.aload_n 0, 1) := by decide +kernel
theorem d_Bp_feed_1 : decode prog_1_method_2_code 1 = .ok (.getfield 10, 3) := by decide +kernel
theorem d_Bp_feed_4 : decode prog_1_method_2_code 4 = .ok (.lload_n 1, 1) := by decide +kernel
theorem d_Bp_feed_5 : decode prog_1_method_2_code 5 = .ok (.invokevirtual 107, 3) := by decide +kernel
theorem d_Bp_feed_8 : decode prog_1_method_2_code 8 = .ok (.aload_n 0, 1) := by decide +kernel
theorem d_Bp_feed_9 : decode prog_1_method_2_code 9 = .ok (.getfield 10, 3) := by decide +kernel
theorem d_Bp_feed_12 : decode prog_1_method_2_code 12 = .ok (.lload_n 3, 1) := by decide +kernel
theorem d_Bp_feed_13 : decode prog_1_method_2_code 13 = .ok (.invokevirtual 107, 3) := by decide +kernel
theorem d_Bp_feed_16 : decode prog_1_method_2_code 16 = .ok (.aload_n 0, 1) := by decide +kernel
theorem d_Bp_feed_17 : decode prog_1_method_2_code 17 = .ok (.getfield 10, 3) := by decide +kernel
theorem d_Bp_feed_20 : decode prog_1_method_2_code 20 = .ok (.lload 5, 2) := by decide +kernel
theorem d_Bp_feed_22 : decode prog_1_method_2_code 22 = .ok (.invokevirtual 107, 3) := by decide +kernel
theorem d_Bp_feed_25 : decode prog_1_method_2_code 25 = .ok (.aload_n 0, 1) := by decide +kernel
theorem d_Bp_feed_26 : decode prog_1_method_2_code 26 = .ok (.getfield 10, 3) := by decide +kernel
theorem d_Bp_feed_29 : decode prog_1_method_2_code 29 = .ok (.invokevirtual 111, 3) := by decide +kernel
theorem d_Bp_feed_32 : decode prog_1_method_2_code 32 = .ok (.ireturn, 1) := by decide +kernel
abbrev S_Bp_feed : Type := Nat × Nat × Int64 × Int64 × Int64 × AM
noncomputable def T_Bp_feed_0 (v0R : Nat) (v1J : Int64) (v3J : Int64) (v5J : Int64) (σ : AM) : S_Bp_feed ⊕ Option (Int32 × AM) :=
  gdT (okO σ v0R 11) <| gdT (okO σ (aR σ v0R 0) 2) <| bndT (M_Rd_put (aR σ v0R 0) v1J σ) fun _ σ4 => gdT (okO σ4 v0R 11) <| gdT (okO σ4 (aR σ4 v0R 0) 2) <| bndT (M_Rd_put (aR σ4 v0R 0) v3J σ4) fun _ σ8 => gdT (okO σ8 v0R 11) <| gdT (okO σ8 (aR σ8 v0R 0) 2) <| bndT (M_Rd_put (aR σ8 v0R 0) v5J σ8) fun _ σ12 => gdT (okO σ12 v0R 11) <| gdT (okO σ12 (aR σ12 v0R 0) 2) <| bndT (M_Rd_size (aR σ12 v0R 0) σ12) fun r15 σ16 => .inr (some (r15, σ16))
noncomputable def F_Bp_feed : S_Bp_feed → S_Bp_feed ⊕ Option (Int32 × AM) := fun s => match s.1 with
  | _ => T_Bp_feed_0 (s.2.1) (s.2.2.1) (s.2.2.2.1) (s.2.2.2.2.1) (s.2.2.2.2.2)
noncomputable def L_Bp_feed_0 (v0R : Nat) (v1J : Int64) (v3J : Int64) (v5J : Int64) (σ : AM) : Option (Int32 × AM) := lp F_Bp_feed (0, v0R, v1J, v3J, v5J, σ)
set_option maxRecDepth 20000 in
theorem E_Bp_feed_0 (v0R : Nat) (v1J : Int64) (v3J : Int64) (v5J : Int64) (σ : AM) : L_Bp_feed_0 v0R v1J v3J v5J σ = (gd (okO σ v0R 11) <| gd (okO σ (aR σ v0R 0) 2) <| bnd (M_Rd_put (aR σ v0R 0) v1J σ) fun _ σ4 => gd (okO σ4 v0R 11) <| gd (okO σ4 (aR σ4 v0R 0) 2) <| bnd (M_Rd_put (aR σ4 v0R 0) v3J σ4) fun _ σ8 => gd (okO σ8 v0R 11) <| gd (okO σ8 (aR σ8 v0R 0) 2) <| bnd (M_Rd_put (aR σ8 v0R 0) v5J σ8) fun _ σ12 => gd (okO σ12 v0R 11) <| gd (okO σ12 (aR σ12 v0R 0) 2) <| bnd (M_Rd_size (aR σ12 v0R 0) σ12) fun r15 σ16 => (some (r15, σ16))) := by
  unfold L_Bp_feed_0
  rw [lp_eq]
  show lpK (lp F_Bp_feed) (T_Bp_feed_0 v0R v1J v3J v5J σ) = _
  unfold T_Bp_feed_0
  simp only [lpK_ite, lq_inl, lq_inr, lpK_bnd, lpK_gd, lq_let]
  try rfl
noncomputable def M_Bp_feed (v0R : Nat) (v1J : Int64) (v3J : Int64) (v5J : Int64) (σ : AM) : Option (Int32 × AM) := mw σ (L_Bp_feed_0 v0R v1J v3J v5J σ)
def I_Bp_feed (G : GX) (p : Program) (l : Launch) (e : Env) (s : State) (m : MethodId) (args : Array Value) (below : List Frame) (meth : Method) (c : Code) (z0 u0 n : Nat) : Prop :=
  (∀ (v0R : Nat) (v1J : Int64) (v3J : Int64) (v5J : Int64) (σ : AM), VX (QM eI G args s below z0 u0) G p l e s m args below meth c 1 z0 u0 7 (lpn F_Bp_feed n (0, v0R, v1J, v3J, v5J, σ)) 0 [(0, .ref v0R), (1, .long v1J), (3, .long v3J), (5, .long v5J)] [] σ)
set_option maxRecDepth 20000 in
theorem s_Bp_feed_0 {G : GX} {p : Program} {l : Launch} {e : Env} {s : State} {m : MethodId} {args : Array Value} {below : List Frame} {meth : Method} {c : Code} {z0 u0 n : Nat} (C : Cx G p s m args meth c prog_1_method_2_code 7 "BellPlate" ((some FieldType.int))) (IH : I_Bp_feed G p l e s m args below meth c z0 u0 n) (v0R : Nat) (v1J : Int64) (v3J : Int64) (v5J : Int64) (σ : AM) : VX (QM eI G args s below z0 u0) G p l e s m args below meth c 1 z0 u0 7 (lpK (lpn F_Bp_feed n) (T_Bp_feed_0 v0R v1J v3J v5J σ)) 0 [(0, .ref v0R), (1, .long v1J), (3, .long v3J), (5, .long v5J)] [] σ := by
  unfold T_Bp_feed_0
  refine x_aload_n C d_Bp_feed_0 0 rfl ?_
  refine x_gd (fun h1 => ?_)
  refine x_gd (fun h2 => ?_)
  refine x_getR (k := 0) (kv := 2) C (okO_iff.mp h1) rfl j10_ok (by decide) rfl (okO_iff.mp h2) (by decide) w690 d_Bp_feed_1 ?_
  refine x_lload_n C d_Bp_feed_4 1 rfl ?_
  refine x_callVV (As := [.long v1J]) C (c_Rd_put G l (aR σ v0R 0) v1J σ) (okO_iff.mp h2) rfl w732 w733 w731 w734 w121 k_Rd_put rfl (by decide) (by decide) rfl (Nat.le_of_ble_eq_true rfl) d_Bp_feed_5 (fun r3 σ4 => ?_)
  refine x_aload_n C d_Bp_feed_8 0 rfl ?_
  refine x_gd (fun h5 => ?_)
  refine x_gd (fun h6 => ?_)
  refine x_getR (k := 0) (kv := 2) C (okO_iff.mp h5) rfl j10_ok (by decide) rfl (okO_iff.mp h6) (by decide) w690 d_Bp_feed_9 ?_
  refine x_lload_n C d_Bp_feed_12 2 rfl ?_
  refine x_callVV (As := [.long v3J]) C (c_Rd_put G l (aR σ4 v0R 0) v3J σ4) (okO_iff.mp h6) rfl w732 w733 w731 w734 w121 k_Rd_put rfl (by decide) (by decide) rfl (Nat.le_of_ble_eq_true rfl) d_Bp_feed_13 (fun r7 σ8 => ?_)
  refine x_aload_n C d_Bp_feed_16 0 rfl ?_
  refine x_gd (fun h9 => ?_)
  refine x_gd (fun h10 => ?_)
  refine x_getR (k := 0) (kv := 2) C (okO_iff.mp h9) rfl j10_ok (by decide) rfl (okO_iff.mp h10) (by decide) w690 d_Bp_feed_17 ?_
  refine x_lload C d_Bp_feed_20 3 rfl ?_
  refine x_callVV (As := [.long v5J]) C (c_Rd_put G l (aR σ8 v0R 0) v5J σ8) (okO_iff.mp h10) rfl w732 w733 w731 w734 w121 k_Rd_put rfl (by decide) (by decide) rfl (Nat.le_of_ble_eq_true rfl) d_Bp_feed_22 (fun r11 σ12 => ?_)
  refine x_aload_n C d_Bp_feed_25 0 rfl ?_
  refine x_gd (fun h13 => ?_)
  refine x_gd (fun h14 => ?_)
  refine x_getR (k := 0) (kv := 2) C (okO_iff.mp h13) rfl j10_ok (by decide) rfl (okO_iff.mp h14) (by decide) w690 d_Bp_feed_26 ?_
  refine x_callVI (As := []) C (c_Rd_size G l (aR σ12 v0R 0)  σ12) (okO_iff.mp h14) rfl w737 w738 w736 w739 w121 k_Rd_size rfl (by decide) (by decide) rfl (Nat.le_of_ble_eq_true rfl) d_Bp_feed_29 (fun r15 σ16 => ?_)
  exact x_iret C d_Bp_feed_32
theorem i_Bp_feed {G : GX} {p : Program} {l : Launch} {e : Env} {s : State} {m : MethodId} {args : Array Value} {below : List Frame} {meth : Method} {c : Code} {z0 u0 : Nat} (C : Cx G p s m args meth c prog_1_method_2_code 7 "BellPlate" ((some FieldType.int))) (n : Nat) : I_Bp_feed G p l e s m args below meth c z0 u0 n := by
  induction n with
  | zero => exact fun _ _ _ _ _ => x_none
  | succ n IH => exact fun v0R v1J v3J v5J σ => s_Bp_feed_0 C IH v0R v1J v3J v5J σ
theorem c_Bp_feed (G : GX) (l : Launch) (v0R : Nat) (v1J : Int64) (v3J : Int64) (v5J : Int64) (σ : AM) : CT eI G l 1 y_Bp_feed prog_1_method_2_code 7 ((some FieldType.int)) [.ref v0R, .long v1J, .long v3J, .long v5J] σ (M_Bp_feed v0R v1J v3J v5J σ) := by
  refine ct_of (by decide +kernel) (Nat.le_of_ble_eq_true rfl) (fun p e s m args below meth c C hin => ?_)
  refine x_lve (lv' := [(0, .ref v0R), (1, .long v1J), (3, .long v3J), (5, .long v5J)]) rfl ?_
  intro r σ' h
  obtain ⟨n, hn⟩ := (lp_iff _ _ _).mp h
  exact (i_Bp_feed C n) v0R v1J v3J v5J σ r σ' hn
/-! BellPlate.tower()I -/
abbrev y_Bp_tower : MethodName := ⟨"BellPlate", "tower", "()I"⟩
theorem k_Bp_tower : y_Bp_tower.cls ≠ "java/lang/invoke/MethodHandle" ∧ y_Bp_tower.cls ≠ "java/lang/invoke/VarHandle" ∧ (parseMethodDescriptor y_Bp_tower.desc).map (fun d => d.parameters.length) = some 0 := by decide +kernel
theorem d_Bp_tower_0 : decode prog_1_method_3_code 0 = .ok (.aload_n 0, 1) := by decide +kernel
theorem d_Bp_tower_1 : decode prog_1_method_3_code 1 = .ok (.getfield 10, 3) := by decide +kernel
theorem d_Bp_tower_4 : decode prog_1_method_3_code 4 = .ok (.invokevirtual 115, 3) := by decide +kernel
theorem d_Bp_tower_7 : decode prog_1_method_3_code 7 = .ok (.istore_n 1, 1) := by decide +kernel
theorem d_Bp_tower_8 : decode prog_1_method_3_code 8 = .ok (.iload_n 1, 1) := by decide +kernel
theorem d_Bp_tower_9 : decode prog_1_method_3_code 9 = .ok (.ifCond .ne 36, 3) := by decide +kernel
theorem d_Bp_tower_12 : decode prog_1_method_3_code 12 = .ok (.aload_n 0, 1) := by decide +kernel
theorem d_Bp_tower_13 : decode prog_1_method_3_code 13 = .ok (.getfield 19, 3) := by decide +kernel
theorem d_Bp_tower_16 : decode prog_1_method_3_code 16 = .ok (.aload_n 0, 1) := by decide +kernel
theorem d_Bp_tower_17 : decode prog_1_method_3_code 17 = .ok (.getfield 10, 3) := by decide +kernel
theorem d_Bp_tower_20 : decode prog_1_method_3_code 20 = .ok (.invokevirtual 118, 3) := by decide +kernel
theorem d_Bp_tower_23 : decode prog_1_method_3_code 23 = .ok (.invokevirtual 122, 3) := by decide +kernel
theorem d_Bp_tower_26 : decode prog_1_method_3_code 26 = .ok (.aload_n 0, 1) := by decide +kernel
theorem d_Bp_tower_27 : decode prog_1_method_3_code 27 = .ok (.getfield 28, 3) := by decide +kernel
theorem d_Bp_tower_30 : decode prog_1_method_3_code 30 = .ok (.invokevirtual 104, 3) := by decide +kernel
theorem d_Bp_tower_33 : decode prog_1_method_3_code 33 = .ok (.aload_n 0, 1) := by decide +kernel
theorem d_Bp_tower_34 : decode prog_1_method_3_code 34 = .ok (.getfield 35, 3) := by decide +kernel
theorem d_Bp_tower_37 : decode prog_1_method_3_code 37 = .ok (.invokevirtual 125, 3) := by decide +kernel
theorem d_Bp_tower_40 : decode prog_1_method_3_code 40 = .ok (.aload_n 0, 1) := by decide +kernel
theorem d_Bp_tower_41 : decode prog_1_method_3_code 41 = .ok (.iconst 0, 1) := by decide +kernel
theorem d_Bp_tower_42 : decode prog_1_method_3_code 42 = .ok (.putfield 97, 3) := by decide +kernel
theorem d_Bp_tower_45 : decode prog_1_method_3_code 45 = .ok (.iload_n 1, 1) := by decide +kernel
theorem d_Bp_tower_46 : decode prog_1_method_3_code 46 = .ok (.ireturn, 1) := by decide +kernel
abbrev S_Bp_tower : Type := Nat × Nat × Int32 × AM
noncomputable def T_Bp_tower_0 (v0R : Nat) (σ : AM) : S_Bp_tower ⊕ Option (Int32 × AM) :=
  gdT (okO σ v0R 11) <| gdT (okO σ (aR σ v0R 0) 2) <| bndT (M_Rd_read (aR σ v0R 0) σ) fun r3 σ4 => if r3 = 0 then (gdT (okO σ4 v0R 11) <| gdT (okO σ4 (aR σ4 v0R 1) 1) <| gdT (okO σ4 (aR σ4 v0R 0) 2) <| bndT (M_Rd_draft (aR σ4 v0R 0) σ4) fun r8 σ9 => gdT (okO σ9 (aR σ4 v0R 1) 1) <| bndT (M_Tw_take (aR σ4 v0R 1) r8 σ9) fun _ σ11 => gdT (okO σ11 v0R 11) <| gdT (okO σ11 (aR σ11 v0R 2) 3) <| bndT (M_Ls_build (aR σ11 v0R 2) σ11) fun _ σ16 => gdT (okO σ16 v0R 11) <| gdT (okO σ16 (aR σ16 v0R 3) 4) <| bndT (M_Bk_forget (aR σ16 v0R 3) σ16) fun _ σ20 => gdT (okO σ20 v0R 11) <| letT (sI σ20 v0R 11 (0 : Int32)) fun σ22 => .inl (1, 0, r3, σ22)) else (.inl (1, 0, r3, σ4))
noncomputable def T_Bp_tower_1 (v1I : Int32) (σ : AM) : S_Bp_tower ⊕ Option (Int32 × AM) :=
  .inr (some (v1I, σ))
noncomputable def F_Bp_tower : S_Bp_tower → S_Bp_tower ⊕ Option (Int32 × AM) := fun s => match s.1 with
  | 0 => T_Bp_tower_0 (s.2.1) (s.2.2.2)
  | _ => T_Bp_tower_1 (s.2.2.1) (s.2.2.2)
noncomputable def L_Bp_tower_0 (v0R : Nat) (σ : AM) : Option (Int32 × AM) := lp F_Bp_tower (0, v0R, 0, σ)
noncomputable def L_Bp_tower_1 (v1I : Int32) (σ : AM) : Option (Int32 × AM) := lp F_Bp_tower (1, 0, v1I, σ)
set_option maxRecDepth 20000 in
theorem E_Bp_tower_0 (v0R : Nat) (σ : AM) : L_Bp_tower_0 v0R σ = (gd (okO σ v0R 11) <| gd (okO σ (aR σ v0R 0) 2) <| bnd (M_Rd_read (aR σ v0R 0) σ) fun r3 σ4 => if r3 = 0 then (gd (okO σ4 v0R 11) <| gd (okO σ4 (aR σ4 v0R 1) 1) <| gd (okO σ4 (aR σ4 v0R 0) 2) <| bnd (M_Rd_draft (aR σ4 v0R 0) σ4) fun r8 σ9 => gd (okO σ9 (aR σ4 v0R 1) 1) <| bnd (M_Tw_take (aR σ4 v0R 1) r8 σ9) fun _ σ11 => gd (okO σ11 v0R 11) <| gd (okO σ11 (aR σ11 v0R 2) 3) <| bnd (M_Ls_build (aR σ11 v0R 2) σ11) fun _ σ16 => gd (okO σ16 v0R 11) <| gd (okO σ16 (aR σ16 v0R 3) 4) <| bnd (M_Bk_forget (aR σ16 v0R 3) σ16) fun _ σ20 => gd (okO σ20 v0R 11) <| letT (sI σ20 v0R 11 (0 : Int32)) fun σ22 => L_Bp_tower_1 r3 σ22) else (L_Bp_tower_1 r3 σ4)) := by
  unfold L_Bp_tower_0
  rw [lp_eq]
  show lpK (lp F_Bp_tower) (T_Bp_tower_0 v0R σ) = _
  unfold T_Bp_tower_0
  simp only [lpK_ite, lq_inl, lq_inr, lpK_bnd, lpK_gd, lq_let]
  try rfl
set_option maxRecDepth 20000 in
theorem E_Bp_tower_1 (v1I : Int32) (σ : AM) : L_Bp_tower_1 v1I σ = ((some (v1I, σ))) := by
  unfold L_Bp_tower_1
  rw [lp_eq]
  show lpK (lp F_Bp_tower) (T_Bp_tower_1 v1I σ) = _
  unfold T_Bp_tower_1
  simp only [lpK_ite, lq_inl, lq_inr, lpK_bnd, lpK_gd, lq_let]
  try rfl
noncomputable def M_Bp_tower (v0R : Nat) (σ : AM) : Option (Int32 × AM) := mw σ (L_Bp_tower_0 v0R σ)
def I_Bp_tower (G : GX) (p : Program) (l : Launch) (e : Env) (s : State) (m : MethodId) (args : Array Value) (below : List Frame) (meth : Method) (c : Code) (z0 u0 n : Nat) : Prop :=
  (∀ (v0R : Nat) (σ : AM), VX (QM eI G args s below z0 u0) G p l e s m args below meth c 89 z0 u0 2 (lpn F_Bp_tower n (0, v0R, 0, σ)) 0 [(0, .ref v0R)] [] σ) ∧
  (∀ (v1I : Int32) (σ : AM), VX (QM eI G args s below z0 u0) G p l e s m args below meth c 89 z0 u0 2 (lpn F_Bp_tower n (1, 0, v1I, σ)) 45 [(1, .int v1I)] [] σ)
set_option maxRecDepth 20000 in
theorem s_Bp_tower_0 {G : GX} {p : Program} {l : Launch} {e : Env} {s : State} {m : MethodId} {args : Array Value} {below : List Frame} {meth : Method} {c : Code} {z0 u0 n : Nat} (C : Cx G p s m args meth c prog_1_method_3_code 2 "BellPlate" ((some FieldType.int))) (IH : I_Bp_tower G p l e s m args below meth c z0 u0 n) (v0R : Nat) (σ : AM) : VX (QM eI G args s below z0 u0) G p l e s m args below meth c 89 z0 u0 2 (lpK (lpn F_Bp_tower n) (T_Bp_tower_0 v0R σ)) 0 [(0, .ref v0R)] [] σ := by
  unfold T_Bp_tower_0
  refine x_aload_n C d_Bp_tower_0 0 rfl ?_
  refine x_gd (fun h1 => ?_)
  refine x_gd (fun h2 => ?_)
  refine x_getR (k := 0) (kv := 2) C (okO_iff.mp h1) rfl j10_ok (by decide) rfl (okO_iff.mp h2) (by decide) w690 d_Bp_tower_1 ?_
  refine x_callVI (As := []) C (c_Rd_read G l (aR σ v0R 0)  σ) (okO_iff.mp h2) rfl w745 w746 w744 w747 w121 k_Rd_read rfl (by decide) (by decide) rfl (Nat.le_of_ble_eq_true rfl) d_Bp_tower_4 (fun r3 σ4 => ?_)
  refine x_istore_n (lv' := [(1, .int r3), (0, .ref v0R)]) C d_Bp_tower_7 (by decide) rfl rfl ?_
  refine x_iload_n C d_Bp_tower_8 0 rfl ?_
  refine x_if_ne (tgt := 45) C d_Bp_tower_9 (by decide) (fun _ => ?_) (fun _ => ?_)
  · refine x_aload_n C d_Bp_tower_12 1 rfl ?_
    refine x_gd (fun h5 => ?_)
    refine x_gd (fun h6 => ?_)
    refine x_getR (k := 1) (kv := 1) C (okO_iff.mp h5) rfl j10_ok (by decide) rfl (okO_iff.mp h6) (by decide) w691 d_Bp_tower_13 ?_
    refine x_aload_n C d_Bp_tower_16 1 rfl ?_
    refine x_gd (fun h7 => ?_)
    refine x_getR (k := 0) (kv := 2) C (okO_iff.mp h5) rfl j10_ok (by decide) rfl (okO_iff.mp h7) (by decide) w690 d_Bp_tower_17 ?_
    refine x_callVR (As := []) C (c_Rd_draft G l (aR σ4 v0R 0)  σ4) (okO_iff.mp h7) rfl w957 w958 w956 w959 w121 k_Rd_draft rfl (by decide) (by decide) rfl (Nat.le_of_ble_eq_true rfl) d_Bp_tower_20 (fun r8 σ9 => ?_)
    refine x_gd (fun h12 => ?_)
    refine x_callVV (As := [.ref r8]) C (c_Tw_take G l (aR σ4 v0R 1) r8 σ9) (okO_iff.mp h12) rfl w961 w962 w960 w963 w122 k_Tw_take rfl (by decide) (by decide) rfl (Nat.le_of_ble_eq_true rfl) d_Bp_tower_23 (fun r10 σ11 => ?_)
    refine x_aload_n C d_Bp_tower_26 1 rfl ?_
    refine x_gd (fun h13 => ?_)
    refine x_gd (fun h14 => ?_)
    refine x_getR (k := 2) (kv := 3) C (okO_iff.mp h13) rfl j10_ok (by decide) rfl (okO_iff.mp h14) (by decide) w692 d_Bp_tower_27 ?_
    refine x_callVV (As := []) C (c_Ls_build G l (aR σ11 v0R 2)  σ11) (okO_iff.mp h14) rfl w626 w627 w625 w628 w123 k_Ls_build rfl (by decide) (by decide) rfl (Nat.le_of_ble_eq_true rfl) d_Bp_tower_30 (fun r15 σ16 => ?_)
    refine x_aload_n C d_Bp_tower_33 1 rfl ?_
    refine x_gd (fun h17 => ?_)
    refine x_gd (fun h18 => ?_)
    refine x_getR (k := 3) (kv := 4) C (okO_iff.mp h17) rfl j10_ok (by decide) rfl (okO_iff.mp h18) (by decide) w693 d_Bp_tower_34 ?_
    refine x_callVV (As := []) C (c_Bk_forget G l (aR σ16 v0R 3)  σ16) (okO_iff.mp h18) rfl w969 w970 w968 w971 w124 k_Bk_forget rfl (by decide) (by decide) rfl (Nat.le_of_ble_eq_true rfl) d_Bp_tower_37 (fun r19 σ20 => ?_)
    refine x_aload_n C d_Bp_tower_40 1 rfl ?_
    refine x_iconst (v := (0 : Int32)) C d_Bp_tower_41 (by decide) ?_
    refine x_gd (fun h21 => ?_)
    refine x_putI (k := 11) C (okO_iff.mp h21) rfl j10_ok y10_ok n10_ok (by decide) rfl rfl rfl rfl w701 d_Bp_tower_42 ?_
    refine x_letS (fun σ22 e23 => ?_)
    refine x_lv [0] rfl ?_
    exact IH.2 r3 (σ22)
  · refine x_lv [0] rfl ?_
    exact IH.2 r3 (σ4)
set_option maxRecDepth 20000 in
theorem s_Bp_tower_1 {G : GX} {p : Program} {l : Launch} {e : Env} {s : State} {m : MethodId} {args : Array Value} {below : List Frame} {meth : Method} {c : Code} {z0 u0 n : Nat} (C : Cx G p s m args meth c prog_1_method_3_code 2 "BellPlate" ((some FieldType.int))) (IH : I_Bp_tower G p l e s m args below meth c z0 u0 n) (v1I : Int32) (σ : AM) : VX (QM eI G args s below z0 u0) G p l e s m args below meth c 89 z0 u0 2 (lpK (lpn F_Bp_tower n) (T_Bp_tower_1 v1I σ)) 45 [(1, .int v1I)] [] σ := by
  unfold T_Bp_tower_1
  refine x_iload_n C d_Bp_tower_45 0 rfl ?_
  exact x_iret C d_Bp_tower_46
theorem i_Bp_tower {G : GX} {p : Program} {l : Launch} {e : Env} {s : State} {m : MethodId} {args : Array Value} {below : List Frame} {meth : Method} {c : Code} {z0 u0 : Nat} (C : Cx G p s m args meth c prog_1_method_3_code 2 "BellPlate" ((some FieldType.int))) (n : Nat) : I_Bp_tower G p l e s m args below meth c z0 u0 n := by
  induction n with
  | zero => exact ⟨fun _ _ => x_none, fun _ _ => x_none⟩
  | succ n IH => exact ⟨fun v0R σ => s_Bp_tower_0 C IH v0R σ, fun v1I σ => s_Bp_tower_1 C IH v1I σ⟩
theorem c_Bp_tower (G : GX) (l : Launch) (v0R : Nat) (σ : AM) : CT eI G l 89 y_Bp_tower prog_1_method_3_code 2 ((some FieldType.int)) [.ref v0R] σ (M_Bp_tower v0R σ) := by
  refine ct_of (by decide +kernel) (Nat.le_of_ble_eq_true rfl) (fun p e s m args below meth c C hin => ?_)
  refine x_lve (lv' := [(0, .ref v0R)]) rfl ?_
  intro r σ' h
  obtain ⟨n, hn⟩ := (lp_iff _ _ _).mp h
  exact (i_Bp_tower C n).1 v0R σ r σ' hn
/-! BellPlate.may(I)I -/
abbrev y_Bp_may : MethodName := ⟨"BellPlate", "may", "(I)I"⟩
theorem k_Bp_may : y_Bp_may.cls ≠ "java/lang/invoke/MethodHandle" ∧ y_Bp_may.cls ≠ "java/lang/invoke/VarHandle" ∧ (parseMethodDescriptor y_Bp_may.desc).map (fun d => d.parameters.length) = some 1 := by decide +kernel
theorem d_Bp_may_0 : decode prog_1_method_4_code 0 = .ok (.aload_n 0, 1) := by decide +kernel
theorem d_Bp_may_1 : decode prog_1_method_4_code 1 = .ok (.getfield 19, 3) := by decide +kernel
theorem d_Bp_may_4 : decode prog_1_method_4_code 4 = .ok (.iload_n 1, 1) := by decide +kernel
theorem d_Bp_may_5 : decode prog_1_method_4_code 5 = .ok (.invokevirtual 128, 3) := by decide +kernel
theorem d_Bp_may_8 : decode prog_1_method_4_code 8 = .ok (.ifCond .ne 5, 3) := by decide +kernel
theorem d_Bp_may_11 : decode prog_1_method_4_code 11 = .ok (.iconst (-1), 1) := by decide +kernel
theorem d_Bp_may_12 : decode prog_1_method_4_code 12 = .ok (.ireturn, 1) := by decide +kernel
theorem d_Bp_may_13 : decode prog_1_method_4_code 13 = .ok (.aload_n 0, 1) := by decide +kernel
theorem d_Bp_may_14 : decode prog_1_method_4_code 14 = .ok (.getfield 28, 3) := by decide +kernel
theorem d_Bp_may_17 : decode prog_1_method_4_code 17 = .ok (.iload_n 1, 1) := by decide +kernel
theorem d_Bp_may_18 : decode prog_1_method_4_code 18 = .ok (.invokevirtual 132, 3) := by decide +kernel
theorem d_Bp_may_21 : decode prog_1_method_4_code 21 = .ok (.ifCond .lt 7, 3) := by decide +kernel
theorem d_Bp_may_24 : decode prog_1_method_4_code 24 = .ok (.iconst 1, 1) := by decide +kernel
theorem d_Bp_may_25 : decode prog_1_method_4_code 25 = .ok (.goto 4, 3) := by decide +kernel
theorem d_Bp_may_28 : decode prog_1_method_4_code 28 = .ok (.iconst 0, 1) := by decide +kernel
theorem d_Bp_may_29 : decode prog_1_method_4_code 29 = .ok (.ireturn, 1) := by decide +kernel
abbrev S_Bp_may : Type := Nat × Nat × Int32 × Int32 × AM
noncomputable def T_Bp_may_0 (v0R : Nat) (v1I : Int32) (σ : AM) : S_Bp_may ⊕ Option (Int32 × AM) :=
  gdT (okO σ v0R 11) <| gdT (okO σ (aR σ v0R 1) 1) <| bndT (M_Tw_hasWeights (aR σ v0R 1) v1I σ) fun r3 σ4 => if r3 = 0 then (.inr (some (((-1) : Int32), σ4))) else (gdT (okO σ4 v0R 11) <| gdT (okO σ4 (aR σ4 v0R 2) 3) <| bndT (M_Ls_numberOf (aR σ4 v0R 2) v1I σ4) fun r7 σ8 => if r7 < 0 then (.inl (1, 0, 0, (0 : Int32), σ8)) else (.inl (1, 0, 0, (1 : Int32), σ8)))
noncomputable def T_Bp_may_1 (s0I : Int32) (σ : AM) : S_Bp_may ⊕ Option (Int32 × AM) :=
  .inr (some (s0I, σ))
noncomputable def F_Bp_may : S_Bp_may → S_Bp_may ⊕ Option (Int32 × AM) := fun s => match s.1 with
  | 0 => T_Bp_may_0 (s.2.1) (s.2.2.1) (s.2.2.2.2)
  | _ => T_Bp_may_1 (s.2.2.2.1) (s.2.2.2.2)
noncomputable def L_Bp_may_0 (v0R : Nat) (v1I : Int32) (σ : AM) : Option (Int32 × AM) := lp F_Bp_may (0, v0R, v1I, 0, σ)
noncomputable def L_Bp_may_1 (s0I : Int32) (σ : AM) : Option (Int32 × AM) := lp F_Bp_may (1, 0, 0, s0I, σ)
set_option maxRecDepth 20000 in
theorem E_Bp_may_0 (v0R : Nat) (v1I : Int32) (σ : AM) : L_Bp_may_0 v0R v1I σ = (gd (okO σ v0R 11) <| gd (okO σ (aR σ v0R 1) 1) <| bnd (M_Tw_hasWeights (aR σ v0R 1) v1I σ) fun r3 σ4 => if r3 = 0 then ((some (((-1) : Int32), σ4))) else (gd (okO σ4 v0R 11) <| gd (okO σ4 (aR σ4 v0R 2) 3) <| bnd (M_Ls_numberOf (aR σ4 v0R 2) v1I σ4) fun r7 σ8 => if r7 < 0 then (L_Bp_may_1 ((0 : Int32)) σ8) else (L_Bp_may_1 ((1 : Int32)) σ8))) := by
  unfold L_Bp_may_0
  rw [lp_eq]
  show lpK (lp F_Bp_may) (T_Bp_may_0 v0R v1I σ) = _
  unfold T_Bp_may_0
  simp only [lpK_ite, lq_inl, lq_inr, lpK_bnd, lpK_gd, lq_let]
  try rfl
set_option maxRecDepth 20000 in
theorem E_Bp_may_1 (s0I : Int32) (σ : AM) : L_Bp_may_1 s0I σ = ((some (s0I, σ))) := by
  unfold L_Bp_may_1
  rw [lp_eq]
  show lpK (lp F_Bp_may) (T_Bp_may_1 s0I σ) = _
  unfold T_Bp_may_1
  simp only [lpK_ite, lq_inl, lq_inr, lpK_bnd, lpK_gd, lq_let]
  try rfl
noncomputable def M_Bp_may (v0R : Nat) (v1I : Int32) (σ : AM) : Option (Int32 × AM) := mw σ (L_Bp_may_0 v0R v1I σ)
def I_Bp_may (G : GX) (p : Program) (l : Launch) (e : Env) (s : State) (m : MethodId) (args : Array Value) (below : List Frame) (meth : Method) (c : Code) (z0 u0 n : Nat) : Prop :=
  (∀ (v0R : Nat) (v1I : Int32) (σ : AM), VX (QM eI G args s below z0 u0) G p l e s m args below meth c 2 z0 u0 2 (lpn F_Bp_may n (0, v0R, v1I, 0, σ)) 0 [(0, .ref v0R), (1, .int v1I)] [] σ) ∧
  (∀ (s0I : Int32) (σ : AM), VX (QM eI G args s below z0 u0) G p l e s m args below meth c 2 z0 u0 2 (lpn F_Bp_may n (1, 0, 0, s0I, σ)) 29 [] [.int s0I] σ)
set_option maxRecDepth 20000 in
theorem s_Bp_may_0 {G : GX} {p : Program} {l : Launch} {e : Env} {s : State} {m : MethodId} {args : Array Value} {below : List Frame} {meth : Method} {c : Code} {z0 u0 n : Nat} (C : Cx G p s m args meth c prog_1_method_4_code 2 "BellPlate" ((some FieldType.int))) (IH : I_Bp_may G p l e s m args below meth c z0 u0 n) (v0R : Nat) (v1I : Int32) (σ : AM) : VX (QM eI G args s below z0 u0) G p l e s m args below meth c 2 z0 u0 2 (lpK (lpn F_Bp_may n) (T_Bp_may_0 v0R v1I σ)) 0 [(0, .ref v0R), (1, .int v1I)] [] σ := by
  unfold T_Bp_may_0
  refine x_aload_n C d_Bp_may_0 0 rfl ?_
  refine x_gd (fun h1 => ?_)
  refine x_gd (fun h2 => ?_)
  refine x_getR (k := 1) (kv := 1) C (okO_iff.mp h1) rfl j10_ok (by decide) rfl (okO_iff.mp h2) (by decide) w691 d_Bp_may_1 ?_
  refine x_iload_n C d_Bp_may_4 1 rfl ?_
  refine x_callVI (As := [.int v1I]) C (c_Tw_hasWeights G l (aR σ v0R 1) v1I σ) (okO_iff.mp h2) rfl w978 w979 w977 w980 w122 k_Tw_hasWeights rfl (by decide) (by decide) rfl (Nat.le_of_ble_eq_true rfl) d_Bp_may_5 (fun r3 σ4 => ?_)
  refine x_if_ne (tgt := 13) C d_Bp_may_8 (by decide) (fun _ => ?_) (fun _ => ?_)
  · refine x_iconst (v := ((-1) : Int32)) C d_Bp_may_11 (by decide) ?_
    exact x_iret C d_Bp_may_12
  · refine x_aload_n C d_Bp_may_13 0 rfl ?_
    refine x_gd (fun h5 => ?_)
    refine x_gd (fun h6 => ?_)
    refine x_getR (k := 2) (kv := 3) C (okO_iff.mp h5) rfl j10_ok (by decide) rfl (okO_iff.mp h6) (by decide) w692 d_Bp_may_14 ?_
    refine x_iload_n C d_Bp_may_17 1 rfl ?_
    refine x_callVI (As := [.int v1I]) C (c_Ls_numberOf G l (aR σ4 v0R 2) v1I σ4) (okO_iff.mp h6) rfl w983 w984 w982 w985 w123 k_Ls_numberOf rfl (by decide) (by decide) rfl (Nat.le_of_ble_eq_true rfl) d_Bp_may_18 (fun r7 σ8 => ?_)
    refine x_if_lt (tgt := 28) C d_Bp_may_21 (by decide) (fun _ => ?_) (fun _ => ?_)
    · refine x_iconst (v := (0 : Int32)) C d_Bp_may_28 (by decide) ?_
      refine x_lv [] rfl ?_
      exact IH.2 ((0 : Int32)) (σ8)
    · refine x_iconst (v := (1 : Int32)) C d_Bp_may_24 (by decide) ?_
      refine x_goto (tgt := 29) C d_Bp_may_25 (by decide) ?_
      refine x_lv [] rfl ?_
      exact IH.2 ((1 : Int32)) (σ8)
set_option maxRecDepth 20000 in
theorem s_Bp_may_1 {G : GX} {p : Program} {l : Launch} {e : Env} {s : State} {m : MethodId} {args : Array Value} {below : List Frame} {meth : Method} {c : Code} {z0 u0 n : Nat} (C : Cx G p s m args meth c prog_1_method_4_code 2 "BellPlate" ((some FieldType.int))) (IH : I_Bp_may G p l e s m args below meth c z0 u0 n) (s0I : Int32) (σ : AM) : VX (QM eI G args s below z0 u0) G p l e s m args below meth c 2 z0 u0 2 (lpK (lpn F_Bp_may n) (T_Bp_may_1 s0I σ)) 29 [] [.int s0I] σ := by
  unfold T_Bp_may_1
  exact x_iret C d_Bp_may_29
theorem i_Bp_may {G : GX} {p : Program} {l : Launch} {e : Env} {s : State} {m : MethodId} {args : Array Value} {below : List Frame} {meth : Method} {c : Code} {z0 u0 : Nat} (C : Cx G p s m args meth c prog_1_method_4_code 2 "BellPlate" ((some FieldType.int))) (n : Nat) : I_Bp_may G p l e s m args below meth c z0 u0 n := by
  induction n with
  | zero => exact ⟨fun _ _ _ => x_none, fun _ _ => x_none⟩
  | succ n IH => exact ⟨fun v0R v1I σ => s_Bp_may_0 C IH v0R v1I σ, fun s0I σ => s_Bp_may_1 C IH s0I σ⟩
theorem c_Bp_may (G : GX) (l : Launch) (v0R : Nat) (v1I : Int32) (σ : AM) : CT eI G l 2 y_Bp_may prog_1_method_4_code 2 ((some FieldType.int)) [.ref v0R, .int v1I] σ (M_Bp_may v0R v1I σ) := by
  refine ct_of (by decide +kernel) (Nat.le_of_ble_eq_true rfl) (fun p e s m args below meth c C hin => ?_)
  refine x_lve (lv' := [(0, .ref v0R), (1, .int v1I)]) rfl ?_
  intro r σ' h
  obtain ⟨n, hn⟩ := (lp_iff _ _ _).mp h
  exact (i_Bp_may C n).1 v0R v1I σ r σ' hn
/-! BellPlate.list(I)J -/
abbrev y_Bp_list : MethodName := ⟨"BellPlate", "list", "(I)J"⟩
theorem k_Bp_list : y_Bp_list.cls ≠ "java/lang/invoke/MethodHandle" ∧ y_Bp_list.cls ≠ "java/lang/invoke/VarHandle" ∧ (parseMethodDescriptor y_Bp_list.desc).map (fun d => d.parameters.length) = some 1 := by decide +kernel
theorem d_Bp_list_0 : decode prog_1_method_5_code 0 = .ok (.aload_n 0, 1) := by decide +kernel
theorem d_Bp_list_1 : decode prog_1_method_5_code 1 = .ok (.getfield 19, 3) := by decide +kernel
theorem d_Bp_list_4 : decode prog_1_method_5_code 4 = .ok (.iload_n 1, 1) := by decide +kernel
theorem d_Bp_list_5 : decode prog_1_method_5_code 5 = .ok (.invokevirtual 128, 3) := by decide +kernel
theorem d_Bp_list_8 : decode prog_1_method_5_code 8 = .ok (.ifCond .eq 14, 3) := by decide +kernel
theorem d_Bp_list_11 : decode prog_1_method_5_code 11 = .ok (.aload_n 0, 1) := by decide +kernel
theorem d_Bp_list_12 : decode prog_1_method_5_code 12 = .ok (.getfield 28, 3) := by decide +kernel
theorem d_Bp_list_15 : decode prog_1_method_5_code 15 = .ok (.iload_n 1, 1) := by decide +kernel
theorem d_Bp_list_16 : decode prog_1_method_5_code 16 = .ok (.invokevirtual 136, 3) := by decide +kernel
theorem d_Bp_list_19 : decode prog_1_method_5_code 19 = .ok (.goto 4, 3) := by decide +kernel
theorem d_Bp_list_22 : decode prog_1_method_5_code 22 = .ok (.lconst 0, 1) := by decide +kernel
theorem d_Bp_list_23 : decode prog_1_method_5_code 23 = .ok (.lreturn, 1) := by decide +kernel
abbrev S_Bp_list : Type := Nat × Nat × Int32 × Int64 × AM
noncomputable def T_Bp_list_0 (v0R : Nat) (v1I : Int32) (σ : AM) : S_Bp_list ⊕ Option (Int64 × AM) :=
  gdT (okO σ v0R 11) <| gdT (okO σ (aR σ v0R 1) 1) <| bndT (M_Tw_hasWeights (aR σ v0R 1) v1I σ) fun r3 σ4 => if r3 = 0 then (.inl (1, 0, 0, (0 : Int64), σ4)) else (gdT (okO σ4 v0R 11) <| gdT (okO σ4 (aR σ4 v0R 2) 3) <| bndT (M_Ls_listOf (aR σ4 v0R 2) v1I σ4) fun r7 σ8 => .inl (1, 0, 0, r7, σ8))
noncomputable def T_Bp_list_1 (s0J : Int64) (σ : AM) : S_Bp_list ⊕ Option (Int64 × AM) :=
  .inr (some (s0J, σ))
noncomputable def F_Bp_list : S_Bp_list → S_Bp_list ⊕ Option (Int64 × AM) := fun s => match s.1 with
  | 0 => T_Bp_list_0 (s.2.1) (s.2.2.1) (s.2.2.2.2)
  | _ => T_Bp_list_1 (s.2.2.2.1) (s.2.2.2.2)
noncomputable def L_Bp_list_0 (v0R : Nat) (v1I : Int32) (σ : AM) : Option (Int64 × AM) := lp F_Bp_list (0, v0R, v1I, 0, σ)
noncomputable def L_Bp_list_1 (s0J : Int64) (σ : AM) : Option (Int64 × AM) := lp F_Bp_list (1, 0, 0, s0J, σ)
set_option maxRecDepth 20000 in
theorem E_Bp_list_0 (v0R : Nat) (v1I : Int32) (σ : AM) : L_Bp_list_0 v0R v1I σ = (gd (okO σ v0R 11) <| gd (okO σ (aR σ v0R 1) 1) <| bnd (M_Tw_hasWeights (aR σ v0R 1) v1I σ) fun r3 σ4 => if r3 = 0 then (L_Bp_list_1 ((0 : Int64)) σ4) else (gd (okO σ4 v0R 11) <| gd (okO σ4 (aR σ4 v0R 2) 3) <| bnd (M_Ls_listOf (aR σ4 v0R 2) v1I σ4) fun r7 σ8 => L_Bp_list_1 r7 σ8)) := by
  unfold L_Bp_list_0
  rw [lp_eq]
  show lpK (lp F_Bp_list) (T_Bp_list_0 v0R v1I σ) = _
  unfold T_Bp_list_0
  simp only [lpK_ite, lq_inl, lq_inr, lpK_bnd, lpK_gd, lq_let]
  try rfl
set_option maxRecDepth 20000 in
theorem E_Bp_list_1 (s0J : Int64) (σ : AM) : L_Bp_list_1 s0J σ = ((some (s0J, σ))) := by
  unfold L_Bp_list_1
  rw [lp_eq]
  show lpK (lp F_Bp_list) (T_Bp_list_1 s0J σ) = _
  unfold T_Bp_list_1
  simp only [lpK_ite, lq_inl, lq_inr, lpK_bnd, lpK_gd, lq_let]
  try rfl
noncomputable def M_Bp_list (v0R : Nat) (v1I : Int32) (σ : AM) : Option (Int64 × AM) := mw σ (L_Bp_list_0 v0R v1I σ)
def I_Bp_list (G : GX) (p : Program) (l : Launch) (e : Env) (s : State) (m : MethodId) (args : Array Value) (below : List Frame) (meth : Method) (c : Code) (z0 u0 n : Nat) : Prop :=
  (∀ (v0R : Nat) (v1I : Int32) (σ : AM), VX (QM eJ G args s below z0 u0) G p l e s m args below meth c 4 z0 u0 2 (lpn F_Bp_list n (0, v0R, v1I, 0, σ)) 0 [(0, .ref v0R), (1, .int v1I)] [] σ) ∧
  (∀ (s0J : Int64) (σ : AM), VX (QM eJ G args s below z0 u0) G p l e s m args below meth c 4 z0 u0 2 (lpn F_Bp_list n (1, 0, 0, s0J, σ)) 23 [] [.long s0J] σ)
set_option maxRecDepth 20000 in
theorem s_Bp_list_0 {G : GX} {p : Program} {l : Launch} {e : Env} {s : State} {m : MethodId} {args : Array Value} {below : List Frame} {meth : Method} {c : Code} {z0 u0 n : Nat} (C : Cx G p s m args meth c prog_1_method_5_code 2 "BellPlate" ((some FieldType.long))) (IH : I_Bp_list G p l e s m args below meth c z0 u0 n) (v0R : Nat) (v1I : Int32) (σ : AM) : VX (QM eJ G args s below z0 u0) G p l e s m args below meth c 4 z0 u0 2 (lpK (lpn F_Bp_list n) (T_Bp_list_0 v0R v1I σ)) 0 [(0, .ref v0R), (1, .int v1I)] [] σ := by
  unfold T_Bp_list_0
  refine x_aload_n C d_Bp_list_0 0 rfl ?_
  refine x_gd (fun h1 => ?_)
  refine x_gd (fun h2 => ?_)
  refine x_getR (k := 1) (kv := 1) C (okO_iff.mp h1) rfl j10_ok (by decide) rfl (okO_iff.mp h2) (by decide) w691 d_Bp_list_1 ?_
  refine x_iload_n C d_Bp_list_4 1 rfl ?_
  refine x_callVI (As := [.int v1I]) C (c_Tw_hasWeights G l (aR σ v0R 1) v1I σ) (okO_iff.mp h2) rfl w978 w979 w977 w980 w122 k_Tw_hasWeights rfl (by decide) (by decide) rfl (Nat.le_of_ble_eq_true rfl) d_Bp_list_5 (fun r3 σ4 => ?_)
  refine x_if_eq (tgt := 22) C d_Bp_list_8 (by decide) (fun _ => ?_) (fun _ => ?_)
  · refine x_lconst (v := (0 : Int64)) C d_Bp_list_22 (by decide) ?_
    refine x_lv [] rfl ?_
    exact IH.2 ((0 : Int64)) (σ4)
  · refine x_aload_n C d_Bp_list_11 0 rfl ?_
    refine x_gd (fun h5 => ?_)
    refine x_gd (fun h6 => ?_)
    refine x_getR (k := 2) (kv := 3) C (okO_iff.mp h5) rfl j10_ok (by decide) rfl (okO_iff.mp h6) (by decide) w692 d_Bp_list_12 ?_
    refine x_iload_n C d_Bp_list_15 1 rfl ?_
    refine x_callVJ (As := [.int v1I]) C (c_Ls_listOf G l (aR σ4 v0R 2) v1I σ4) (okO_iff.mp h6) rfl w991 w992 w990 w993 w123 k_Ls_listOf rfl (by decide) (by decide) rfl (Nat.le_of_ble_eq_true rfl) d_Bp_list_16 (fun r7 σ8 => ?_)
    refine x_goto (tgt := 23) C d_Bp_list_19 (by decide) ?_
    refine x_lv [] rfl ?_
    exact IH.2 r7 (σ8)
set_option maxRecDepth 20000 in
theorem s_Bp_list_1 {G : GX} {p : Program} {l : Launch} {e : Env} {s : State} {m : MethodId} {args : Array Value} {below : List Frame} {meth : Method} {c : Code} {z0 u0 n : Nat} (C : Cx G p s m args meth c prog_1_method_5_code 2 "BellPlate" ((some FieldType.long))) (IH : I_Bp_list G p l e s m args below meth c z0 u0 n) (s0J : Int64) (σ : AM) : VX (QM eJ G args s below z0 u0) G p l e s m args below meth c 4 z0 u0 2 (lpK (lpn F_Bp_list n) (T_Bp_list_1 s0J σ)) 23 [] [.long s0J] σ := by
  unfold T_Bp_list_1
  exact x_lret C d_Bp_list_23
theorem i_Bp_list {G : GX} {p : Program} {l : Launch} {e : Env} {s : State} {m : MethodId} {args : Array Value} {below : List Frame} {meth : Method} {c : Code} {z0 u0 : Nat} (C : Cx G p s m args meth c prog_1_method_5_code 2 "BellPlate" ((some FieldType.long))) (n : Nat) : I_Bp_list G p l e s m args below meth c z0 u0 n := by
  induction n with
  | zero => exact ⟨fun _ _ _ => x_none, fun _ _ => x_none⟩
  | succ n IH => exact ⟨fun v0R v1I σ => s_Bp_list_0 C IH v0R v1I σ, fun s0J σ => s_Bp_list_1 C IH s0J σ⟩
theorem c_Bp_list (G : GX) (l : Launch) (v0R : Nat) (v1I : Int32) (σ : AM) : CT eJ G l 4 y_Bp_list prog_1_method_5_code 2 ((some FieldType.long)) [.ref v0R, .int v1I] σ (M_Bp_list v0R v1I σ) := by
  refine ct_of (by decide +kernel) (Nat.le_of_ble_eq_true rfl) (fun p e s m args below meth c C hin => ?_)
  refine x_lve (lv' := [(0, .ref v0R), (1, .int v1I)]) rfl ?_
  intro r σ' h
  obtain ⟨n, hn⟩ := (lp_iff _ _ _).mp h
  exact (i_Bp_list C n).1 v0R v1I σ r σ' hn
/-! BellPlate.cost(I)I -/
abbrev y_Bp_cost : MethodName := ⟨"BellPlate", "cost", "(I)I"⟩
theorem k_Bp_cost : y_Bp_cost.cls ≠ "java/lang/invoke/MethodHandle" ∧ y_Bp_cost.cls ≠ "java/lang/invoke/VarHandle" ∧ (parseMethodDescriptor y_Bp_cost.desc).map (fun d => d.parameters.length) = some 1 := by decide +kernel
theorem d_Bp_cost_0 : decode prog_1_method_6_code 0 = .ok (.aload_n 0, 1) := by decide +kernel
theorem d_Bp_cost_1 : decode prog_1_method_6_code 1 = .ok (.getfield 19, 3) := by decide +kernel
theorem d_Bp_cost_4 : decode prog_1_method_6_code 4 = .ok (.iload_n 1, 1) := by decide +kernel
theorem d_Bp_cost_5 : decode prog_1_method_6_code 5 = .ok (.invokevirtual 140, 3) := by decide +kernel
theorem d_Bp_cost_8 : decode prog_1_method_6_code 8 = .ok (.ifCond .eq 14, 3) := by decide +kernel
theorem d_Bp_cost_11 : decode prog_1_method_6_code 11 = .ok (.aload_n 0, 1) := by decide +kernel
theorem d_Bp_cost_12 : decode prog_1_method_6_code 12 = .ok (.getfield 19, 3) := by decide +kernel
theorem d_Bp_cost_15 : decode prog_1_method_6_code 15 = .ok (.iload_n 1, 1) := by decide +kernel
theorem d_Bp_cost_16 : decode prog_1_method_6_code 16 = .ok (.invokevirtual 143, 3) := by decide +kernel
theorem d_Bp_cost_19 : decode prog_1_method_6_code 19 = .ok (.goto 4, 3) := by decide +kernel
theorem d_Bp_cost_22 : decode prog_1_method_6_code 22 = .ok (.iconst (-1), 1) := by decide +kernel
theorem d_Bp_cost_23 : decode prog_1_method_6_code 23 = .ok (.ireturn, 1) := by decide +kernel
abbrev S_Bp_cost : Type := Nat × Nat × Int32 × Int32 × AM
noncomputable def T_Bp_cost_0 (v0R : Nat) (v1I : Int32) (σ : AM) : S_Bp_cost ⊕ Option (Int32 × AM) :=
  gdT (okO σ v0R 11) <| gdT (okO σ (aR σ v0R 1) 1) <| bndT (M_Tw_hasSet (aR σ v0R 1) v1I σ) fun r3 σ4 => if r3 = 0 then (.inl (1, 0, 0, ((-1) : Int32), σ4)) else (gdT (okO σ4 v0R 11) <| gdT (okO σ4 (aR σ4 v0R 1) 1) <| bndT (M_Tw_costOf (aR σ4 v0R 1) v1I σ4) fun r7 σ8 => .inl (1, 0, 0, r7, σ8))
noncomputable def T_Bp_cost_1 (s0I : Int32) (σ : AM) : S_Bp_cost ⊕ Option (Int32 × AM) :=
  .inr (some (s0I, σ))
noncomputable def F_Bp_cost : S_Bp_cost → S_Bp_cost ⊕ Option (Int32 × AM) := fun s => match s.1 with
  | 0 => T_Bp_cost_0 (s.2.1) (s.2.2.1) (s.2.2.2.2)
  | _ => T_Bp_cost_1 (s.2.2.2.1) (s.2.2.2.2)
noncomputable def L_Bp_cost_0 (v0R : Nat) (v1I : Int32) (σ : AM) : Option (Int32 × AM) := lp F_Bp_cost (0, v0R, v1I, 0, σ)
noncomputable def L_Bp_cost_1 (s0I : Int32) (σ : AM) : Option (Int32 × AM) := lp F_Bp_cost (1, 0, 0, s0I, σ)
set_option maxRecDepth 20000 in
theorem E_Bp_cost_0 (v0R : Nat) (v1I : Int32) (σ : AM) : L_Bp_cost_0 v0R v1I σ = (gd (okO σ v0R 11) <| gd (okO σ (aR σ v0R 1) 1) <| bnd (M_Tw_hasSet (aR σ v0R 1) v1I σ) fun r3 σ4 => if r3 = 0 then (L_Bp_cost_1 (((-1) : Int32)) σ4) else (gd (okO σ4 v0R 11) <| gd (okO σ4 (aR σ4 v0R 1) 1) <| bnd (M_Tw_costOf (aR σ4 v0R 1) v1I σ4) fun r7 σ8 => L_Bp_cost_1 r7 σ8)) := by
  unfold L_Bp_cost_0
  rw [lp_eq]
  show lpK (lp F_Bp_cost) (T_Bp_cost_0 v0R v1I σ) = _
  unfold T_Bp_cost_0
  simp only [lpK_ite, lq_inl, lq_inr, lpK_bnd, lpK_gd, lq_let]
  try rfl
set_option maxRecDepth 20000 in
theorem E_Bp_cost_1 (s0I : Int32) (σ : AM) : L_Bp_cost_1 s0I σ = ((some (s0I, σ))) := by
  unfold L_Bp_cost_1
  rw [lp_eq]
  show lpK (lp F_Bp_cost) (T_Bp_cost_1 s0I σ) = _
  unfold T_Bp_cost_1
  simp only [lpK_ite, lq_inl, lq_inr, lpK_bnd, lpK_gd, lq_let]
  try rfl
noncomputable def M_Bp_cost (v0R : Nat) (v1I : Int32) (σ : AM) : Option (Int32 × AM) := mw σ (L_Bp_cost_0 v0R v1I σ)
def I_Bp_cost (G : GX) (p : Program) (l : Launch) (e : Env) (s : State) (m : MethodId) (args : Array Value) (below : List Frame) (meth : Method) (c : Code) (z0 u0 n : Nat) : Prop :=
  (∀ (v0R : Nat) (v1I : Int32) (σ : AM), VX (QM eI G args s below z0 u0) G p l e s m args below meth c 3 z0 u0 2 (lpn F_Bp_cost n (0, v0R, v1I, 0, σ)) 0 [(0, .ref v0R), (1, .int v1I)] [] σ) ∧
  (∀ (s0I : Int32) (σ : AM), VX (QM eI G args s below z0 u0) G p l e s m args below meth c 3 z0 u0 2 (lpn F_Bp_cost n (1, 0, 0, s0I, σ)) 23 [] [.int s0I] σ)
set_option maxRecDepth 20000 in
theorem s_Bp_cost_0 {G : GX} {p : Program} {l : Launch} {e : Env} {s : State} {m : MethodId} {args : Array Value} {below : List Frame} {meth : Method} {c : Code} {z0 u0 n : Nat} (C : Cx G p s m args meth c prog_1_method_6_code 2 "BellPlate" ((some FieldType.int))) (IH : I_Bp_cost G p l e s m args below meth c z0 u0 n) (v0R : Nat) (v1I : Int32) (σ : AM) : VX (QM eI G args s below z0 u0) G p l e s m args below meth c 3 z0 u0 2 (lpK (lpn F_Bp_cost n) (T_Bp_cost_0 v0R v1I σ)) 0 [(0, .ref v0R), (1, .int v1I)] [] σ := by
  unfold T_Bp_cost_0
  refine x_aload_n C d_Bp_cost_0 0 rfl ?_
  refine x_gd (fun h1 => ?_)
  refine x_gd (fun h2 => ?_)
  refine x_getR (k := 1) (kv := 1) C (okO_iff.mp h1) rfl j10_ok (by decide) rfl (okO_iff.mp h2) (by decide) w691 d_Bp_cost_1 ?_
  refine x_iload_n C d_Bp_cost_4 1 rfl ?_
  refine x_callVI (As := [.int v1I]) C (c_Tw_hasSet G l (aR σ v0R 1) v1I σ) (okO_iff.mp h2) rfl w1005 w1006 w1004 w1007 w122 k_Tw_hasSet rfl (by decide) (by decide) rfl (Nat.le_of_ble_eq_true rfl) d_Bp_cost_5 (fun r3 σ4 => ?_)
  refine x_if_eq (tgt := 22) C d_Bp_cost_8 (by decide) (fun _ => ?_) (fun _ => ?_)
  · refine x_iconst (v := ((-1) : Int32)) C d_Bp_cost_22 (by decide) ?_
    refine x_lv [] rfl ?_
    exact IH.2 (((-1) : Int32)) (σ4)
  · refine x_aload_n C d_Bp_cost_11 0 rfl ?_
    refine x_gd (fun h5 => ?_)
    refine x_gd (fun h6 => ?_)
    refine x_getR (k := 1) (kv := 1) C (okO_iff.mp h5) rfl j10_ok (by decide) rfl (okO_iff.mp h6) (by decide) w691 d_Bp_cost_12 ?_
    refine x_iload_n C d_Bp_cost_15 1 rfl ?_
    refine x_callVI (As := [.int v1I]) C (c_Tw_costOf G l (aR σ4 v0R 1) v1I σ4) (okO_iff.mp h6) rfl w1009 w1010 w1008 w1011 w122 k_Tw_costOf rfl (by decide) (by decide) rfl (Nat.le_of_ble_eq_true rfl) d_Bp_cost_16 (fun r7 σ8 => ?_)
    refine x_goto (tgt := 23) C d_Bp_cost_19 (by decide) ?_
    refine x_lv [] rfl ?_
    exact IH.2 r7 (σ8)
set_option maxRecDepth 20000 in
theorem s_Bp_cost_1 {G : GX} {p : Program} {l : Launch} {e : Env} {s : State} {m : MethodId} {args : Array Value} {below : List Frame} {meth : Method} {c : Code} {z0 u0 n : Nat} (C : Cx G p s m args meth c prog_1_method_6_code 2 "BellPlate" ((some FieldType.int))) (IH : I_Bp_cost G p l e s m args below meth c z0 u0 n) (s0I : Int32) (σ : AM) : VX (QM eI G args s below z0 u0) G p l e s m args below meth c 3 z0 u0 2 (lpK (lpn F_Bp_cost n) (T_Bp_cost_1 s0I σ)) 23 [] [.int s0I] σ := by
  unfold T_Bp_cost_1
  exact x_iret C d_Bp_cost_23
theorem i_Bp_cost {G : GX} {p : Program} {l : Launch} {e : Env} {s : State} {m : MethodId} {args : Array Value} {below : List Frame} {meth : Method} {c : Code} {z0 u0 : Nat} (C : Cx G p s m args meth c prog_1_method_6_code 2 "BellPlate" ((some FieldType.int))) (n : Nat) : I_Bp_cost G p l e s m args below meth c z0 u0 n := by
  induction n with
  | zero => exact ⟨fun _ _ _ => x_none, fun _ _ => x_none⟩
  | succ n IH => exact ⟨fun v0R v1I σ => s_Bp_cost_0 C IH v0R v1I σ, fun s0I σ => s_Bp_cost_1 C IH s0I σ⟩
theorem c_Bp_cost (G : GX) (l : Launch) (v0R : Nat) (v1I : Int32) (σ : AM) : CT eI G l 3 y_Bp_cost prog_1_method_6_code 2 ((some FieldType.int)) [.ref v0R, .int v1I] σ (M_Bp_cost v0R v1I σ) := by
  refine ct_of (by decide +kernel) (Nat.le_of_ble_eq_true rfl) (fun p e s m args below meth c C hin => ?_)
  refine x_lve (lv' := [(0, .ref v0R), (1, .int v1I)]) rfl ?_
  intro r σ' h
  obtain ⟨n, hn⟩ := (lp_iff _ _ _).mp h
  exact (i_Bp_cost C n).1 v0R v1I σ r σ' hn
/-! BellPlate.trial(IZ)I -/
abbrev y_Bp_trial : MethodName := ⟨"BellPlate", "trial", "(IZ)I"⟩
theorem k_Bp_trial : y_Bp_trial.cls ≠ "java/lang/invoke/MethodHandle" ∧ y_Bp_trial.cls ≠ "java/lang/invoke/VarHandle" ∧ (parseMethodDescriptor y_Bp_trial.desc).map (fun d => d.parameters.length) = some 2 := by decide +kernel
theorem d_Bp_trial_0 : decode prog_1_method_7_code 0 = .ok (.aload_n 0, 1) := by decide +kernel
theorem d_Bp_trial_1 : decode prog_1_method_7_code 1 = .ok (.getfield 19, 3) := by decide +kernel
theorem d_Bp_trial_4 : decode prog_1_method_7_code 4 = .ok (.iload_n 1, 1) := by decide +kernel
theorem d_Bp_trial_5 : decode prog_1_method_7_code 5 = .ok (.invokevirtual 140, 3) := by decide +kernel
theorem d_Bp_trial_8 : decode prog_1_method_7_code 8 = .ok (.ifCond .eq 15, 3) := by decide +kernel
theorem d_Bp_trial_11 : decode prog_1_method_7_code 11 = .ok (.aload_n 0, 1) := by decide +kernel
theorem d_Bp_trial_12 : decode prog_1_method_7_code 12 = .ok (.getfield 35, 3) := by decide +kernel
theorem d_Bp_trial_15 : decode prog_1_method_7_code 15 = .ok (.iload_n 1, 1) := by decide +kernel
theorem d_Bp_trial_16 : decode prog_1_method_7_code 16 = .ok (.iload_n 2, 1) := by decide +kernel
theorem d_Bp_trial_17 : decode prog_1_method_7_code 17 = .ok (.invokevirtual 146, 3) := by decide +kernel
theorem d_Bp_trial_20 : decode prog_1_method_7_code 20 = .ok (.goto 4, 3) := by decide +kernel
theorem d_Bp_trial_23 : decode prog_1_method_7_code 23 = .ok (.iconst (-1), 1) := by decide +kernel
theorem d_Bp_trial_24 : decode prog_1_method_7_code 24 = .ok (.ireturn, 1) := by decide +kernel
abbrev S_Bp_trial : Type := Nat × Nat × Int32 × Int32 × Int32 × AM
noncomputable def T_Bp_trial_0 (v0R : Nat) (v1I : Int32) (v2I : Int32) (σ : AM) : S_Bp_trial ⊕ Option (Int32 × AM) :=
  gdT (okO σ v0R 11) <| gdT (okO σ (aR σ v0R 1) 1) <| bndT (M_Tw_hasSet (aR σ v0R 1) v1I σ) fun r3 σ4 => if r3 = 0 then (.inl (1, 0, 0, 0, ((-1) : Int32), σ4)) else (gdT (okO σ4 v0R 11) <| gdT (okO σ4 (aR σ4 v0R 3) 4) <| bndT (M_Bk_addTrial (aR σ4 v0R 3) v1I v2I σ4) fun r7 σ8 => .inl (1, 0, 0, 0, r7, σ8))
noncomputable def T_Bp_trial_1 (s0I : Int32) (σ : AM) : S_Bp_trial ⊕ Option (Int32 × AM) :=
  .inr (some (s0I, σ))
noncomputable def F_Bp_trial : S_Bp_trial → S_Bp_trial ⊕ Option (Int32 × AM) := fun s => match s.1 with
  | 0 => T_Bp_trial_0 (s.2.1) (s.2.2.1) (s.2.2.2.1) (s.2.2.2.2.2)
  | _ => T_Bp_trial_1 (s.2.2.2.2.1) (s.2.2.2.2.2)
noncomputable def L_Bp_trial_0 (v0R : Nat) (v1I : Int32) (v2I : Int32) (σ : AM) : Option (Int32 × AM) := lp F_Bp_trial (0, v0R, v1I, v2I, 0, σ)
noncomputable def L_Bp_trial_1 (s0I : Int32) (σ : AM) : Option (Int32 × AM) := lp F_Bp_trial (1, 0, 0, 0, s0I, σ)
set_option maxRecDepth 20000 in
theorem E_Bp_trial_0 (v0R : Nat) (v1I : Int32) (v2I : Int32) (σ : AM) : L_Bp_trial_0 v0R v1I v2I σ = (gd (okO σ v0R 11) <| gd (okO σ (aR σ v0R 1) 1) <| bnd (M_Tw_hasSet (aR σ v0R 1) v1I σ) fun r3 σ4 => if r3 = 0 then (L_Bp_trial_1 (((-1) : Int32)) σ4) else (gd (okO σ4 v0R 11) <| gd (okO σ4 (aR σ4 v0R 3) 4) <| bnd (M_Bk_addTrial (aR σ4 v0R 3) v1I v2I σ4) fun r7 σ8 => L_Bp_trial_1 r7 σ8)) := by
  unfold L_Bp_trial_0
  rw [lp_eq]
  show lpK (lp F_Bp_trial) (T_Bp_trial_0 v0R v1I v2I σ) = _
  unfold T_Bp_trial_0
  simp only [lpK_ite, lq_inl, lq_inr, lpK_bnd, lpK_gd, lq_let]
  try rfl
set_option maxRecDepth 20000 in
theorem E_Bp_trial_1 (s0I : Int32) (σ : AM) : L_Bp_trial_1 s0I σ = ((some (s0I, σ))) := by
  unfold L_Bp_trial_1
  rw [lp_eq]
  show lpK (lp F_Bp_trial) (T_Bp_trial_1 s0I σ) = _
  unfold T_Bp_trial_1
  simp only [lpK_ite, lq_inl, lq_inr, lpK_bnd, lpK_gd, lq_let]
  try rfl
noncomputable def M_Bp_trial (v0R : Nat) (v1I : Int32) (v2I : Int32) (σ : AM) : Option (Int32 × AM) := mw σ (L_Bp_trial_0 v0R v1I v2I σ)
def I_Bp_trial (G : GX) (p : Program) (l : Launch) (e : Env) (s : State) (m : MethodId) (args : Array Value) (below : List Frame) (meth : Method) (c : Code) (z0 u0 n : Nat) : Prop :=
  (∀ (v0R : Nat) (v1I : Int32) (v2I : Int32) (σ : AM), VX (QM eI G args s below z0 u0) G p l e s m args below meth c 2 z0 u0 3 (lpn F_Bp_trial n (0, v0R, v1I, v2I, 0, σ)) 0 [(0, .ref v0R), (1, .int v1I), (2, .int v2I)] [] σ) ∧
  (∀ (s0I : Int32) (σ : AM), VX (QM eI G args s below z0 u0) G p l e s m args below meth c 2 z0 u0 3 (lpn F_Bp_trial n (1, 0, 0, 0, s0I, σ)) 24 [] [.int s0I] σ)
set_option maxRecDepth 20000 in
theorem s_Bp_trial_0 {G : GX} {p : Program} {l : Launch} {e : Env} {s : State} {m : MethodId} {args : Array Value} {below : List Frame} {meth : Method} {c : Code} {z0 u0 n : Nat} (C : Cx G p s m args meth c prog_1_method_7_code 3 "BellPlate" ((some FieldType.int))) (IH : I_Bp_trial G p l e s m args below meth c z0 u0 n) (v0R : Nat) (v1I : Int32) (v2I : Int32) (σ : AM) : VX (QM eI G args s below z0 u0) G p l e s m args below meth c 2 z0 u0 3 (lpK (lpn F_Bp_trial n) (T_Bp_trial_0 v0R v1I v2I σ)) 0 [(0, .ref v0R), (1, .int v1I), (2, .int v2I)] [] σ := by
  unfold T_Bp_trial_0
  refine x_aload_n C d_Bp_trial_0 0 rfl ?_
  refine x_gd (fun h1 => ?_)
  refine x_gd (fun h2 => ?_)
  refine x_getR (k := 1) (kv := 1) C (okO_iff.mp h1) rfl j10_ok (by decide) rfl (okO_iff.mp h2) (by decide) w691 d_Bp_trial_1 ?_
  refine x_iload_n C d_Bp_trial_4 1 rfl ?_
  refine x_callVI (As := [.int v1I]) C (c_Tw_hasSet G l (aR σ v0R 1) v1I σ) (okO_iff.mp h2) rfl w1005 w1006 w1004 w1007 w122 k_Tw_hasSet rfl (by decide) (by decide) rfl (Nat.le_of_ble_eq_true rfl) d_Bp_trial_5 (fun r3 σ4 => ?_)
  refine x_if_eq (tgt := 23) C d_Bp_trial_8 (by decide) (fun _ => ?_) (fun _ => ?_)
  · refine x_iconst (v := ((-1) : Int32)) C d_Bp_trial_23 (by decide) ?_
    refine x_lv [] rfl ?_
    exact IH.2 (((-1) : Int32)) (σ4)
  · refine x_aload_n C d_Bp_trial_11 0 rfl ?_
    refine x_gd (fun h5 => ?_)
    refine x_gd (fun h6 => ?_)
    refine x_getR (k := 3) (kv := 4) C (okO_iff.mp h5) rfl j10_ok (by decide) rfl (okO_iff.mp h6) (by decide) w693 d_Bp_trial_12 ?_
    refine x_iload_n C d_Bp_trial_15 1 rfl ?_
    refine x_iload_n C d_Bp_trial_16 2 rfl ?_
    refine x_callVI (As := [.int v1I, .int v2I]) C (c_Bk_addTrial G l (aR σ4 v0R 3) v1I v2I σ4) (okO_iff.mp h6) rfl w1018 w1019 w1017 w1020 w124 k_Bk_addTrial rfl (by decide) (by decide) rfl (Nat.le_of_ble_eq_true rfl) d_Bp_trial_17 (fun r7 σ8 => ?_)
    refine x_goto (tgt := 24) C d_Bp_trial_20 (by decide) ?_
    refine x_lv [] rfl ?_
    exact IH.2 r7 (σ8)
set_option maxRecDepth 20000 in
theorem s_Bp_trial_1 {G : GX} {p : Program} {l : Launch} {e : Env} {s : State} {m : MethodId} {args : Array Value} {below : List Frame} {meth : Method} {c : Code} {z0 u0 n : Nat} (C : Cx G p s m args meth c prog_1_method_7_code 3 "BellPlate" ((some FieldType.int))) (IH : I_Bp_trial G p l e s m args below meth c z0 u0 n) (s0I : Int32) (σ : AM) : VX (QM eI G args s below z0 u0) G p l e s m args below meth c 2 z0 u0 3 (lpK (lpn F_Bp_trial n) (T_Bp_trial_1 s0I σ)) 24 [] [.int s0I] σ := by
  unfold T_Bp_trial_1
  exact x_iret C d_Bp_trial_24
theorem i_Bp_trial {G : GX} {p : Program} {l : Launch} {e : Env} {s : State} {m : MethodId} {args : Array Value} {below : List Frame} {meth : Method} {c : Code} {z0 u0 : Nat} (C : Cx G p s m args meth c prog_1_method_7_code 3 "BellPlate" ((some FieldType.int))) (n : Nat) : I_Bp_trial G p l e s m args below meth c z0 u0 n := by
  induction n with
  | zero => exact ⟨fun _ _ _ _ => x_none, fun _ _ => x_none⟩
  | succ n IH => exact ⟨fun v0R v1I v2I σ => s_Bp_trial_0 C IH v0R v1I v2I σ, fun s0I σ => s_Bp_trial_1 C IH s0I σ⟩
theorem c_Bp_trial (G : GX) (l : Launch) (v0R : Nat) (v1I : Int32) (v2I : Int32) (σ : AM) : CT eI G l 2 y_Bp_trial prog_1_method_7_code 3 ((some FieldType.int)) [.ref v0R, .int v1I, .int v2I] σ (M_Bp_trial v0R v1I v2I σ) := by
  refine ct_of (by decide +kernel) (Nat.le_of_ble_eq_true rfl) (fun p e s m args below meth c C hin => ?_)
  refine x_lve (lv' := [(0, .ref v0R), (1, .int v1I), (2, .int v2I)]) rfl ?_
  intro r σ' h
  obtain ⟨n, hn⟩ := (lp_iff _ _ _).mp h
  exact (i_Bp_trial C n).1 v0R v1I v2I σ r σ' hn
/-! BellPlate.hint(II)I -/
abbrev y_Bp_hint : MethodName := ⟨"BellPlate", "hint", "(II)I"⟩
theorem k_Bp_hint : y_Bp_hint.cls ≠ "java/lang/invoke/MethodHandle" ∧ y_Bp_hint.cls ≠ "java/lang/invoke/VarHandle" ∧ (parseMethodDescriptor y_Bp_hint.desc).map (fun d => d.parameters.length) = some 2 := by decide +kernel
theorem d_Bp_hint_0 : decode prog_1_method_8_code 0 = .ok (.iload_n 1, 1) := by decide +kernel
theorem d_Bp_hint_1 : decode prog_1_method_8_code 1 = .ok (.ifCond .lt 24, 3) := by decide +kernel
theorem d_Bp_hint_4 : decode prog_1_method_8_code 4 = .ok (.iload_n 1, 1) := by decide +kernel
theorem d_Bp_hint_5 : decode prog_1_method_8_code 5 = .ok (.aload_n 0, 1) := by decide +kernel
theorem d_Bp_hint_6 : decode prog_1_method_8_code 6 = .ok (.getfield 19, 3) := by decide +kernel
theorem d_Bp_hint_9 : decode prog_1_method_8_code 9 = .ok (.invokevirtual 150, 3) := by decide +kernel
theorem d_Bp_hint_12 : decode prog_1_method_8_code 12 = .ok (.if_icmp .gt 13, 3) := by decide +kernel
theorem d_Bp_hint_15 : decode prog_1_method_8_code 15 = .ok (.iload_n 2, 1) := by decide +kernel
theorem d_Bp_hint_16 : decode prog_1_method_8_code 16 = .ok (.ifCond .lt 9, 3) := by decide +kernel
theorem d_Bp_hint_19 : decode prog_1_method_8_code 19 = .ok (.iload_n 2, 1) := by decide +kernel
theorem d_Bp_hint_20 : decode prog_1_method_8_code 20 = .ok (.bipush 64, 2) := by decide +kernel
theorem d_Bp_hint_22 : decode prog_1_method_8_code 22 = .ok (.if_icmp .le 5, 3) := by decide +kernel
theorem d_Bp_hint_25 : decode prog_1_method_8_code 25 = .ok (.iconst (-1), 1) := by decide +kernel
theorem d_Bp_hint_26 : decode prog_1_method_8_code 26 = .ok (.ireturn, 1) := by decide +kernel
theorem d_Bp_hint_27 : decode prog_1_method_8_code 27 = .ok (.aload_n 0, 1) := by decide +kernel
theorem d_Bp_hint_28 : decode prog_1_method_8_code 28 = .ok (.getfield 35, 3) := by decide +kernel
theorem d_Bp_hint_31 : decode prog_1_method_8_code 31 = .ok (.iload_n 1, 1) := by decide +kernel
theorem d_Bp_hint_32 : decode prog_1_method_8_code 32 = .ok (.iload_n 2, 1) := by decide +kernel
theorem d_Bp_hint_33 : decode prog_1_method_8_code 33 = .ok (.invokevirtual 155, 3) := by decide +kernel
theorem d_Bp_hint_36 : decode prog_1_method_8_code 36 = .ok (.ireturn, 1) := by decide +kernel
abbrev S_Bp_hint : Type := Nat × Nat × Int32 × Int32 × AM
noncomputable def T_Bp_hint_0 (v0R : Nat) (v1I : Int32) (v2I : Int32) (σ : AM) : S_Bp_hint ⊕ Option (Int32 × AM) :=
  if v1I < 0 then (.inl (1, 0, 0, 0, σ)) else (gdT (okO σ v0R 11) <| gdT (okO σ (aR σ v0R 1) 1) <| bndT (M_Tw_things (aR σ v0R 1) σ) fun r3 σ4 => if r3 < v1I then (.inl (1, 0, 0, 0, σ4)) else (if v2I < 0 then (.inl (1, 0, 0, 0, σ4)) else (if (64 : Int32) < v2I then (.inl (1, 0, 0, 0, σ4)) else (gdT (okO σ4 v0R 11) <| gdT (okO σ4 (aR σ4 v0R 3) 4) <| bndT (M_Bk_addHint (aR σ4 v0R 3) v1I v2I σ4) fun r7 σ8 => .inr (some (r7, σ8))))))
noncomputable def T_Bp_hint_1  (σ : AM) : S_Bp_hint ⊕ Option (Int32 × AM) :=
  .inr (some (((-1) : Int32), σ))
noncomputable def F_Bp_hint : S_Bp_hint → S_Bp_hint ⊕ Option (Int32 × AM) := fun s => match s.1 with
  | 0 => T_Bp_hint_0 (s.2.1) (s.2.2.1) (s.2.2.2.1) (s.2.2.2.2)
  | _ => T_Bp_hint_1  (s.2.2.2.2)
noncomputable def L_Bp_hint_0 (v0R : Nat) (v1I : Int32) (v2I : Int32) (σ : AM) : Option (Int32 × AM) := lp F_Bp_hint (0, v0R, v1I, v2I, σ)
noncomputable def L_Bp_hint_1  (σ : AM) : Option (Int32 × AM) := lp F_Bp_hint (1, 0, 0, 0, σ)
set_option maxRecDepth 20000 in
theorem E_Bp_hint_0 (v0R : Nat) (v1I : Int32) (v2I : Int32) (σ : AM) : L_Bp_hint_0 v0R v1I v2I σ = (if v1I < 0 then (L_Bp_hint_1 σ) else (gd (okO σ v0R 11) <| gd (okO σ (aR σ v0R 1) 1) <| bnd (M_Tw_things (aR σ v0R 1) σ) fun r3 σ4 => if r3 < v1I then (L_Bp_hint_1 σ4) else (if v2I < 0 then (L_Bp_hint_1 σ4) else (if (64 : Int32) < v2I then (L_Bp_hint_1 σ4) else (gd (okO σ4 v0R 11) <| gd (okO σ4 (aR σ4 v0R 3) 4) <| bnd (M_Bk_addHint (aR σ4 v0R 3) v1I v2I σ4) fun r7 σ8 => (some (r7, σ8))))))) := by
  unfold L_Bp_hint_0
  rw [lp_eq]
  show lpK (lp F_Bp_hint) (T_Bp_hint_0 v0R v1I v2I σ) = _
  unfold T_Bp_hint_0
  simp only [lpK_ite, lq_inl, lq_inr, lpK_bnd, lpK_gd, lq_let]
  try rfl
set_option maxRecDepth 20000 in
theorem E_Bp_hint_1  (σ : AM) : L_Bp_hint_1  σ = ((some (((-1) : Int32), σ))) := by
  unfold L_Bp_hint_1
  rw [lp_eq]
  show lpK (lp F_Bp_hint) (T_Bp_hint_1  σ) = _
  unfold T_Bp_hint_1
  simp only [lpK_ite, lq_inl, lq_inr, lpK_bnd, lpK_gd, lq_let]
  try rfl
noncomputable def M_Bp_hint (v0R : Nat) (v1I : Int32) (v2I : Int32) (σ : AM) : Option (Int32 × AM) := mw σ (L_Bp_hint_0 v0R v1I v2I σ)
def I_Bp_hint (G : GX) (p : Program) (l : Launch) (e : Env) (s : State) (m : MethodId) (args : Array Value) (below : List Frame) (meth : Method) (c : Code) (z0 u0 n : Nat) : Prop :=
  (∀ (v0R : Nat) (v1I : Int32) (v2I : Int32) (σ : AM), VX (QM eI G args s below z0 u0) G p l e s m args below meth c 1 z0 u0 3 (lpn F_Bp_hint n (0, v0R, v1I, v2I, σ)) 0 [(0, .ref v0R), (1, .int v1I), (2, .int v2I)] [] σ) ∧
  (∀ (σ : AM), VX (QM eI G args s below z0 u0) G p l e s m args below meth c 1 z0 u0 3 (lpn F_Bp_hint n (1, 0, 0, 0, σ)) 25 [] [] σ)
set_option maxRecDepth 20000 in
theorem s_Bp_hint_0 {G : GX} {p : Program} {l : Launch} {e : Env} {s : State} {m : MethodId} {args : Array Value} {below : List Frame} {meth : Method} {c : Code} {z0 u0 n : Nat} (C : Cx G p s m args meth c prog_1_method_8_code 3 "BellPlate" ((some FieldType.int))) (IH : I_Bp_hint G p l e s m args below meth c z0 u0 n) (v0R : Nat) (v1I : Int32) (v2I : Int32) (σ : AM) : VX (QM eI G args s below z0 u0) G p l e s m args below meth c 1 z0 u0 3 (lpK (lpn F_Bp_hint n) (T_Bp_hint_0 v0R v1I v2I σ)) 0 [(0, .ref v0R), (1, .int v1I), (2, .int v2I)] [] σ := by
  unfold T_Bp_hint_0
  refine x_iload_n C d_Bp_hint_0 1 rfl ?_
  refine x_if_lt (tgt := 25) C d_Bp_hint_1 (by decide) (fun _ => ?_) (fun _ => ?_)
  · refine x_lv [] rfl ?_
    exact IH.2  (σ)
  · refine x_iload_n C d_Bp_hint_4 1 rfl ?_
    refine x_aload_n C d_Bp_hint_5 0 rfl ?_
    refine x_gd (fun h1 => ?_)
    refine x_gd (fun h2 => ?_)
    refine x_getR (k := 1) (kv := 1) C (okO_iff.mp h1) rfl j10_ok (by decide) rfl (okO_iff.mp h2) (by decide) w691 d_Bp_hint_6 ?_
    refine x_callVI (As := []) C (c_Tw_things G l (aR σ v0R 1)  σ) (okO_iff.mp h2) rfl w643 w644 w1025 w645 w122 k_Tw_things rfl (by decide) (by decide) rfl (Nat.le_of_ble_eq_true rfl) d_Bp_hint_9 (fun r3 σ4 => ?_)
    refine x_icmp_gt (tgt := 25) C d_Bp_hint_12 (by decide) (fun _ => ?_) (fun _ => ?_)
    · refine x_lv [] rfl ?_
      exact IH.2  (σ4)
    · refine x_iload_n C d_Bp_hint_15 2 rfl ?_
      refine x_if_lt (tgt := 25) C d_Bp_hint_16 (by decide) (fun _ => ?_) (fun _ => ?_)
      · refine x_lv [] rfl ?_
        exact IH.2  (σ4)
      · refine x_iload_n C d_Bp_hint_19 2 rfl ?_
        refine x_bipush (v := (64 : Int32)) C d_Bp_hint_20 (by decide) ?_
        refine x_icmp_le (tgt := 27) C d_Bp_hint_22 (by decide) (fun _ => ?_) (fun _ => ?_)
        · refine x_lv [] rfl ?_
          exact IH.2  (σ4)
        · refine x_aload_n C d_Bp_hint_27 0 rfl ?_
          refine x_gd (fun h5 => ?_)
          refine x_gd (fun h6 => ?_)
          refine x_getR (k := 3) (kv := 4) C (okO_iff.mp h5) rfl j10_ok (by decide) rfl (okO_iff.mp h6) (by decide) w693 d_Bp_hint_28 ?_
          refine x_iload_n C d_Bp_hint_31 1 rfl ?_
          refine x_iload_n C d_Bp_hint_32 2 rfl ?_
          refine x_callVI (As := [.int v1I, .int v2I]) C (c_Bk_addHint G l (aR σ4 v0R 3) v1I v2I σ4) (okO_iff.mp h6) rfl w1027 w1028 w1026 w1029 w124 k_Bk_addHint rfl (by decide) (by decide) rfl (Nat.le_of_ble_eq_true rfl) d_Bp_hint_33 (fun r7 σ8 => ?_)
          exact x_iret C d_Bp_hint_36
set_option maxRecDepth 20000 in
theorem s_Bp_hint_1 {G : GX} {p : Program} {l : Launch} {e : Env} {s : State} {m : MethodId} {args : Array Value} {below : List Frame} {meth : Method} {c : Code} {z0 u0 n : Nat} (C : Cx G p s m args meth c prog_1_method_8_code 3 "BellPlate" ((some FieldType.int))) (IH : I_Bp_hint G p l e s m args below meth c z0 u0 n)  (σ : AM) : VX (QM eI G args s below z0 u0) G p l e s m args below meth c 1 z0 u0 3 (lpK (lpn F_Bp_hint n) (T_Bp_hint_1  σ)) 25 [] [] σ := by
  unfold T_Bp_hint_1
  refine x_iconst (v := ((-1) : Int32)) C d_Bp_hint_25 (by decide) ?_
  exact x_iret C d_Bp_hint_26
theorem i_Bp_hint {G : GX} {p : Program} {l : Launch} {e : Env} {s : State} {m : MethodId} {args : Array Value} {below : List Frame} {meth : Method} {c : Code} {z0 u0 : Nat} (C : Cx G p s m args meth c prog_1_method_8_code 3 "BellPlate" ((some FieldType.int))) (n : Nat) : I_Bp_hint G p l e s m args below meth c z0 u0 n := by
  induction n with
  | zero => exact ⟨fun _ _ _ _ => x_none, fun _ => x_none⟩
  | succ n IH => exact ⟨fun v0R v1I v2I σ => s_Bp_hint_0 C IH v0R v1I v2I σ, fun σ => s_Bp_hint_1 C IH σ⟩
theorem c_Bp_hint (G : GX) (l : Launch) (v0R : Nat) (v1I : Int32) (v2I : Int32) (σ : AM) : CT eI G l 1 y_Bp_hint prog_1_method_8_code 3 ((some FieldType.int)) [.ref v0R, .int v1I, .int v2I] σ (M_Bp_hint v0R v1I v2I σ) := by
  refine ct_of (by decide +kernel) (Nat.le_of_ble_eq_true rfl) (fun p e s m args below meth c C hin => ?_)
  refine x_lve (lv' := [(0, .ref v0R), (1, .int v1I), (2, .int v2I)]) rfl ?_
  intro r σ' h
  obtain ⟨n, hn⟩ := (lp_iff _ _ _).mp h
  exact (i_Bp_hint C n).1 v0R v1I v2I σ r σ' hn
/-! BellPlate.left(I)I -/
abbrev y_Bp_left : MethodName := ⟨"BellPlate", "left", "(I)I"⟩
theorem k_Bp_left : y_Bp_left.cls ≠ "java/lang/invoke/MethodHandle" ∧ y_Bp_left.cls ≠ "java/lang/invoke/VarHandle" ∧ (parseMethodDescriptor y_Bp_left.desc).map (fun d => d.parameters.length) = some 1 := by decide +kernel
theorem d_Bp_left_0 : decode prog_1_method_9_code 0 = .ok (.aload_n 0, 1) := by decide +kernel
theorem d_Bp_left_1 : decode prog_1_method_9_code 1 = .ok (.getfield 44, 3) := by decide +kernel
theorem d_Bp_left_4 : decode prog_1_method_9_code 4 = .ok (.invokevirtual 159, 3) := by decide +kernel
theorem d_Bp_left_7 : decode prog_1_method_9_code 7 = .ok (.iload_n 1, 1) := by decide +kernel
theorem d_Bp_left_8 : decode prog_1_method_9_code 8 = .ok (.tableswitch 52 0 2 #[28, 36, 44], 28) := by decide +kernel
theorem d_Bp_left_36 : decode prog_1_method_9_code 36 = .ok (.aload_n 0, 1) := by decide +kernel
theorem d_Bp_left_37 : decode prog_1_method_9_code 37 = .ok (.getfield 44, 3) := by decide +kernel
theorem d_Bp_left_40 : decode prog_1_method_9_code 40 = .ok (.invokevirtual 162, 3) := by decide +kernel
theorem d_Bp_left_43 : decode prog_1_method_9_code 43 = .ok (.ireturn, 1) := by decide +kernel
theorem d_Bp_left_44 : decode prog_1_method_9_code 44 = .ok (.aload_n 0, 1) := by decide +kernel
theorem d_Bp_left_45 : decode prog_1_method_9_code 45 = .ok (.getfield 44, 3) := by decide +kernel
theorem d_Bp_left_48 : decode prog_1_method_9_code 48 = .ok (.invokevirtual 165, 3) := by decide +kernel
theorem d_Bp_left_51 : decode prog_1_method_9_code 51 = .ok (.ireturn, 1) := by decide +kernel
theorem d_Bp_left_52 : decode prog_1_method_9_code 52 = .ok (.aload_n 0, 1) := by decide +kernel
theorem d_Bp_left_53 : decode prog_1_method_9_code 53 = .ok (.getfield 44, 3) := by decide +kernel
theorem d_Bp_left_56 : decode prog_1_method_9_code 56 = .ok (.invokevirtual 166, 3) := by decide +kernel
theorem d_Bp_left_59 : decode prog_1_method_9_code 59 = .ok (.ireturn, 1) := by decide +kernel
theorem d_Bp_left_60 : decode prog_1_method_9_code 60 = .ok (.iconst (-1), 1) := by decide +kernel
theorem d_Bp_left_61 : decode prog_1_method_9_code 61 = .ok (.ireturn, 1) := by decide +kernel
abbrev S_Bp_left : Type := Nat × Nat × Int32 × AM
noncomputable def T_Bp_left_0 (v0R : Nat) (v1I : Int32) (σ : AM) : S_Bp_left ⊕ Option (Int32 × AM) :=
  gdT (okO σ v0R 11) <| gdT (okO σ (aR σ v0R 4) 5) <| bndT (M_Rs_refresh (aR σ v0R 4) σ) fun _ σ4 => if v1I = (0 : Int32) then (gdT (okO σ4 v0R 11) <| gdT (okO σ4 (aR σ4 v0R 4) 5) <| bndT (M_Rs_weights (aR σ4 v0R 4) σ4) fun r8 σ9 => .inr (some (r8, σ9))) else (if v1I = (1 : Int32) then (gdT (okO σ4 v0R 11) <| gdT (okO σ4 (aR σ4 v0R 4) 5) <| bndT (M_Rs_size (aR σ4 v0R 4) σ4) fun r13 σ14 => .inr (some (r13, σ14))) else (if v1I = (2 : Int32) then (gdT (okO σ4 v0R 11) <| gdT (okO σ4 (aR σ4 v0R 4) 5) <| bndT (M_Rs_leastWeights (aR σ4 v0R 4) σ4) fun r18 σ19 => .inr (some (r18, σ19))) else (.inr (some (((-1) : Int32), σ4)))))
noncomputable def F_Bp_left : S_Bp_left → S_Bp_left ⊕ Option (Int32 × AM) := fun s => match s.1 with
  | _ => T_Bp_left_0 (s.2.1) (s.2.2.1) (s.2.2.2)
noncomputable def L_Bp_left_0 (v0R : Nat) (v1I : Int32) (σ : AM) : Option (Int32 × AM) := lp F_Bp_left (0, v0R, v1I, σ)
set_option maxRecDepth 20000 in
theorem E_Bp_left_0 (v0R : Nat) (v1I : Int32) (σ : AM) : L_Bp_left_0 v0R v1I σ = (gd (okO σ v0R 11) <| gd (okO σ (aR σ v0R 4) 5) <| bnd (M_Rs_refresh (aR σ v0R 4) σ) fun _ σ4 => if v1I = (0 : Int32) then (gd (okO σ4 v0R 11) <| gd (okO σ4 (aR σ4 v0R 4) 5) <| bnd (M_Rs_weights (aR σ4 v0R 4) σ4) fun r8 σ9 => (some (r8, σ9))) else (if v1I = (1 : Int32) then (gd (okO σ4 v0R 11) <| gd (okO σ4 (aR σ4 v0R 4) 5) <| bnd (M_Rs_size (aR σ4 v0R 4) σ4) fun r13 σ14 => (some (r13, σ14))) else (if v1I = (2 : Int32) then (gd (okO σ4 v0R 11) <| gd (okO σ4 (aR σ4 v0R 4) 5) <| bnd (M_Rs_leastWeights (aR σ4 v0R 4) σ4) fun r18 σ19 => (some (r18, σ19))) else ((some (((-1) : Int32), σ4)))))) := by
  unfold L_Bp_left_0
  rw [lp_eq]
  show lpK (lp F_Bp_left) (T_Bp_left_0 v0R v1I σ) = _
  unfold T_Bp_left_0
  simp only [lpK_ite, lq_inl, lq_inr, lpK_bnd, lpK_gd, lq_let]
  try rfl
noncomputable def M_Bp_left (v0R : Nat) (v1I : Int32) (σ : AM) : Option (Int32 × AM) := mw σ (L_Bp_left_0 v0R v1I σ)
def I_Bp_left (G : GX) (p : Program) (l : Launch) (e : Env) (s : State) (m : MethodId) (args : Array Value) (below : List Frame) (meth : Method) (c : Code) (z0 u0 n : Nat) : Prop :=
  (∀ (v0R : Nat) (v1I : Int32) (σ : AM), VX (QM eI G args s below z0 u0) G p l e s m args below meth c 3 z0 u0 2 (lpn F_Bp_left n (0, v0R, v1I, σ)) 0 [(0, .ref v0R), (1, .int v1I)] [] σ)
set_option maxRecDepth 20000 in
theorem s_Bp_left_0 {G : GX} {p : Program} {l : Launch} {e : Env} {s : State} {m : MethodId} {args : Array Value} {below : List Frame} {meth : Method} {c : Code} {z0 u0 n : Nat} (C : Cx G p s m args meth c prog_1_method_9_code 2 "BellPlate" ((some FieldType.int))) (IH : I_Bp_left G p l e s m args below meth c z0 u0 n) (v0R : Nat) (v1I : Int32) (σ : AM) : VX (QM eI G args s below z0 u0) G p l e s m args below meth c 3 z0 u0 2 (lpK (lpn F_Bp_left n) (T_Bp_left_0 v0R v1I σ)) 0 [(0, .ref v0R), (1, .int v1I)] [] σ := by
  unfold T_Bp_left_0
  refine x_aload_n C d_Bp_left_0 0 rfl ?_
  refine x_gd (fun h1 => ?_)
  refine x_gd (fun h2 => ?_)
  refine x_getR (k := 4) (kv := 5) C (okO_iff.mp h1) rfl j10_ok (by decide) rfl (okO_iff.mp h2) (by decide) w694 d_Bp_left_1 ?_
  refine x_callVV (As := []) C (c_Rs_refresh G l (aR σ v0R 4)  σ) (okO_iff.mp h2) rfl w1035 w1036 w1034 w1037 w125 k_Rs_refresh rfl (by decide) (by decide) rfl (Nat.le_of_ble_eq_true rfl) d_Bp_left_4 (fun r3 σ4 => ?_)
  refine x_iload_n C d_Bp_left_7 1 rfl ?_
  refine x_split (fun h5 => ?_) (fun h5 => ?_)
  · refine x_tabI (tgt := 36) C h5 d_Bp_left_8 (by decide) (by decide) rfl (by decide) ?_
    refine x_aload_n C d_Bp_left_36 0 rfl ?_
    refine x_gd (fun h6 => ?_)
    refine x_gd (fun h7 => ?_)
    refine x_getR (k := 4) (kv := 5) C (okO_iff.mp h6) rfl j10_ok (by decide) rfl (okO_iff.mp h7) (by decide) w694 d_Bp_left_37 ?_
    refine x_callVI (As := []) C (c_Rs_weights G l (aR σ4 v0R 4)  σ4) (okO_iff.mp h7) rfl w1080 w1081 w1079 w1082 w125 k_Rs_weights rfl (by decide) (by decide) rfl (Nat.le_of_ble_eq_true rfl) d_Bp_left_40 (fun r8 σ9 => ?_)
    exact x_iret C d_Bp_left_43
  · refine x_split (fun h10 => ?_) (fun h10 => ?_)
    · refine x_tabI (tgt := 44) C h10 d_Bp_left_8 (by decide) (by decide) rfl (by decide) ?_
      refine x_aload_n C d_Bp_left_44 0 rfl ?_
      refine x_gd (fun h11 => ?_)
      refine x_gd (fun h12 => ?_)
      refine x_getR (k := 4) (kv := 5) C (okO_iff.mp h11) rfl j10_ok (by decide) rfl (okO_iff.mp h12) (by decide) w694 d_Bp_left_45 ?_
      refine x_callVI (As := []) C (c_Rs_size G l (aR σ4 v0R 4)  σ4) (okO_iff.mp h12) rfl w1084 w1085 w1083 w1086 w125 k_Rs_size rfl (by decide) (by decide) rfl (Nat.le_of_ble_eq_true rfl) d_Bp_left_48 (fun r13 σ14 => ?_)
      exact x_iret C d_Bp_left_51
    · refine x_split (fun h15 => ?_) (fun h15 => ?_)
      · refine x_tabI (tgt := 52) C h15 d_Bp_left_8 (by decide) (by decide) rfl (by decide) ?_
        refine x_aload_n C d_Bp_left_52 0 rfl ?_
        refine x_gd (fun h16 => ?_)
        refine x_gd (fun h17 => ?_)
        refine x_getR (k := 4) (kv := 5) C (okO_iff.mp h16) rfl j10_ok (by decide) rfl (okO_iff.mp h17) (by decide) w694 d_Bp_left_53 ?_
        refine x_callVI (As := []) C (c_Rs_leastWeights G l (aR σ4 v0R 4)  σ4) (okO_iff.mp h17) rfl w1088 w1089 w1087 w1090 w125 k_Rs_leastWeights rfl (by decide) (by decide) rfl (Nat.le_of_ble_eq_true rfl) d_Bp_left_56 (fun r18 σ19 => ?_)
        exact x_iret C d_Bp_left_59
      · refine x_tabO (tgt := 60) C d_Bp_left_8 (by have e0 := lv_neT h5 (a := 0) (by decide); have e1 := lv_neT h10 (a := 1) (by decide); have e2 := lv_neT h15 (a := 2) (by decide); omega) (by decide) ?_
        refine x_iconst (v := ((-1) : Int32)) C d_Bp_left_60 (by decide) ?_
        exact x_iret C d_Bp_left_61
theorem i_Bp_left {G : GX} {p : Program} {l : Launch} {e : Env} {s : State} {m : MethodId} {args : Array Value} {below : List Frame} {meth : Method} {c : Code} {z0 u0 : Nat} (C : Cx G p s m args meth c prog_1_method_9_code 2 "BellPlate" ((some FieldType.int))) (n : Nat) : I_Bp_left G p l e s m args below meth c z0 u0 n := by
  induction n with
  | zero => exact fun _ _ _ => x_none
  | succ n IH => exact fun v0R v1I σ => s_Bp_left_0 C IH v0R v1I σ
theorem c_Bp_left (G : GX) (l : Launch) (v0R : Nat) (v1I : Int32) (σ : AM) : CT eI G l 3 y_Bp_left prog_1_method_9_code 2 ((some FieldType.int)) [.ref v0R, .int v1I] σ (M_Bp_left v0R v1I σ) := by
  refine ct_of (by decide +kernel) (Nat.le_of_ble_eq_true rfl) (fun p e s m args below meth c C hin => ?_)
  refine x_lve (lv' := [(0, .ref v0R), (1, .int v1I)]) rfl ?_
  intro r σ' h
  obtain ⟨n, hn⟩ := (lp_iff _ _ _).mp h
  exact (i_Bp_left C n) v0R v1I σ r σ' hn
/-! BellPlate.sure(I)I -/
abbrev y_Bp_sure : MethodName := ⟨"BellPlate", "sure", "(I)I"⟩
theorem k_Bp_sure : y_Bp_sure.cls ≠ "java/lang/invoke/MethodHandle" ∧ y_Bp_sure.cls ≠ "java/lang/invoke/VarHandle" ∧ (parseMethodDescriptor y_Bp_sure.desc).map (fun d => d.parameters.length) = some 1 := by decide +kernel
theorem d_Bp_sure_0 : decode prog_1_method_10_code 0 = .ok (.aload_n 0, 1) := by decide +kernel
theorem d_Bp_sure_1 : decode prog_1_method_10_code 1 = .ok (.getfield 44, 3) := by decide +kernel
theorem d_Bp_sure_4 : decode prog_1_method_10_code 4 = .ok (.invokevirtual 159, 3) := by decide +kernel
theorem d_Bp_sure_7 : decode prog_1_method_10_code 7 = .ok (.aload_n 0, 1) := by decide +kernel
theorem d_Bp_sure_8 : decode prog_1_method_10_code 8 = .ok (.getfield 19, 3) := by decide +kernel
theorem d_Bp_sure_11 : decode prog_1_method_10_code 11 = .ok (.iload_n 1, 1) := by decide +kernel
theorem d_Bp_sure_12 : decode prog_1_method_10_code 12 = .ok (.invokevirtual 140, 3) := by decide +kernel
theorem d_Bp_sure_15 : decode prog_1_method_10_code 15 = .ok (.ifCond .eq 13, 3) := by decide +kernel
theorem d_Bp_sure_18 : decode prog_1_method_10_code 18 = .ok (.aload_n 0, 1) := by decide +kernel
theorem d_Bp_sure_19 : decode prog_1_method_10_code 19 = .ok (.getfield 44, 3) := by decide +kernel
theorem d_Bp_sure_22 : decode prog_1_method_10_code 22 = .ok (.invokevirtual 165, 3) := by decide +kernel
theorem d_Bp_sure_25 : decode prog_1_method_10_code 25 = .ok (.ifCond .ne 5, 3) := by decide +kernel
theorem d_Bp_sure_28 : decode prog_1_method_10_code 28 = .ok (.iconst (-1), 1) := by decide +kernel
theorem d_Bp_sure_29 : decode prog_1_method_10_code 29 = .ok (.ireturn, 1) := by decide +kernel
theorem d_Bp_sure_30 : decode prog_1_method_10_code 30 = .ok (.aload_n 0, 1) := by decide +kernel
theorem d_Bp_sure_31 : decode prog_1_method_10_code 31 = .ok (.getfield 44, 3) := by decide +kernel
theorem d_Bp_sure_34 : decode prog_1_method_10_code 34 = .ok (.invokevirtual 169, 3) := by decide +kernel
theorem d_Bp_sure_37 : decode prog_1_method_10_code 37 = .ok (.iload_n 1, 1) := by decide +kernel
theorem d_Bp_sure_38 : decode prog_1_method_10_code 38 = .ok (.invokestatic 173, 3) := by decide +kernel
theorem d_Bp_sure_41 : decode prog_1_method_10_code 41 = .ok (.ifCond .eq 5, 3) := by decide +kernel
theorem d_Bp_sure_44 : decode prog_1_method_10_code 44 = .ok (.iconst 1, 1) := by decide +kernel
theorem d_Bp_sure_45 : decode prog_1_method_10_code 45 = .ok (.ireturn, 1) := by decide +kernel
theorem d_Bp_sure_46 : decode prog_1_method_10_code 46 = .ok (.aload_n 0, 1) := by decide +kernel
theorem d_Bp_sure_47 : decode prog_1_method_10_code 47 = .ok (.getfield 44, 3) := by decide +kernel
theorem d_Bp_sure_50 : decode prog_1_method_10_code 50 = .ok (.invokevirtual 177, 3) := by decide +kernel
theorem d_Bp_sure_53 : decode prog_1_method_10_code 53 = .ok (.iload_n 1, 1) := by decide +kernel
theorem d_Bp_sure_54 : decode prog_1_method_10_code 54 = .ok (.invokestatic 173, 3) := by decide +kernel
theorem d_Bp_sure_57 : decode prog_1_method_10_code 57 = .ok (.ifCond .eq 7, 3) := by decide +kernel
theorem d_Bp_sure_60 : decode prog_1_method_10_code 60 = .ok (.iconst 2, 1) := by decide +kernel
theorem d_Bp_sure_61 : decode prog_1_method_10_code 61 = .ok (.goto 4, 3) := by decide +kernel
theorem d_Bp_sure_64 : decode prog_1_method_10_code 64 = .ok (.iconst 0, 1) := by decide +kernel
theorem d_Bp_sure_65 : decode prog_1_method_10_code 65 = .ok (.ireturn, 1) := by decide +kernel
abbrev S_Bp_sure : Type := Nat × Nat × Int32 × Int32 × AM
noncomputable def T_Bp_sure_0 (v0R : Nat) (v1I : Int32) (σ : AM) : S_Bp_sure ⊕ Option (Int32 × AM) :=
  gdT (okO σ v0R 11) <| gdT (okO σ (aR σ v0R 4) 5) <| bndT (M_Rs_refresh (aR σ v0R 4) σ) fun _ σ4 => gdT (okO σ4 v0R 11) <| gdT (okO σ4 (aR σ4 v0R 1) 1) <| bndT (M_Tw_hasSet (aR σ4 v0R 1) v1I σ4) fun r7 σ8 => if r7 = 0 then (.inl (1, 0, 0, 0, σ8)) else (gdT (okO σ8 v0R 11) <| gdT (okO σ8 (aR σ8 v0R 4) 5) <| bndT (M_Rs_size (aR σ8 v0R 4) σ8) fun r11 σ12 => if r11 = 0 then (.inl (1, 0, 0, 0, σ12)) else (gdT (okO σ12 v0R 11) <| gdT (okO σ12 (aR σ12 v0R 4) 5) <| bndT (M_Rs_every (aR σ12 v0R 4) σ12) fun r15 σ16 => bndT (M_St_has r15 v1I σ16) fun r17 σ18 => if r17 = 0 then (gdT (okO σ18 v0R 11) <| gdT (okO σ18 (aR σ18 v0R 4) 5) <| bndT (M_Rs_some (aR σ18 v0R 4) σ18) fun r21 σ22 => bndT (M_St_has r21 v1I σ22) fun r23 σ24 => if r23 = 0 then (.inl (2, 0, 0, (0 : Int32), σ24)) else (.inl (2, 0, 0, (2 : Int32), σ24))) else (.inr (some ((1 : Int32), σ18)))))
noncomputable def T_Bp_sure_1  (σ : AM) : S_Bp_sure ⊕ Option (Int32 × AM) :=
  .inr (some (((-1) : Int32), σ))
noncomputable def T_Bp_sure_2 (s0I : Int32) (σ : AM) : S_Bp_sure ⊕ Option (Int32 × AM) :=
  .inr (some (s0I, σ))
noncomputable def F_Bp_sure : S_Bp_sure → S_Bp_sure ⊕ Option (Int32 × AM) := fun s => match s.1 with
  | 0 => T_Bp_sure_0 (s.2.1) (s.2.2.1) (s.2.2.2.2)
  | 1 => T_Bp_sure_1  (s.2.2.2.2)
  | _ => T_Bp_sure_2 (s.2.2.2.1) (s.2.2.2.2)
noncomputable def L_Bp_sure_0 (v0R : Nat) (v1I : Int32) (σ : AM) : Option (Int32 × AM) := lp F_Bp_sure (0, v0R, v1I, 0, σ)
noncomputable def L_Bp_sure_1  (σ : AM) : Option (Int32 × AM) := lp F_Bp_sure (1, 0, 0, 0, σ)
noncomputable def L_Bp_sure_2 (s0I : Int32) (σ : AM) : Option (Int32 × AM) := lp F_Bp_sure (2, 0, 0, s0I, σ)
set_option maxRecDepth 20000 in
theorem E_Bp_sure_0 (v0R : Nat) (v1I : Int32) (σ : AM) : L_Bp_sure_0 v0R v1I σ = (gd (okO σ v0R 11) <| gd (okO σ (aR σ v0R 4) 5) <| bnd (M_Rs_refresh (aR σ v0R 4) σ) fun _ σ4 => gd (okO σ4 v0R 11) <| gd (okO σ4 (aR σ4 v0R 1) 1) <| bnd (M_Tw_hasSet (aR σ4 v0R 1) v1I σ4) fun r7 σ8 => if r7 = 0 then (L_Bp_sure_1 σ8) else (gd (okO σ8 v0R 11) <| gd (okO σ8 (aR σ8 v0R 4) 5) <| bnd (M_Rs_size (aR σ8 v0R 4) σ8) fun r11 σ12 => if r11 = 0 then (L_Bp_sure_1 σ12) else (gd (okO σ12 v0R 11) <| gd (okO σ12 (aR σ12 v0R 4) 5) <| bnd (M_Rs_every (aR σ12 v0R 4) σ12) fun r15 σ16 => bnd (M_St_has r15 v1I σ16) fun r17 σ18 => if r17 = 0 then (gd (okO σ18 v0R 11) <| gd (okO σ18 (aR σ18 v0R 4) 5) <| bnd (M_Rs_some (aR σ18 v0R 4) σ18) fun r21 σ22 => bnd (M_St_has r21 v1I σ22) fun r23 σ24 => if r23 = 0 then (L_Bp_sure_2 ((0 : Int32)) σ24) else (L_Bp_sure_2 ((2 : Int32)) σ24)) else ((some ((1 : Int32), σ18)))))) := by
  unfold L_Bp_sure_0
  rw [lp_eq]
  show lpK (lp F_Bp_sure) (T_Bp_sure_0 v0R v1I σ) = _
  unfold T_Bp_sure_0
  simp only [lpK_ite, lq_inl, lq_inr, lpK_bnd, lpK_gd, lq_let]
  try rfl
set_option maxRecDepth 20000 in
theorem E_Bp_sure_1  (σ : AM) : L_Bp_sure_1  σ = ((some (((-1) : Int32), σ))) := by
  unfold L_Bp_sure_1
  rw [lp_eq]
  show lpK (lp F_Bp_sure) (T_Bp_sure_1  σ) = _
  unfold T_Bp_sure_1
  simp only [lpK_ite, lq_inl, lq_inr, lpK_bnd, lpK_gd, lq_let]
  try rfl
set_option maxRecDepth 20000 in
theorem E_Bp_sure_2 (s0I : Int32) (σ : AM) : L_Bp_sure_2 s0I σ = ((some (s0I, σ))) := by
  unfold L_Bp_sure_2
  rw [lp_eq]
  show lpK (lp F_Bp_sure) (T_Bp_sure_2 s0I σ) = _
  unfold T_Bp_sure_2
  simp only [lpK_ite, lq_inl, lq_inr, lpK_bnd, lpK_gd, lq_let]
  try rfl
noncomputable def M_Bp_sure (v0R : Nat) (v1I : Int32) (σ : AM) : Option (Int32 × AM) := mw σ (L_Bp_sure_0 v0R v1I σ)
def I_Bp_sure (G : GX) (p : Program) (l : Launch) (e : Env) (s : State) (m : MethodId) (args : Array Value) (below : List Frame) (meth : Method) (c : Code) (z0 u0 n : Nat) : Prop :=
  (∀ (v0R : Nat) (v1I : Int32) (σ : AM), VX (QM eI G args s below z0 u0) G p l e s m args below meth c 3 z0 u0 2 (lpn F_Bp_sure n (0, v0R, v1I, 0, σ)) 0 [(0, .ref v0R), (1, .int v1I)] [] σ) ∧
  (∀ (σ : AM), VX (QM eI G args s below z0 u0) G p l e s m args below meth c 3 z0 u0 2 (lpn F_Bp_sure n (1, 0, 0, 0, σ)) 28 [] [] σ) ∧
  (∀ (s0I : Int32) (σ : AM), VX (QM eI G args s below z0 u0) G p l e s m args below meth c 3 z0 u0 2 (lpn F_Bp_sure n (2, 0, 0, s0I, σ)) 65 [] [.int s0I] σ)
set_option maxRecDepth 20000 in
theorem s_Bp_sure_0 {G : GX} {p : Program} {l : Launch} {e : Env} {s : State} {m : MethodId} {args : Array Value} {below : List Frame} {meth : Method} {c : Code} {z0 u0 n : Nat} (C : Cx G p s m args meth c prog_1_method_10_code 2 "BellPlate" ((some FieldType.int))) (IH : I_Bp_sure G p l e s m args below meth c z0 u0 n) (v0R : Nat) (v1I : Int32) (σ : AM) : VX (QM eI G args s below z0 u0) G p l e s m args below meth c 3 z0 u0 2 (lpK (lpn F_Bp_sure n) (T_Bp_sure_0 v0R v1I σ)) 0 [(0, .ref v0R), (1, .int v1I)] [] σ := by
  unfold T_Bp_sure_0
  refine x_aload_n C d_Bp_sure_0 0 rfl ?_
  refine x_gd (fun h1 => ?_)
  refine x_gd (fun h2 => ?_)
  refine x_getR (k := 4) (kv := 5) C (okO_iff.mp h1) rfl j10_ok (by decide) rfl (okO_iff.mp h2) (by decide) w694 d_Bp_sure_1 ?_
  refine x_callVV (As := []) C (c_Rs_refresh G l (aR σ v0R 4)  σ) (okO_iff.mp h2) rfl w1035 w1036 w1034 w1037 w125 k_Rs_refresh rfl (by decide) (by decide) rfl (Nat.le_of_ble_eq_true rfl) d_Bp_sure_4 (fun r3 σ4 => ?_)
  refine x_aload_n C d_Bp_sure_7 0 rfl ?_
  refine x_gd (fun h5 => ?_)
  refine x_gd (fun h6 => ?_)
  refine x_getR (k := 1) (kv := 1) C (okO_iff.mp h5) rfl j10_ok (by decide) rfl (okO_iff.mp h6) (by decide) w691 d_Bp_sure_8 ?_
  refine x_iload_n C d_Bp_sure_11 1 rfl ?_
  refine x_callVI (As := [.int v1I]) C (c_Tw_hasSet G l (aR σ4 v0R 1) v1I σ4) (okO_iff.mp h6) rfl w1005 w1006 w1004 w1007 w122 k_Tw_hasSet rfl (by decide) (by decide) rfl (Nat.le_of_ble_eq_true rfl) d_Bp_sure_12 (fun r7 σ8 => ?_)
  refine x_if_eq (tgt := 28) C d_Bp_sure_15 (by decide) (fun _ => ?_) (fun _ => ?_)
  · refine x_lv [] rfl ?_
    exact IH.2.1  (σ8)
  · refine x_aload_n C d_Bp_sure_18 0 rfl ?_
    refine x_gd (fun h9 => ?_)
    refine x_gd (fun h10 => ?_)
    refine x_getR (k := 4) (kv := 5) C (okO_iff.mp h9) rfl j10_ok (by decide) rfl (okO_iff.mp h10) (by decide) w694 d_Bp_sure_19 ?_
    refine x_callVI (As := []) C (c_Rs_size G l (aR σ8 v0R 4)  σ8) (okO_iff.mp h10) rfl w1084 w1085 w1083 w1086 w125 k_Rs_size rfl (by decide) (by decide) rfl (Nat.le_of_ble_eq_true rfl) d_Bp_sure_22 (fun r11 σ12 => ?_)
    refine x_if_ne (tgt := 30) C d_Bp_sure_25 (by decide) (fun _ => ?_) (fun _ => ?_)
    · refine x_lv [] rfl ?_
      exact IH.2.1  (σ12)
    · refine x_aload_n C d_Bp_sure_30 0 rfl ?_
      refine x_gd (fun h13 => ?_)
      refine x_gd (fun h14 => ?_)
      refine x_getR (k := 4) (kv := 5) C (okO_iff.mp h13) rfl j10_ok (by decide) rfl (okO_iff.mp h14) (by decide) w694 d_Bp_sure_31 ?_
      refine x_callVJ (As := []) C (c_Rs_every G l (aR σ12 v0R 4)  σ12) (okO_iff.mp h14) rfl w1097 w1098 w1096 w1099 w125 k_Rs_every rfl (by decide) (by decide) rfl (Nat.le_of_ble_eq_true rfl) d_Bp_sure_34 (fun r15 σ16 => ?_)
      refine x_iload_n C d_Bp_sure_37 1 rfl ?_
      refine x_callSI (As := [.long r15, .int v1I]) C (c_St_has G l r15 v1I σ16) w1101 w1100 w1102 w141 k_St_has rfl (by decide) (by decide) rfl (Nat.le_of_ble_eq_true rfl) d_Bp_sure_38 (fun r17 σ18 => ?_)
      refine x_if_eq (tgt := 46) C d_Bp_sure_41 (by decide) (fun _ => ?_) (fun _ => ?_)
      · refine x_aload_n C d_Bp_sure_46 0 rfl ?_
        refine x_gd (fun h19 => ?_)
        refine x_gd (fun h20 => ?_)
        refine x_getR (k := 4) (kv := 5) C (okO_iff.mp h19) rfl j10_ok (by decide) rfl (okO_iff.mp h20) (by decide) w694 d_Bp_sure_47 ?_
        refine x_callVJ (As := []) C (c_Rs_some G l (aR σ18 v0R 4)  σ18) (okO_iff.mp h20) rfl w1104 w1105 w1103 w1106 w125 k_Rs_some rfl (by decide) (by decide) rfl (Nat.le_of_ble_eq_true rfl) d_Bp_sure_50 (fun r21 σ22 => ?_)
        refine x_iload_n C d_Bp_sure_53 1 rfl ?_
        refine x_callSI (As := [.long r21, .int v1I]) C (c_St_has G l r21 v1I σ22) w1101 w1100 w1102 w141 k_St_has rfl (by decide) (by decide) rfl (Nat.le_of_ble_eq_true rfl) d_Bp_sure_54 (fun r23 σ24 => ?_)
        refine x_if_eq (tgt := 64) C d_Bp_sure_57 (by decide) (fun _ => ?_) (fun _ => ?_)
        · refine x_iconst (v := (0 : Int32)) C d_Bp_sure_64 (by decide) ?_
          refine x_lv [] rfl ?_
          exact IH.2.2 ((0 : Int32)) (σ24)
        · refine x_iconst (v := (2 : Int32)) C d_Bp_sure_60 (by decide) ?_
          refine x_goto (tgt := 65) C d_Bp_sure_61 (by decide) ?_
          refine x_lv [] rfl ?_
          exact IH.2.2 ((2 : Int32)) (σ24)
      · refine x_iconst (v := (1 : Int32)) C d_Bp_sure_44 (by decide) ?_
        exact x_iret C d_Bp_sure_45
set_option maxRecDepth 20000 in
theorem s_Bp_sure_1 {G : GX} {p : Program} {l : Launch} {e : Env} {s : State} {m : MethodId} {args : Array Value} {below : List Frame} {meth : Method} {c : Code} {z0 u0 n : Nat} (C : Cx G p s m args meth c prog_1_method_10_code 2 "BellPlate" ((some FieldType.int))) (IH : I_Bp_sure G p l e s m args below meth c z0 u0 n)  (σ : AM) : VX (QM eI G args s below z0 u0) G p l e s m args below meth c 3 z0 u0 2 (lpK (lpn F_Bp_sure n) (T_Bp_sure_1  σ)) 28 [] [] σ := by
  unfold T_Bp_sure_1
  refine x_iconst (v := ((-1) : Int32)) C d_Bp_sure_28 (by decide) ?_
  exact x_iret C d_Bp_sure_29
set_option maxRecDepth 20000 in
theorem s_Bp_sure_2 {G : GX} {p : Program} {l : Launch} {e : Env} {s : State} {m : MethodId} {args : Array Value} {below : List Frame} {meth : Method} {c : Code} {z0 u0 n : Nat} (C : Cx G p s m args meth c prog_1_method_10_code 2 "BellPlate" ((some FieldType.int))) (IH : I_Bp_sure G p l e s m args below meth c z0 u0 n) (s0I : Int32) (σ : AM) : VX (QM eI G args s below z0 u0) G p l e s m args below meth c 3 z0 u0 2 (lpK (lpn F_Bp_sure n) (T_Bp_sure_2 s0I σ)) 65 [] [.int s0I] σ := by
  unfold T_Bp_sure_2
  exact x_iret C d_Bp_sure_65
theorem i_Bp_sure {G : GX} {p : Program} {l : Launch} {e : Env} {s : State} {m : MethodId} {args : Array Value} {below : List Frame} {meth : Method} {c : Code} {z0 u0 : Nat} (C : Cx G p s m args meth c prog_1_method_10_code 2 "BellPlate" ((some FieldType.int))) (n : Nat) : I_Bp_sure G p l e s m args below meth c z0 u0 n := by
  induction n with
  | zero => exact ⟨fun _ _ _ => x_none, fun _ => x_none, fun _ _ => x_none⟩
  | succ n IH => exact ⟨fun v0R v1I σ => s_Bp_sure_0 C IH v0R v1I σ, fun σ => s_Bp_sure_1 C IH σ, fun s0I σ => s_Bp_sure_2 C IH s0I σ⟩
theorem c_Bp_sure (G : GX) (l : Launch) (v0R : Nat) (v1I : Int32) (σ : AM) : CT eI G l 3 y_Bp_sure prog_1_method_10_code 2 ((some FieldType.int)) [.ref v0R, .int v1I] σ (M_Bp_sure v0R v1I σ) := by
  refine ct_of (by decide +kernel) (Nat.le_of_ble_eq_true rfl) (fun p e s m args below meth c C hin => ?_)
  refine x_lve (lv' := [(0, .ref v0R), (1, .int v1I)]) rfl ?_
  intro r σ' h
  obtain ⟨n, hn⟩ := (lp_iff _ _ _).mp h
  exact (i_Bp_sure C n).1 v0R v1I σ r σ' hn
/-! BellPlate.matters(I)I -/
abbrev y_Bp_matters : MethodName := ⟨"BellPlate", "matters", "(I)I"⟩
theorem k_Bp_matters : y_Bp_matters.cls ≠ "java/lang/invoke/MethodHandle" ∧ y_Bp_matters.cls ≠ "java/lang/invoke/VarHandle" ∧ (parseMethodDescriptor y_Bp_matters.desc).map (fun d => d.parameters.length) = some 1 := by decide +kernel
theorem d_Bp_matters_0 : decode prog_1_method_11_code 0 = .ok (.aload_n 0, 1) := by decide +kernel
theorem d_Bp_matters_1 : decode prog_1_method_11_code 1 = .ok (.getfield 44, 3) := by decide +kernel
theorem d_Bp_matters_4 : decode prog_1_method_11_code 4 = .ok (.invokevirtual 159, 3) := by decide +kernel
theorem d_Bp_matters_7 : decode prog_1_method_11_code 7 = .ok (.aload_n 0, 1) := by decide +kernel
theorem d_Bp_matters_8 : decode prog_1_method_11_code 8 = .ok (.getfield 19, 3) := by decide +kernel
theorem d_Bp_matters_11 : decode prog_1_method_11_code 11 = .ok (.iload_n 1, 1) := by decide +kernel
theorem d_Bp_matters_12 : decode prog_1_method_11_code 12 = .ok (.invokevirtual 180, 3) := by decide +kernel
theorem d_Bp_matters_15 : decode prog_1_method_11_code 15 = .ok (.ifCond .eq 13, 3) := by decide +kernel
theorem d_Bp_matters_18 : decode prog_1_method_11_code 18 = .ok (.aload_n 0, 1) := by decide +kernel
theorem d_Bp_matters_19 : decode prog_1_method_11_code 19 = .ok (.getfield 44, 3) := by decide +kernel
theorem d_Bp_matters_22 : decode prog_1_method_11_code 22 = .ok (.invokevirtual 165, 3) := by decide +kernel
theorem d_Bp_matters_25 : decode prog_1_method_11_code 25 = .ok (.ifCond .ne 5, 3) := by decide +kernel
theorem d_Bp_matters_28 : decode prog_1_method_11_code 28 = .ok (.iconst (-1), 1) := by decide +kernel
theorem d_Bp_matters_29 : decode prog_1_method_11_code 29 = .ok (.ireturn, 1) := by decide +kernel
theorem d_Bp_matters_30 : decode prog_1_method_11_code 30 = .ok (.aload_n 0, 1) := by decide +kernel
theorem d_Bp_matters_31 : decode prog_1_method_11_code 31 = .ok (.getfield 62, 3) := by decide +kernel
theorem d_Bp_matters_34 : decode prog_1_method_11_code 34 = .ok (.iconst 1, 1) := by decide +kernel
theorem d_Bp_matters_35 : decode prog_1_method_11_code 35 = .ok (.iload_n 1, 1) := by decide +kernel
theorem d_Bp_matters_36 : decode prog_1_method_11_code 36 = .ok (.invokevirtual 183, 3) := by decide +kernel
theorem d_Bp_matters_39 : decode prog_1_method_11_code 39 = .ok (.ireturn, 1) := by decide +kernel
abbrev S_Bp_matters : Type := Nat × Nat × Int32 × AM
noncomputable def T_Bp_matters_0 (v0R : Nat) (v1I : Int32) (σ : AM) : S_Bp_matters ⊕ Option (Int32 × AM) :=
  gdT (okO σ v0R 11) <| gdT (okO σ (aR σ v0R 4) 5) <| bndT (M_Rs_refresh (aR σ v0R 4) σ) fun _ σ4 => gdT (okO σ4 v0R 11) <| gdT (okO σ4 (aR σ4 v0R 1) 1) <| bndT (M_Tw_hasThing (aR σ4 v0R 1) v1I σ4) fun r7 σ8 => if r7 = 0 then (.inl (1, 0, 0, σ8)) else (gdT (okO σ8 v0R 11) <| gdT (okO σ8 (aR σ8 v0R 4) 5) <| bndT (M_Rs_size (aR σ8 v0R 4) σ8) fun r11 σ12 => if r11 = 0 then (.inl (1, 0, 0, σ12)) else (gdT (okO σ12 v0R 11) <| gdT (okO σ12 (aR σ12 v0R 6) 7) <| bndT (M_Pl_allOrNone (aR σ12 v0R 6) (1 : Int32) v1I σ12) fun r15 σ16 => .inr (some (r15, σ16))))
noncomputable def T_Bp_matters_1  (σ : AM) : S_Bp_matters ⊕ Option (Int32 × AM) :=
  .inr (some (((-1) : Int32), σ))
noncomputable def F_Bp_matters : S_Bp_matters → S_Bp_matters ⊕ Option (Int32 × AM) := fun s => match s.1 with
  | 0 => T_Bp_matters_0 (s.2.1) (s.2.2.1) (s.2.2.2)
  | _ => T_Bp_matters_1  (s.2.2.2)
noncomputable def L_Bp_matters_0 (v0R : Nat) (v1I : Int32) (σ : AM) : Option (Int32 × AM) := lp F_Bp_matters (0, v0R, v1I, σ)
noncomputable def L_Bp_matters_1  (σ : AM) : Option (Int32 × AM) := lp F_Bp_matters (1, 0, 0, σ)
set_option maxRecDepth 20000 in
theorem E_Bp_matters_0 (v0R : Nat) (v1I : Int32) (σ : AM) : L_Bp_matters_0 v0R v1I σ = (gd (okO σ v0R 11) <| gd (okO σ (aR σ v0R 4) 5) <| bnd (M_Rs_refresh (aR σ v0R 4) σ) fun _ σ4 => gd (okO σ4 v0R 11) <| gd (okO σ4 (aR σ4 v0R 1) 1) <| bnd (M_Tw_hasThing (aR σ4 v0R 1) v1I σ4) fun r7 σ8 => if r7 = 0 then (L_Bp_matters_1 σ8) else (gd (okO σ8 v0R 11) <| gd (okO σ8 (aR σ8 v0R 4) 5) <| bnd (M_Rs_size (aR σ8 v0R 4) σ8) fun r11 σ12 => if r11 = 0 then (L_Bp_matters_1 σ12) else (gd (okO σ12 v0R 11) <| gd (okO σ12 (aR σ12 v0R 6) 7) <| bnd (M_Pl_allOrNone (aR σ12 v0R 6) (1 : Int32) v1I σ12) fun r15 σ16 => (some (r15, σ16))))) := by
  unfold L_Bp_matters_0
  rw [lp_eq]
  show lpK (lp F_Bp_matters) (T_Bp_matters_0 v0R v1I σ) = _
  unfold T_Bp_matters_0
  simp only [lpK_ite, lq_inl, lq_inr, lpK_bnd, lpK_gd, lq_let]
  try rfl
set_option maxRecDepth 20000 in
theorem E_Bp_matters_1  (σ : AM) : L_Bp_matters_1  σ = ((some (((-1) : Int32), σ))) := by
  unfold L_Bp_matters_1
  rw [lp_eq]
  show lpK (lp F_Bp_matters) (T_Bp_matters_1  σ) = _
  unfold T_Bp_matters_1
  simp only [lpK_ite, lq_inl, lq_inr, lpK_bnd, lpK_gd, lq_let]
  try rfl
noncomputable def M_Bp_matters (v0R : Nat) (v1I : Int32) (σ : AM) : Option (Int32 × AM) := mw σ (L_Bp_matters_0 v0R v1I σ)
def I_Bp_matters (G : GX) (p : Program) (l : Launch) (e : Env) (s : State) (m : MethodId) (args : Array Value) (below : List Frame) (meth : Method) (c : Code) (z0 u0 n : Nat) : Prop :=
  (∀ (v0R : Nat) (v1I : Int32) (σ : AM), VX (QM eI G args s below z0 u0) G p l e s m args below meth c 4 z0 u0 2 (lpn F_Bp_matters n (0, v0R, v1I, σ)) 0 [(0, .ref v0R), (1, .int v1I)] [] σ) ∧
  (∀ (σ : AM), VX (QM eI G args s below z0 u0) G p l e s m args below meth c 4 z0 u0 2 (lpn F_Bp_matters n (1, 0, 0, σ)) 28 [] [] σ)
set_option maxRecDepth 20000 in
theorem s_Bp_matters_0 {G : GX} {p : Program} {l : Launch} {e : Env} {s : State} {m : MethodId} {args : Array Value} {below : List Frame} {meth : Method} {c : Code} {z0 u0 n : Nat} (C : Cx G p s m args meth c prog_1_method_11_code 2 "BellPlate" ((some FieldType.int))) (IH : I_Bp_matters G p l e s m args below meth c z0 u0 n) (v0R : Nat) (v1I : Int32) (σ : AM) : VX (QM eI G args s below z0 u0) G p l e s m args below meth c 4 z0 u0 2 (lpK (lpn F_Bp_matters n) (T_Bp_matters_0 v0R v1I σ)) 0 [(0, .ref v0R), (1, .int v1I)] [] σ := by
  unfold T_Bp_matters_0
  refine x_aload_n C d_Bp_matters_0 0 rfl ?_
  refine x_gd (fun h1 => ?_)
  refine x_gd (fun h2 => ?_)
  refine x_getR (k := 4) (kv := 5) C (okO_iff.mp h1) rfl j10_ok (by decide) rfl (okO_iff.mp h2) (by decide) w694 d_Bp_matters_1 ?_
  refine x_callVV (As := []) C (c_Rs_refresh G l (aR σ v0R 4)  σ) (okO_iff.mp h2) rfl w1035 w1036 w1034 w1037 w125 k_Rs_refresh rfl (by decide) (by decide) rfl (Nat.le_of_ble_eq_true rfl) d_Bp_matters_4 (fun r3 σ4 => ?_)
  refine x_aload_n C d_Bp_matters_7 0 rfl ?_
  refine x_gd (fun h5 => ?_)
  refine x_gd (fun h6 => ?_)
  refine x_getR (k := 1) (kv := 1) C (okO_iff.mp h5) rfl j10_ok (by decide) rfl (okO_iff.mp h6) (by decide) w691 d_Bp_matters_8 ?_
  refine x_iload_n C d_Bp_matters_11 1 rfl ?_
  refine x_callVI (As := [.int v1I]) C (c_Tw_hasThing G l (aR σ4 v0R 1) v1I σ4) (okO_iff.mp h6) rfl w1112 w1113 w1111 w1114 w122 k_Tw_hasThing rfl (by decide) (by decide) rfl (Nat.le_of_ble_eq_true rfl) d_Bp_matters_12 (fun r7 σ8 => ?_)
  refine x_if_eq (tgt := 28) C d_Bp_matters_15 (by decide) (fun _ => ?_) (fun _ => ?_)
  · refine x_lv [] rfl ?_
    exact IH.2  (σ8)
  · refine x_aload_n C d_Bp_matters_18 0 rfl ?_
    refine x_gd (fun h9 => ?_)
    refine x_gd (fun h10 => ?_)
    refine x_getR (k := 4) (kv := 5) C (okO_iff.mp h9) rfl j10_ok (by decide) rfl (okO_iff.mp h10) (by decide) w694 d_Bp_matters_19 ?_
    refine x_callVI (As := []) C (c_Rs_size G l (aR σ8 v0R 4)  σ8) (okO_iff.mp h10) rfl w1084 w1085 w1083 w1086 w125 k_Rs_size rfl (by decide) (by decide) rfl (Nat.le_of_ble_eq_true rfl) d_Bp_matters_22 (fun r11 σ12 => ?_)
    refine x_if_ne (tgt := 30) C d_Bp_matters_25 (by decide) (fun _ => ?_) (fun _ => ?_)
    · refine x_lv [] rfl ?_
      exact IH.2  (σ12)
    · refine x_aload_n C d_Bp_matters_30 0 rfl ?_
      refine x_gd (fun h13 => ?_)
      refine x_gd (fun h14 => ?_)
      refine x_getR (k := 6) (kv := 7) C (okO_iff.mp h13) rfl j10_ok (by decide) rfl (okO_iff.mp h14) (by decide) w696 d_Bp_matters_31 ?_
      refine x_iconst (v := (1 : Int32)) C d_Bp_matters_34 (by decide) ?_
      refine x_iload_n C d_Bp_matters_35 1 rfl ?_
      refine x_callVI (As := [.int (1 : Int32), .int v1I]) C (c_Pl_allOrNone G l (aR σ12 v0R 6) (1 : Int32) v1I σ12) (okO_iff.mp h14) rfl w1116 w1117 w1115 w1118 w128 k_Pl_allOrNone rfl (by decide) (by decide) rfl (Nat.le_of_ble_eq_true rfl) d_Bp_matters_36 (fun r15 σ16 => ?_)
      exact x_iret C d_Bp_matters_39
set_option maxRecDepth 20000 in
theorem s_Bp_matters_1 {G : GX} {p : Program} {l : Launch} {e : Env} {s : State} {m : MethodId} {args : Array Value} {below : List Frame} {meth : Method} {c : Code} {z0 u0 n : Nat} (C : Cx G p s m args meth c prog_1_method_11_code 2 "BellPlate" ((some FieldType.int))) (IH : I_Bp_matters G p l e s m args below meth c z0 u0 n)  (σ : AM) : VX (QM eI G args s below z0 u0) G p l e s m args below meth c 4 z0 u0 2 (lpK (lpn F_Bp_matters n) (T_Bp_matters_1  σ)) 28 [] [] σ := by
  unfold T_Bp_matters_1
  refine x_iconst (v := ((-1) : Int32)) C d_Bp_matters_28 (by decide) ?_
  exact x_iret C d_Bp_matters_29
theorem i_Bp_matters {G : GX} {p : Program} {l : Launch} {e : Env} {s : State} {m : MethodId} {args : Array Value} {below : List Frame} {meth : Method} {c : Code} {z0 u0 : Nat} (C : Cx G p s m args meth c prog_1_method_11_code 2 "BellPlate" ((some FieldType.int))) (n : Nat) : I_Bp_matters G p l e s m args below meth c z0 u0 n := by
  induction n with
  | zero => exact ⟨fun _ _ _ => x_none, fun _ => x_none⟩
  | succ n IH => exact ⟨fun v0R v1I σ => s_Bp_matters_0 C IH v0R v1I σ, fun σ => s_Bp_matters_1 C IH σ⟩
theorem c_Bp_matters (G : GX) (l : Launch) (v0R : Nat) (v1I : Int32) (σ : AM) : CT eI G l 4 y_Bp_matters prog_1_method_11_code 2 ((some FieldType.int)) [.ref v0R, .int v1I] σ (M_Bp_matters v0R v1I σ) := by
  refine ct_of (by decide +kernel) (Nat.le_of_ble_eq_true rfl) (fun p e s m args below meth c C hin => ?_)
  refine x_lve (lv' := [(0, .ref v0R), (1, .int v1I)]) rfl ?_
  intro r σ' h
  obtain ⟨n, hn⟩ := (lp_iff _ _ _).mp h
  exact (i_Bp_matters C n).1 v0R v1I σ r σ' hn
/-! BellPlate.alike(II)I -/
abbrev y_Bp_alike : MethodName := ⟨"BellPlate", "alike", "(II)I"⟩
theorem k_Bp_alike : y_Bp_alike.cls ≠ "java/lang/invoke/MethodHandle" ∧ y_Bp_alike.cls ≠ "java/lang/invoke/VarHandle" ∧ (parseMethodDescriptor y_Bp_alike.desc).map (fun d => d.parameters.length) = some 2 := by decide +kernel
theorem d_Bp_alike_0 : decode prog_1_method_12_code 0 = .ok (.aload_n 0, 1) := by decide +kernel
theorem d_Bp_alike_1 : decode prog_1_method_12_code 1 = .ok (.getfield 44, 3) := by decide +kernel
theorem d_Bp_alike_4 : decode prog_1_method_12_code 4 = .ok (.invokevirtual 159, 3) := by decide +kernel
theorem d_Bp_alike_7 : decode prog_1_method_12_code 7 = .ok (.aload_n 0, 1) := by decide +kernel
theorem d_Bp_alike_8 : decode prog_1_method_12_code 8 = .ok (.getfield 19, 3) := by decide +kernel
theorem d_Bp_alike_11 : decode prog_1_method_12_code 11 = .ok (.iload_n 1, 1) := by decide +kernel
theorem d_Bp_alike_12 : decode prog_1_method_12_code 12 = .ok (.invokevirtual 180, 3) := by decide +kernel
theorem d_Bp_alike_15 : decode prog_1_method_12_code 15 = .ok (.ifCond .eq 29, 3) := by decide +kernel
theorem d_Bp_alike_18 : decode prog_1_method_12_code 18 = .ok (.aload_n 0, 1) := by decide +kernel
theorem d_Bp_alike_19 : decode prog_1_method_12_code 19 = .ok (.getfield 19, 3) := by decide +kernel
theorem d_Bp_alike_22 : decode prog_1_method_12_code 22 = .ok (.iload_n 2, 1) := by decide +kernel
theorem d_Bp_alike_23 : decode prog_1_method_12_code 23 = .ok (.invokevirtual 180, 3) := by decide +kernel
theorem d_Bp_alike_26 : decode prog_1_method_12_code 26 = .ok (.ifCond .eq 18, 3) := by decide +kernel
theorem d_Bp_alike_29 : decode prog_1_method_12_code 29 = .ok (.iload_n 1, 1) := by decide +kernel
theorem d_Bp_alike_30 : decode prog_1_method_12_code 30 = .ok (.iload_n 2, 1) := by decide +kernel
theorem d_Bp_alike_31 : decode prog_1_method_12_code 31 = .ok (.if_icmp .eq 13, 3) := by decide +kernel
theorem d_Bp_alike_34 : decode prog_1_method_12_code 34 = .ok (.aload_n 0, 1) := by decide +kernel
theorem d_Bp_alike_35 : decode prog_1_method_12_code 35 = .ok (.getfield 44, 3) := by decide +kernel
theorem d_Bp_alike_38 : decode prog_1_method_12_code 38 = .ok (.invokevirtual 165, 3) := by decide +kernel
theorem d_Bp_alike_41 : decode prog_1_method_12_code 41 = .ok (.ifCond .ne 5, 3) := by decide +kernel
theorem d_Bp_alike_44 : decode prog_1_method_12_code 44 = .ok (.iconst (-1), 1) := by decide +kernel
theorem d_Bp_alike_45 : decode prog_1_method_12_code 45 = .ok (.ireturn, 1) := by decide +kernel
theorem d_Bp_alike_46 : decode prog_1_method_12_code 46 = .ok (.aload_n 0, 1) := by decide +kernel
theorem d_Bp_alike_47 : decode prog_1_method_12_code 47 = .ok (.getfield 62, 3) := by decide +kernel
theorem d_Bp_alike_50 : decode prog_1_method_12_code 50 = .ok (.iconst 2, 1) := by decide +kernel
theorem d_Bp_alike_51 : decode prog_1_method_12_code 51 = .ok (.bipush 6, 2) := by decide +kernel
theorem d_Bp_alike_53 : decode prog_1_method_12_code 53 = .ok (.iload_n 1, 1) := by decide +kernel
theorem d_Bp_alike_54 : decode prog_1_method_12_code 54 = .ok (.imul, 1) := by decide +kernel
theorem d_Bp_alike_55 : decode prog_1_method_12_code 55 = .ok (.iload_n 2, 1) := by decide +kernel
theorem d_Bp_alike_56 : decode prog_1_method_12_code 56 = .ok (.iadd, 1) := by decide +kernel
theorem d_Bp_alike_57 : decode prog_1_method_12_code 57 = .ok (.invokevirtual 183, 3) := by decide +kernel
theorem d_Bp_alike_60 : decode prog_1_method_12_code 60 = .ok (.ireturn, 1) := by decide +kernel
abbrev S_Bp_alike : Type := Nat × Nat × Int32 × Int32 × AM
noncomputable def T_Bp_alike_0 (v0R : Nat) (v1I : Int32) (v2I : Int32) (σ : AM) : S_Bp_alike ⊕ Option (Int32 × AM) :=
  gdT (okO σ v0R 11) <| gdT (okO σ (aR σ v0R 4) 5) <| bndT (M_Rs_refresh (aR σ v0R 4) σ) fun _ σ4 => gdT (okO σ4 v0R 11) <| gdT (okO σ4 (aR σ4 v0R 1) 1) <| bndT (M_Tw_hasThing (aR σ4 v0R 1) v1I σ4) fun r7 σ8 => if r7 = 0 then (.inl (1, 0, 0, 0, σ8)) else (gdT (okO σ8 v0R 11) <| gdT (okO σ8 (aR σ8 v0R 1) 1) <| bndT (M_Tw_hasThing (aR σ8 v0R 1) v2I σ8) fun r11 σ12 => if r11 = 0 then (.inl (1, 0, 0, 0, σ12)) else (if v1I = v2I then (.inl (1, 0, 0, 0, σ12)) else (gdT (okO σ12 v0R 11) <| gdT (okO σ12 (aR σ12 v0R 4) 5) <| bndT (M_Rs_size (aR σ12 v0R 4) σ12) fun r15 σ16 => if r15 = 0 then (.inl (1, 0, 0, 0, σ16)) else (gdT (okO σ16 v0R 11) <| gdT (okO σ16 (aR σ16 v0R 6) 7) <| bndT (M_Pl_allOrNone (aR σ16 v0R 6) (2 : Int32) (((6 : Int32) * v1I) + v2I) σ16) fun r19 σ20 => .inr (some (r19, σ20))))))
noncomputable def T_Bp_alike_1  (σ : AM) : S_Bp_alike ⊕ Option (Int32 × AM) :=
  .inr (some (((-1) : Int32), σ))
noncomputable def F_Bp_alike : S_Bp_alike → S_Bp_alike ⊕ Option (Int32 × AM) := fun s => match s.1 with
  | 0 => T_Bp_alike_0 (s.2.1) (s.2.2.1) (s.2.2.2.1) (s.2.2.2.2)
  | _ => T_Bp_alike_1  (s.2.2.2.2)
noncomputable def L_Bp_alike_0 (v0R : Nat) (v1I : Int32) (v2I : Int32) (σ : AM) : Option (Int32 × AM) := lp F_Bp_alike (0, v0R, v1I, v2I, σ)
noncomputable def L_Bp_alike_1  (σ : AM) : Option (Int32 × AM) := lp F_Bp_alike (1, 0, 0, 0, σ)
set_option maxRecDepth 20000 in
theorem E_Bp_alike_0 (v0R : Nat) (v1I : Int32) (v2I : Int32) (σ : AM) : L_Bp_alike_0 v0R v1I v2I σ = (gd (okO σ v0R 11) <| gd (okO σ (aR σ v0R 4) 5) <| bnd (M_Rs_refresh (aR σ v0R 4) σ) fun _ σ4 => gd (okO σ4 v0R 11) <| gd (okO σ4 (aR σ4 v0R 1) 1) <| bnd (M_Tw_hasThing (aR σ4 v0R 1) v1I σ4) fun r7 σ8 => if r7 = 0 then (L_Bp_alike_1 σ8) else (gd (okO σ8 v0R 11) <| gd (okO σ8 (aR σ8 v0R 1) 1) <| bnd (M_Tw_hasThing (aR σ8 v0R 1) v2I σ8) fun r11 σ12 => if r11 = 0 then (L_Bp_alike_1 σ12) else (if v1I = v2I then (L_Bp_alike_1 σ12) else (gd (okO σ12 v0R 11) <| gd (okO σ12 (aR σ12 v0R 4) 5) <| bnd (M_Rs_size (aR σ12 v0R 4) σ12) fun r15 σ16 => if r15 = 0 then (L_Bp_alike_1 σ16) else (gd (okO σ16 v0R 11) <| gd (okO σ16 (aR σ16 v0R 6) 7) <| bnd (M_Pl_allOrNone (aR σ16 v0R 6) (2 : Int32) (((6 : Int32) * v1I) + v2I) σ16) fun r19 σ20 => (some (r19, σ20))))))) := by
  unfold L_Bp_alike_0
  rw [lp_eq]
  show lpK (lp F_Bp_alike) (T_Bp_alike_0 v0R v1I v2I σ) = _
  unfold T_Bp_alike_0
  simp only [lpK_ite, lq_inl, lq_inr, lpK_bnd, lpK_gd, lq_let]
  try rfl
set_option maxRecDepth 20000 in
theorem E_Bp_alike_1  (σ : AM) : L_Bp_alike_1  σ = ((some (((-1) : Int32), σ))) := by
  unfold L_Bp_alike_1
  rw [lp_eq]
  show lpK (lp F_Bp_alike) (T_Bp_alike_1  σ) = _
  unfold T_Bp_alike_1
  simp only [lpK_ite, lq_inl, lq_inr, lpK_bnd, lpK_gd, lq_let]
  try rfl
noncomputable def M_Bp_alike (v0R : Nat) (v1I : Int32) (v2I : Int32) (σ : AM) : Option (Int32 × AM) := mw σ (L_Bp_alike_0 v0R v1I v2I σ)
def I_Bp_alike (G : GX) (p : Program) (l : Launch) (e : Env) (s : State) (m : MethodId) (args : Array Value) (below : List Frame) (meth : Method) (c : Code) (z0 u0 n : Nat) : Prop :=
  (∀ (v0R : Nat) (v1I : Int32) (v2I : Int32) (σ : AM), VX (QM eI G args s below z0 u0) G p l e s m args below meth c 4 z0 u0 3 (lpn F_Bp_alike n (0, v0R, v1I, v2I, σ)) 0 [(0, .ref v0R), (1, .int v1I), (2, .int v2I)] [] σ) ∧
  (∀ (σ : AM), VX (QM eI G args s below z0 u0) G p l e s m args below meth c 4 z0 u0 3 (lpn F_Bp_alike n (1, 0, 0, 0, σ)) 44 [] [] σ)
set_option maxRecDepth 20000 in
theorem s_Bp_alike_0 {G : GX} {p : Program} {l : Launch} {e : Env} {s : State} {m : MethodId} {args : Array Value} {below : List Frame} {meth : Method} {c : Code} {z0 u0 n : Nat} (C : Cx G p s m args meth c prog_1_method_12_code 3 "BellPlate" ((some FieldType.int))) (IH : I_Bp_alike G p l e s m args below meth c z0 u0 n) (v0R : Nat) (v1I : Int32) (v2I : Int32) (σ : AM) : VX (QM eI G args s below z0 u0) G p l e s m args below meth c 4 z0 u0 3 (lpK (lpn F_Bp_alike n) (T_Bp_alike_0 v0R v1I v2I σ)) 0 [(0, .ref v0R), (1, .int v1I), (2, .int v2I)] [] σ := by
  unfold T_Bp_alike_0
  refine x_aload_n C d_Bp_alike_0 0 rfl ?_
  refine x_gd (fun h1 => ?_)
  refine x_gd (fun h2 => ?_)
  refine x_getR (k := 4) (kv := 5) C (okO_iff.mp h1) rfl j10_ok (by decide) rfl (okO_iff.mp h2) (by decide) w694 d_Bp_alike_1 ?_
  refine x_callVV (As := []) C (c_Rs_refresh G l (aR σ v0R 4)  σ) (okO_iff.mp h2) rfl w1035 w1036 w1034 w1037 w125 k_Rs_refresh rfl (by decide) (by decide) rfl (Nat.le_of_ble_eq_true rfl) d_Bp_alike_4 (fun r3 σ4 => ?_)
  refine x_aload_n C d_Bp_alike_7 0 rfl ?_
  refine x_gd (fun h5 => ?_)
  refine x_gd (fun h6 => ?_)
  refine x_getR (k := 1) (kv := 1) C (okO_iff.mp h5) rfl j10_ok (by decide) rfl (okO_iff.mp h6) (by decide) w691 d_Bp_alike_8 ?_
  refine x_iload_n C d_Bp_alike_11 1 rfl ?_
  refine x_callVI (As := [.int v1I]) C (c_Tw_hasThing G l (aR σ4 v0R 1) v1I σ4) (okO_iff.mp h6) rfl w1112 w1113 w1111 w1114 w122 k_Tw_hasThing rfl (by decide) (by decide) rfl (Nat.le_of_ble_eq_true rfl) d_Bp_alike_12 (fun r7 σ8 => ?_)
  refine x_if_eq (tgt := 44) C d_Bp_alike_15 (by decide) (fun _ => ?_) (fun _ => ?_)
  · refine x_lv [] rfl ?_
    exact IH.2  (σ8)
  · refine x_aload_n C d_Bp_alike_18 0 rfl ?_
    refine x_gd (fun h9 => ?_)
    refine x_gd (fun h10 => ?_)
    refine x_getR (k := 1) (kv := 1) C (okO_iff.mp h9) rfl j10_ok (by decide) rfl (okO_iff.mp h10) (by decide) w691 d_Bp_alike_19 ?_
    refine x_iload_n C d_Bp_alike_22 2 rfl ?_
    refine x_callVI (As := [.int v2I]) C (c_Tw_hasThing G l (aR σ8 v0R 1) v2I σ8) (okO_iff.mp h10) rfl w1112 w1113 w1111 w1114 w122 k_Tw_hasThing rfl (by decide) (by decide) rfl (Nat.le_of_ble_eq_true rfl) d_Bp_alike_23 (fun r11 σ12 => ?_)
    refine x_if_eq (tgt := 44) C d_Bp_alike_26 (by decide) (fun _ => ?_) (fun _ => ?_)
    · refine x_lv [] rfl ?_
      exact IH.2  (σ12)
    · refine x_iload_n C d_Bp_alike_29 1 rfl ?_
      refine x_iload_n C d_Bp_alike_30 2 rfl ?_
      refine x_icmp_eq (tgt := 44) C d_Bp_alike_31 (by decide) (fun _ => ?_) (fun _ => ?_)
      · refine x_lv [] rfl ?_
        exact IH.2  (σ12)
      · refine x_aload_n C d_Bp_alike_34 0 rfl ?_
        refine x_gd (fun h13 => ?_)
        refine x_gd (fun h14 => ?_)
        refine x_getR (k := 4) (kv := 5) C (okO_iff.mp h13) rfl j10_ok (by decide) rfl (okO_iff.mp h14) (by decide) w694 d_Bp_alike_35 ?_
        refine x_callVI (As := []) C (c_Rs_size G l (aR σ12 v0R 4)  σ12) (okO_iff.mp h14) rfl w1084 w1085 w1083 w1086 w125 k_Rs_size rfl (by decide) (by decide) rfl (Nat.le_of_ble_eq_true rfl) d_Bp_alike_38 (fun r15 σ16 => ?_)
        refine x_if_ne (tgt := 46) C d_Bp_alike_41 (by decide) (fun _ => ?_) (fun _ => ?_)
        · refine x_lv [] rfl ?_
          exact IH.2  (σ16)
        · refine x_aload_n C d_Bp_alike_46 0 rfl ?_
          refine x_gd (fun h17 => ?_)
          refine x_gd (fun h18 => ?_)
          refine x_getR (k := 6) (kv := 7) C (okO_iff.mp h17) rfl j10_ok (by decide) rfl (okO_iff.mp h18) (by decide) w696 d_Bp_alike_47 ?_
          refine x_iconst (v := (2 : Int32)) C d_Bp_alike_50 (by decide) ?_
          refine x_bipush (v := (6 : Int32)) C d_Bp_alike_51 (by decide) ?_
          refine x_iload_n C d_Bp_alike_53 1 rfl ?_
          refine x_imul C d_Bp_alike_54 ?_
          refine x_iload_n C d_Bp_alike_55 2 rfl ?_
          refine x_iadd C d_Bp_alike_56 ?_
          refine x_callVI (As := [.int (2 : Int32), .int (((6 : Int32) * v1I) + v2I)]) C (c_Pl_allOrNone G l (aR σ16 v0R 6) (2 : Int32) (((6 : Int32) * v1I) + v2I) σ16) (okO_iff.mp h18) rfl w1116 w1117 w1115 w1118 w128 k_Pl_allOrNone rfl (by decide) (by decide) rfl (Nat.le_of_ble_eq_true rfl) d_Bp_alike_57 (fun r19 σ20 => ?_)
          exact x_iret C d_Bp_alike_60
set_option maxRecDepth 20000 in
theorem s_Bp_alike_1 {G : GX} {p : Program} {l : Launch} {e : Env} {s : State} {m : MethodId} {args : Array Value} {below : List Frame} {meth : Method} {c : Code} {z0 u0 n : Nat} (C : Cx G p s m args meth c prog_1_method_12_code 3 "BellPlate" ((some FieldType.int))) (IH : I_Bp_alike G p l e s m args below meth c z0 u0 n)  (σ : AM) : VX (QM eI G args s below z0 u0) G p l e s m args below meth c 4 z0 u0 3 (lpK (lpn F_Bp_alike n) (T_Bp_alike_1  σ)) 44 [] [] σ := by
  unfold T_Bp_alike_1
  refine x_iconst (v := ((-1) : Int32)) C d_Bp_alike_44 (by decide) ?_
  exact x_iret C d_Bp_alike_45
theorem i_Bp_alike {G : GX} {p : Program} {l : Launch} {e : Env} {s : State} {m : MethodId} {args : Array Value} {below : List Frame} {meth : Method} {c : Code} {z0 u0 : Nat} (C : Cx G p s m args meth c prog_1_method_12_code 3 "BellPlate" ((some FieldType.int))) (n : Nat) : I_Bp_alike G p l e s m args below meth c z0 u0 n := by
  induction n with
  | zero => exact ⟨fun _ _ _ _ => x_none, fun _ => x_none⟩
  | succ n IH => exact ⟨fun v0R v1I v2I σ => s_Bp_alike_0 C IH v0R v1I v2I σ, fun σ => s_Bp_alike_1 C IH σ⟩
theorem c_Bp_alike (G : GX) (l : Launch) (v0R : Nat) (v1I : Int32) (v2I : Int32) (σ : AM) : CT eI G l 4 y_Bp_alike prog_1_method_12_code 3 ((some FieldType.int)) [.ref v0R, .int v1I, .int v2I] σ (M_Bp_alike v0R v1I v2I σ) := by
  refine ct_of (by decide +kernel) (Nat.le_of_ble_eq_true rfl) (fun p e s m args below meth c C hin => ?_)
  refine x_lve (lv' := [(0, .ref v0R), (1, .int v1I), (2, .int v2I)]) rfl ?_
  intro r σ' h
  obtain ⟨n, hn⟩ := (lp_iff _ _ _).mp h
  exact (i_Bp_alike C n).1 v0R v1I v2I σ r σ' hn
/-! BellPlate.next(I)I -/
abbrev y_Bp_next : MethodName := ⟨"BellPlate", "next", "(I)I"⟩
theorem k_Bp_next : y_Bp_next.cls ≠ "java/lang/invoke/MethodHandle" ∧ y_Bp_next.cls ≠ "java/lang/invoke/VarHandle" ∧ (parseMethodDescriptor y_Bp_next.desc).map (fun d => d.parameters.length) = some 1 := by decide +kernel
theorem d_Bp_next_0 : decode prog_1_method_13_code 0 = .ok (.iload_n 1, 1) := by decide +kernel
theorem d_Bp_next_1 : decode prog_1_method_13_code 1 = .ok (.invokestatic 186, 3) := by decide +kernel
theorem d_Bp_next_4 : decode prog_1_method_13_code 4 = .ok (.ifCond .ne 5, 3) := by decide +kernel
theorem d_Bp_next_7 : decode prog_1_method_13_code 7 = .ok (.iconst (-1), 1) := by decide +kernel
theorem d_Bp_next_8 : decode prog_1_method_13_code 8 = .ok (.ireturn, 1) := by decide +kernel
theorem d_Bp_next_9 : decode prog_1_method_13_code 9 = .ok (.aload_n 0, 1) := by decide +kernel
theorem d_Bp_next_10 : decode prog_1_method_13_code 10 = .ok (.getfield 44, 3) := by decide +kernel
theorem d_Bp_next_13 : decode prog_1_method_13_code 13 = .ok (.invokevirtual 159, 3) := by decide +kernel
theorem d_Bp_next_16 : decode prog_1_method_13_code 16 = .ok (.aload_n 0, 1) := by decide +kernel
theorem d_Bp_next_17 : decode prog_1_method_13_code 17 = .ok (.getfield 53, 3) := by decide +kernel
theorem d_Bp_next_20 : decode prog_1_method_13_code 20 = .ok (.aload_n 0, 1) := by decide +kernel
theorem d_Bp_next_21 : decode prog_1_method_13_code 21 = .ok (.getfield 44, 3) := by decide +kernel
theorem d_Bp_next_24 : decode prog_1_method_13_code 24 = .ok (.invokevirtual 189, 3) := by decide +kernel
theorem d_Bp_next_27 : decode prog_1_method_13_code 27 = .ok (.iconst 0, 1) := by decide +kernel
theorem d_Bp_next_28 : decode prog_1_method_13_code 28 = .ok (.aload_n 0, 1) := by decide +kernel
theorem d_Bp_next_29 : decode prog_1_method_13_code 29 = .ok (.getfield 44, 3) := by decide +kernel
theorem d_Bp_next_32 : decode prog_1_method_13_code 32 = .ok (.invokevirtual 165, 3) := by decide +kernel
theorem d_Bp_next_35 : decode prog_1_method_13_code 35 = .ok (.iload_n 1, 1) := by decide +kernel
theorem d_Bp_next_36 : decode prog_1_method_13_code 36 = .ok (.invokevirtual 193, 3) := by decide +kernel
theorem d_Bp_next_39 : decode prog_1_method_13_code 39 = .ok (.ireturn, 1) := by decide +kernel
abbrev S_Bp_next : Type := Nat × Nat × Int32 × AM
noncomputable def T_Bp_next_0 (v0R : Nat) (v1I : Int32) (σ : AM) : S_Bp_next ⊕ Option (Int32 × AM) :=
  bndT (M_Ch_isWay v1I σ) fun r1 σ2 => if r1 = 0 then (.inr (some (((-1) : Int32), σ2))) else (gdT (okO σ2 v0R 11) <| gdT (okO σ2 (aR σ2 v0R 4) 5) <| bndT (M_Rs_refresh (aR σ2 v0R 4) σ2) fun _ σ6 => gdT (okO σ6 v0R 11) <| gdT (okO σ6 (aR σ6 v0R 5) 6) <| gdT (okO σ6 (aR σ6 v0R 4) 5) <| bndT (M_Rs_row (aR σ6 v0R 4) σ6) fun r10 σ11 => gdT (okO σ11 v0R 11) <| gdT (okO σ11 (aR σ11 v0R 4) 5) <| bndT (M_Rs_size (aR σ11 v0R 4) σ11) fun r14 σ15 => gdT (okO σ15 (aR σ6 v0R 5) 6) <| bndT (M_Ch_pick (aR σ6 v0R 5) r10 (0 : Int32) r14 v1I σ15) fun r16 σ17 => .inr (some (r16, σ17)))
noncomputable def F_Bp_next : S_Bp_next → S_Bp_next ⊕ Option (Int32 × AM) := fun s => match s.1 with
  | _ => T_Bp_next_0 (s.2.1) (s.2.2.1) (s.2.2.2)
noncomputable def L_Bp_next_0 (v0R : Nat) (v1I : Int32) (σ : AM) : Option (Int32 × AM) := lp F_Bp_next (0, v0R, v1I, σ)
set_option maxRecDepth 20000 in
theorem E_Bp_next_0 (v0R : Nat) (v1I : Int32) (σ : AM) : L_Bp_next_0 v0R v1I σ = (bnd (M_Ch_isWay v1I σ) fun r1 σ2 => if r1 = 0 then ((some (((-1) : Int32), σ2))) else (gd (okO σ2 v0R 11) <| gd (okO σ2 (aR σ2 v0R 4) 5) <| bnd (M_Rs_refresh (aR σ2 v0R 4) σ2) fun _ σ6 => gd (okO σ6 v0R 11) <| gd (okO σ6 (aR σ6 v0R 5) 6) <| gd (okO σ6 (aR σ6 v0R 4) 5) <| bnd (M_Rs_row (aR σ6 v0R 4) σ6) fun r10 σ11 => gd (okO σ11 v0R 11) <| gd (okO σ11 (aR σ11 v0R 4) 5) <| bnd (M_Rs_size (aR σ11 v0R 4) σ11) fun r14 σ15 => gd (okO σ15 (aR σ6 v0R 5) 6) <| bnd (M_Ch_pick (aR σ6 v0R 5) r10 (0 : Int32) r14 v1I σ15) fun r16 σ17 => (some (r16, σ17)))) := by
  unfold L_Bp_next_0
  rw [lp_eq]
  show lpK (lp F_Bp_next) (T_Bp_next_0 v0R v1I σ) = _
  unfold T_Bp_next_0
  simp only [lpK_ite, lq_inl, lq_inr, lpK_bnd, lpK_gd, lq_let]
  try rfl
noncomputable def M_Bp_next (v0R : Nat) (v1I : Int32) (σ : AM) : Option (Int32 × AM) := mw σ (L_Bp_next_0 v0R v1I σ)
def I_Bp_next (G : GX) (p : Program) (l : Launch) (e : Env) (s : State) (m : MethodId) (args : Array Value) (below : List Frame) (meth : Method) (c : Code) (z0 u0 n : Nat) : Prop :=
  (∀ (v0R : Nat) (v1I : Int32) (σ : AM), VX (QM eI G args s below z0 u0) G p l e s m args below meth c 5 z0 u0 2 (lpn F_Bp_next n (0, v0R, v1I, σ)) 0 [(0, .ref v0R), (1, .int v1I)] [] σ)
set_option maxRecDepth 20000 in
theorem s_Bp_next_0 {G : GX} {p : Program} {l : Launch} {e : Env} {s : State} {m : MethodId} {args : Array Value} {below : List Frame} {meth : Method} {c : Code} {z0 u0 n : Nat} (C : Cx G p s m args meth c prog_1_method_13_code 2 "BellPlate" ((some FieldType.int))) (IH : I_Bp_next G p l e s m args below meth c z0 u0 n) (v0R : Nat) (v1I : Int32) (σ : AM) : VX (QM eI G args s below z0 u0) G p l e s m args below meth c 5 z0 u0 2 (lpK (lpn F_Bp_next n) (T_Bp_next_0 v0R v1I σ)) 0 [(0, .ref v0R), (1, .int v1I)] [] σ := by
  unfold T_Bp_next_0
  refine x_iload_n C d_Bp_next_0 1 rfl ?_
  refine x_callSI (As := [.int v1I]) C (c_Ch_isWay G l v1I σ) w1149 w1148 w1150 w126 k_Ch_isWay rfl (by decide) (by decide) rfl (Nat.le_of_ble_eq_true rfl) d_Bp_next_1 (fun r1 σ2 => ?_)
  refine x_if_ne (tgt := 9) C d_Bp_next_4 (by decide) (fun _ => ?_) (fun _ => ?_)
  · refine x_iconst (v := ((-1) : Int32)) C d_Bp_next_7 (by decide) ?_
    exact x_iret C d_Bp_next_8
  · refine x_aload_n C d_Bp_next_9 0 rfl ?_
    refine x_gd (fun h3 => ?_)
    refine x_gd (fun h4 => ?_)
    refine x_getR (k := 4) (kv := 5) C (okO_iff.mp h3) rfl j10_ok (by decide) rfl (okO_iff.mp h4) (by decide) w694 d_Bp_next_10 ?_
    refine x_callVV (As := []) C (c_Rs_refresh G l (aR σ2 v0R 4)  σ2) (okO_iff.mp h4) rfl w1035 w1036 w1034 w1037 w125 k_Rs_refresh rfl (by decide) (by decide) rfl (Nat.le_of_ble_eq_true rfl) d_Bp_next_13 (fun r5 σ6 => ?_)
    refine x_aload_n C d_Bp_next_16 0 rfl ?_
    refine x_gd (fun h7 => ?_)
    refine x_gd (fun h8 => ?_)
    refine x_getR (k := 5) (kv := 6) C (okO_iff.mp h7) rfl j10_ok (by decide) rfl (okO_iff.mp h8) (by decide) w695 d_Bp_next_17 ?_
    refine x_aload_n C d_Bp_next_20 0 rfl ?_
    refine x_gd (fun h9 => ?_)
    refine x_getR (k := 4) (kv := 5) C (okO_iff.mp h7) rfl j10_ok (by decide) rfl (okO_iff.mp h9) (by decide) w694 d_Bp_next_21 ?_
    refine x_callVR (As := []) C (c_Rs_row G l (aR σ6 v0R 4)  σ6) (okO_iff.mp h9) rfl w1152 w1153 w1151 w1154 w125 k_Rs_row rfl (by decide) (by decide) rfl (Nat.le_of_ble_eq_true rfl) d_Bp_next_24 (fun r10 σ11 => ?_)
    refine x_iconst (v := (0 : Int32)) C d_Bp_next_27 (by decide) ?_
    refine x_aload_n C d_Bp_next_28 0 rfl ?_
    refine x_gd (fun h12 => ?_)
    refine x_gd (fun h13 => ?_)
    refine x_getR (k := 4) (kv := 5) C (okO_iff.mp h12) rfl j10_ok (by decide) rfl (okO_iff.mp h13) (by decide) w694 d_Bp_next_29 ?_
    refine x_callVI (As := []) C (c_Rs_size G l (aR σ11 v0R 4)  σ11) (okO_iff.mp h13) rfl w1084 w1085 w1083 w1086 w125 k_Rs_size rfl (by decide) (by decide) rfl (Nat.le_of_ble_eq_true rfl) d_Bp_next_32 (fun r14 σ15 => ?_)
    refine x_iload_n C d_Bp_next_35 1 rfl ?_
    refine x_gd (fun h18 => ?_)
    refine x_callVI (As := [.ref r10, .int (0 : Int32), .int r14, .int v1I]) C (c_Ch_pick G l (aR σ6 v0R 5) r10 (0 : Int32) r14 v1I σ15) (okO_iff.mp h18) rfl w1156 w1157 w1155 w1158 w126 k_Ch_pick rfl (by decide) (by decide) rfl (Nat.le_of_ble_eq_true rfl) d_Bp_next_36 (fun r16 σ17 => ?_)
    exact x_iret C d_Bp_next_39
theorem i_Bp_next {G : GX} {p : Program} {l : Launch} {e : Env} {s : State} {m : MethodId} {args : Array Value} {below : List Frame} {meth : Method} {c : Code} {z0 u0 : Nat} (C : Cx G p s m args meth c prog_1_method_13_code 2 "BellPlate" ((some FieldType.int))) (n : Nat) : I_Bp_next G p l e s m args below meth c z0 u0 n := by
  induction n with
  | zero => exact fun _ _ _ => x_none
  | succ n IH => exact fun v0R v1I σ => s_Bp_next_0 C IH v0R v1I σ
theorem c_Bp_next (G : GX) (l : Launch) (v0R : Nat) (v1I : Int32) (σ : AM) : CT eI G l 5 y_Bp_next prog_1_method_13_code 2 ((some FieldType.int)) [.ref v0R, .int v1I] σ (M_Bp_next v0R v1I σ) := by
  refine ct_of (by decide +kernel) (Nat.le_of_ble_eq_true rfl) (fun p e s m args below meth c C hin => ?_)
  refine x_lve (lv' := [(0, .ref v0R), (1, .int v1I)]) rfl ?_
  intro r σ' h
  obtain ⟨n, hn⟩ := (lp_iff _ _ _).mp h
  exact (i_Bp_next C n) v0R v1I σ r σ' hn
/-! BellPlate.isQuestion(II)Z -/
abbrev y_Bp_isQuestion : MethodName := ⟨"BellPlate", "isQuestion", "(II)Z"⟩
theorem k_Bp_isQuestion : y_Bp_isQuestion.cls ≠ "java/lang/invoke/MethodHandle" ∧ y_Bp_isQuestion.cls ≠ "java/lang/invoke/VarHandle" ∧ (parseMethodDescriptor y_Bp_isQuestion.desc).map (fun d => d.parameters.length) = some 2 := by decide +kernel
theorem d_Bp_isQuestion_0 : decode prog_1_method_16_code 0 = .ok (.iload_n 1, 1) := by decide +kernel
theorem d_Bp_isQuestion_1 : decode prog_1_method_16_code 1 = .ok (.tableswitch 101 0 4 #[35, 37, 46, 92, 35], 35) := by decide +kernel
theorem d_Bp_isQuestion_36 : decode prog_1_method_16_code 36 = .ok (.iconst 1, 1) := by decide +kernel
theorem d_Bp_isQuestion_37 : decode prog_1_method_16_code 37 = .ok (.ireturn, 1) := by decide +kernel
theorem d_Bp_isQuestion_38 : decode prog_1_method_16_code 38 = .ok (.aload_n 0, 1) := by decide +kernel
theorem d_Bp_isQuestion_39 : decode prog_1_method_16_code 39 = .ok (.getfield 19, 3) := by decide +kernel
theorem d_Bp_isQuestion_42 : decode prog_1_method_16_code 42 = .ok (.iload_n 2, 1) := by decide +kernel
theorem d_Bp_isQuestion_43 : decode prog_1_method_16_code 43 = .ok (.invokevirtual 180, 3) := by decide +kernel
theorem d_Bp_isQuestion_46 : decode prog_1_method_16_code 46 = .ok (.ireturn, 1) := by decide +kernel
theorem d_Bp_isQuestion_47 : decode prog_1_method_16_code 47 = .ok (.iload_n 2, 1) := by decide +kernel
theorem d_Bp_isQuestion_48 : decode prog_1_method_16_code 48 = .ok (.bipush 6, 2) := by decide +kernel
theorem d_Bp_isQuestion_50 : decode prog_1_method_16_code 50 = .ok (.idiv, 1) := by decide +kernel
theorem d_Bp_isQuestion_51 : decode prog_1_method_16_code 51 = .ok (.istore_n 3, 1) := by decide +kernel
theorem d_Bp_isQuestion_52 : decode prog_1_method_16_code 52 = .ok (.iload_n 2, 1) := by decide +kernel
theorem d_Bp_isQuestion_53 : decode prog_1_method_16_code 53 = .ok (.bipush 6, 2) := by decide +kernel
theorem d_Bp_isQuestion_55 : decode prog_1_method_16_code 55 = .ok (.irem, 1) := by decide +kernel
theorem d_Bp_isQuestion_56 : decode prog_1_method_16_code 56 = .ok (.istore 4, 2) := by decide +kernel
theorem d_Bp_isQuestion_58 : decode prog_1_method_16_code 58 = .ok (.aload_n 0, 1) := by decide +kernel
theorem d_Bp_isQuestion_59 : decode prog_1_method_16_code 59 = .ok (.getfield 19, 3) := by decide +kernel
theorem d_Bp_isQuestion_62 : decode prog_1_method_16_code 62 = .ok (.iload_n 3, 1) := by decide +kernel
theorem d_Bp_isQuestion_63 : decode prog_1_method_16_code 63 = .ok (.invokevirtual 180, 3) := by decide +kernel
theorem d_Bp_isQuestion_66 : decode prog_1_method_16_code 66 = .ok (.ifCond .eq 25, 3) := by decide +kernel
theorem d_Bp_isQuestion_69 : decode prog_1_method_16_code 69 = .ok (.aload_n 0, 1) := by decide +kernel
theorem d_Bp_isQuestion_70 : decode prog_1_method_16_code 70 = .ok (.getfield 19, 3) := by decide +kernel
theorem d_Bp_isQuestion_73 : decode prog_1_method_16_code 73 = .ok (.iload 4, 2) := by decide +kernel
theorem d_Bp_isQuestion_75 : decode prog_1_method_16_code 75 = .ok (.invokevirtual 180, 3) := by decide +kernel
theorem d_Bp_isQuestion_78 : decode prog_1_method_16_code 78 = .ok (.ifCond .eq 13, 3) := by decide +kernel
theorem d_Bp_isQuestion_81 : decode prog_1_method_16_code 81 = .ok (.iload_n 3, 1) := by decide +kernel
theorem d_Bp_isQuestion_82 : decode prog_1_method_16_code 82 = .ok (.iload 4, 2) := by decide +kernel
theorem d_Bp_isQuestion_84 : decode prog_1_method_16_code 84 = .ok (.if_icmp .eq 7, 3) := by decide +kernel
theorem d_Bp_isQuestion_87 : decode prog_1_method_16_code 87 = .ok (.iconst 1, 1) := by decide +kernel
theorem d_Bp_isQuestion_88 : decode prog_1_method_16_code 88 = .ok (.goto 4, 3) := by decide +kernel
theorem d_Bp_isQuestion_91 : decode prog_1_method_16_code 91 = .ok (.iconst 0, 1) := by decide +kernel
theorem d_Bp_isQuestion_92 : decode prog_1_method_16_code 92 = .ok (.ireturn, 1) := by decide +kernel
theorem d_Bp_isQuestion_93 : decode prog_1_method_16_code 93 = .ok (.aload_n 0, 1) := by decide +kernel
theorem d_Bp_isQuestion_94 : decode prog_1_method_16_code 94 = .ok (.getfield 19, 3) := by decide +kernel
theorem d_Bp_isQuestion_97 : decode prog_1_method_16_code 97 = .ok (.iload_n 2, 1) := by decide +kernel
theorem d_Bp_isQuestion_98 : decode prog_1_method_16_code 98 = .ok (.invokevirtual 140, 3) := by decide +kernel
theorem d_Bp_isQuestion_101 : decode prog_1_method_16_code 101 = .ok (.ireturn, 1) := by decide +kernel
theorem d_Bp_isQuestion_102 : decode prog_1_method_16_code 102 = .ok (.iconst 0, 1) := by decide +kernel
theorem d_Bp_isQuestion_103 : decode prog_1_method_16_code 103 = .ok (.ireturn, 1) := by decide +kernel
abbrev S_Bp_isQuestion : Type := Nat × Nat × Int32 × Int32 × Int32 × AM
noncomputable def T_Bp_isQuestion_0 (v0R : Nat) (v1I : Int32) (v2I : Int32) (σ : AM) : S_Bp_isQuestion ⊕ Option (Int32 × AM) :=
  if v1I = (0 : Int32) then (.inr (some ((1 : Int32), σ))) else (if v1I = (1 : Int32) then (gdT (okO σ v0R 11) <| gdT (okO σ (aR σ v0R 1) 1) <| bndT (M_Tw_hasThing (aR σ v0R 1) v2I σ) fun r5 σ6 => gdT (isB r5) <| .inr (some (r5, σ6))) else (if v1I = (2 : Int32) then (letT (v2I / (6 : Int32)) fun x9 => letT (v2I - v2I / (6 : Int32) * (6 : Int32)) fun x10 => gdT (okO σ v0R 11) <| gdT (okO σ (aR σ v0R 1) 1) <| bndT (M_Tw_hasThing (aR σ v0R 1) x9 σ) fun r13 σ14 => if r13 = 0 then (.inl (1, 0, 0, 0, 0, σ14)) else (gdT (okO σ14 v0R 11) <| gdT (okO σ14 (aR σ14 v0R 1) 1) <| bndT (M_Tw_hasThing (aR σ14 v0R 1) x10 σ14) fun r17 σ18 => if r17 = 0 then (.inl (1, 0, 0, 0, 0, σ18)) else (if x9 = x10 then (.inl (1, 0, 0, 0, 0, σ18)) else (.inl (2, 0, 0, 0, (1 : Int32), σ18))))) else (if v1I = (3 : Int32) then (gdT (okO σ v0R 11) <| gdT (okO σ (aR σ v0R 1) 1) <| bndT (M_Tw_hasSet (aR σ v0R 1) v2I σ) fun r22 σ23 => gdT (isB r22) <| .inr (some (r22, σ23))) else (if v1I = (4 : Int32) then (.inr (some ((1 : Int32), σ))) else (.inr (some ((0 : Int32), σ)))))))
noncomputable def T_Bp_isQuestion_1  (σ : AM) : S_Bp_isQuestion ⊕ Option (Int32 × AM) :=
  .inl (2, 0, 0, 0, (0 : Int32), σ)
noncomputable def T_Bp_isQuestion_2 (s0I : Int32) (σ : AM) : S_Bp_isQuestion ⊕ Option (Int32 × AM) :=
  gdT (isB s0I) <| .inr (some (s0I, σ))
noncomputable def F_Bp_isQuestion : S_Bp_isQuestion → S_Bp_isQuestion ⊕ Option (Int32 × AM) := fun s => match s.1 with
  | 0 => T_Bp_isQuestion_0 (s.2.1) (s.2.2.1) (s.2.2.2.1) (s.2.2.2.2.2)
  | 1 => T_Bp_isQuestion_1  (s.2.2.2.2.2)
  | _ => T_Bp_isQuestion_2 (s.2.2.2.2.1) (s.2.2.2.2.2)
noncomputable def L_Bp_isQuestion_0 (v0R : Nat) (v1I : Int32) (v2I : Int32) (σ : AM) : Option (Int32 × AM) := lp F_Bp_isQuestion (0, v0R, v1I, v2I, 0, σ)
noncomputable def L_Bp_isQuestion_1  (σ : AM) : Option (Int32 × AM) := lp F_Bp_isQuestion (1, 0, 0, 0, 0, σ)
noncomputable def L_Bp_isQuestion_2 (s0I : Int32) (σ : AM) : Option (Int32 × AM) := lp F_Bp_isQuestion (2, 0, 0, 0, s0I, σ)
set_option maxRecDepth 20000 in
theorem E_Bp_isQuestion_0 (v0R : Nat) (v1I : Int32) (v2I : Int32) (σ : AM) : L_Bp_isQuestion_0 v0R v1I v2I σ = (if v1I = (0 : Int32) then ((some ((1 : Int32), σ))) else (if v1I = (1 : Int32) then (gd (okO σ v0R 11) <| gd (okO σ (aR σ v0R 1) 1) <| bnd (M_Tw_hasThing (aR σ v0R 1) v2I σ) fun r5 σ6 => gd (isB r5) <| (some (r5, σ6))) else (if v1I = (2 : Int32) then (letT (v2I / (6 : Int32)) fun x9 => letT (v2I - v2I / (6 : Int32) * (6 : Int32)) fun x10 => gd (okO σ v0R 11) <| gd (okO σ (aR σ v0R 1) 1) <| bnd (M_Tw_hasThing (aR σ v0R 1) x9 σ) fun r13 σ14 => if r13 = 0 then (L_Bp_isQuestion_1 σ14) else (gd (okO σ14 v0R 11) <| gd (okO σ14 (aR σ14 v0R 1) 1) <| bnd (M_Tw_hasThing (aR σ14 v0R 1) x10 σ14) fun r17 σ18 => if r17 = 0 then (L_Bp_isQuestion_1 σ18) else (if x9 = x10 then (L_Bp_isQuestion_1 σ18) else (L_Bp_isQuestion_2 ((1 : Int32)) σ18)))) else (if v1I = (3 : Int32) then (gd (okO σ v0R 11) <| gd (okO σ (aR σ v0R 1) 1) <| bnd (M_Tw_hasSet (aR σ v0R 1) v2I σ) fun r22 σ23 => gd (isB r22) <| (some (r22, σ23))) else (if v1I = (4 : Int32) then ((some ((1 : Int32), σ))) else ((some ((0 : Int32), σ)))))))) := by
  unfold L_Bp_isQuestion_0
  rw [lp_eq]
  show lpK (lp F_Bp_isQuestion) (T_Bp_isQuestion_0 v0R v1I v2I σ) = _
  unfold T_Bp_isQuestion_0
  simp only [lpK_ite, lq_inl, lq_inr, lpK_bnd, lpK_gd, lq_let]
  try rfl
set_option maxRecDepth 20000 in
theorem E_Bp_isQuestion_1  (σ : AM) : L_Bp_isQuestion_1  σ = (L_Bp_isQuestion_2 ((0 : Int32)) σ) := by
  unfold L_Bp_isQuestion_1
  rw [lp_eq]
  show lpK (lp F_Bp_isQuestion) (T_Bp_isQuestion_1  σ) = _
  unfold T_Bp_isQuestion_1
  simp only [lpK_ite, lq_inl, lq_inr, lpK_bnd, lpK_gd, lq_let]
  try rfl
set_option maxRecDepth 20000 in
theorem E_Bp_isQuestion_2 (s0I : Int32) (σ : AM) : L_Bp_isQuestion_2 s0I σ = (gd (isB s0I) <| (some (s0I, σ))) := by
  unfold L_Bp_isQuestion_2
  rw [lp_eq]
  show lpK (lp F_Bp_isQuestion) (T_Bp_isQuestion_2 s0I σ) = _
  unfold T_Bp_isQuestion_2
  simp only [lpK_ite, lq_inl, lq_inr, lpK_bnd, lpK_gd, lq_let]
  try rfl
noncomputable def M_Bp_isQuestion (v0R : Nat) (v1I : Int32) (v2I : Int32) (σ : AM) : Option (Int32 × AM) := mw σ (L_Bp_isQuestion_0 v0R v1I v2I σ)
def I_Bp_isQuestion (G : GX) (p : Program) (l : Launch) (e : Env) (s : State) (m : MethodId) (args : Array Value) (below : List Frame) (meth : Method) (c : Code) (z0 u0 n : Nat) : Prop :=
  (∀ (v0R : Nat) (v1I : Int32) (v2I : Int32) (σ : AM), VX (QM eI G args s below z0 u0) G p l e s m args below meth c 2 z0 u0 5 (lpn F_Bp_isQuestion n (0, v0R, v1I, v2I, 0, σ)) 0 [(0, .ref v0R), (1, .int v1I), (2, .int v2I)] [] σ) ∧
  (∀ (σ : AM), VX (QM eI G args s below z0 u0) G p l e s m args below meth c 2 z0 u0 5 (lpn F_Bp_isQuestion n (1, 0, 0, 0, 0, σ)) 91 [] [] σ) ∧
  (∀ (s0I : Int32) (σ : AM), VX (QM eI G args s below z0 u0) G p l e s m args below meth c 2 z0 u0 5 (lpn F_Bp_isQuestion n (2, 0, 0, 0, s0I, σ)) 92 [] [.int s0I] σ)
set_option maxRecDepth 20000 in
theorem s_Bp_isQuestion_0 {G : GX} {p : Program} {l : Launch} {e : Env} {s : State} {m : MethodId} {args : Array Value} {below : List Frame} {meth : Method} {c : Code} {z0 u0 n : Nat} (C : Cx G p s m args meth c prog_1_method_16_code 5 "BellPlate" ((some FieldType.boolean))) (IH : I_Bp_isQuestion G p l e s m args below meth c z0 u0 n) (v0R : Nat) (v1I : Int32) (v2I : Int32) (σ : AM) : VX (QM eI G args s below z0 u0) G p l e s m args below meth c 2 z0 u0 5 (lpK (lpn F_Bp_isQuestion n) (T_Bp_isQuestion_0 v0R v1I v2I σ)) 0 [(0, .ref v0R), (1, .int v1I), (2, .int v2I)] [] σ := by
  unfold T_Bp_isQuestion_0
  refine x_iload_n C d_Bp_isQuestion_0 1 rfl ?_
  refine x_split (fun h1 => ?_) (fun h1 => ?_)
  · refine x_tabI (tgt := 36) C h1 d_Bp_isQuestion_1 (by decide) (by decide) rfl (by decide) ?_
    refine x_iconst (v := (1 : Int32)) C d_Bp_isQuestion_36 (by decide) ?_
    exact x_zret C (by decide) d_Bp_isQuestion_37
  · refine x_split (fun h2 => ?_) (fun h2 => ?_)
    · refine x_tabI (tgt := 38) C h2 d_Bp_isQuestion_1 (by decide) (by decide) rfl (by decide) ?_
      refine x_aload_n C d_Bp_isQuestion_38 0 rfl ?_
      refine x_gd (fun h3 => ?_)
      refine x_gd (fun h4 => ?_)
      refine x_getR (k := 1) (kv := 1) C (okO_iff.mp h3) rfl j10_ok (by decide) rfl (okO_iff.mp h4) (by decide) w691 d_Bp_isQuestion_39 ?_
      refine x_iload_n C d_Bp_isQuestion_42 2 rfl ?_
      refine x_callVI (As := [.int v2I]) C (c_Tw_hasThing G l (aR σ v0R 1) v2I σ) (okO_iff.mp h4) rfl w1112 w1113 w1111 w1114 w122 k_Tw_hasThing rfl (by decide) (by decide) rfl (Nat.le_of_ble_eq_true rfl) d_Bp_isQuestion_43 (fun r5 σ6 => ?_)
      refine x_gd (fun h7 => ?_)
      exact x_zret C (isB_narrow h7) d_Bp_isQuestion_46
    · refine x_split (fun h8 => ?_) (fun h8 => ?_)
      · refine x_tabI (tgt := 47) C h8 d_Bp_isQuestion_1 (by decide) (by decide) rfl (by decide) ?_
        refine x_iload_n C d_Bp_isQuestion_47 2 rfl ?_
        refine x_bipush (v := (6 : Int32)) C d_Bp_isQuestion_48 (by decide) ?_
        refine x_idiv C d_Bp_isQuestion_50 (by decide) ?_
        refine x_letI (fun x9 _ => ?_)
        refine x_istore_n (lv' := [(3, .int x9), (0, .ref v0R), (1, .int v1I), (2, .int v2I)]) C d_Bp_isQuestion_51 (by decide) rfl rfl ?_
        refine x_iload_n C d_Bp_isQuestion_52 3 rfl ?_
        refine x_bipush (v := (6 : Int32)) C d_Bp_isQuestion_53 (by decide) ?_
        refine x_irem C d_Bp_isQuestion_55 (by decide) ?_
        refine x_letI (fun x10 _ => ?_)
        refine x_istore (lv' := [(4, .int x10), (3, .int x9), (0, .ref v0R), (1, .int v1I), (2, .int v2I)]) C d_Bp_isQuestion_56 (by decide) rfl ?_
        refine x_aload_n C d_Bp_isQuestion_58 2 rfl ?_
        refine x_gd (fun h11 => ?_)
        refine x_gd (fun h12 => ?_)
        refine x_getR (k := 1) (kv := 1) C (okO_iff.mp h11) rfl j10_ok (by decide) rfl (okO_iff.mp h12) (by decide) w691 d_Bp_isQuestion_59 ?_
        refine x_iload_n C d_Bp_isQuestion_62 1 rfl ?_
        refine x_callVI (As := [.int x9]) C (c_Tw_hasThing G l (aR σ v0R 1) x9 σ) (okO_iff.mp h12) rfl w1112 w1113 w1111 w1114 w122 k_Tw_hasThing rfl (by decide) (by decide) rfl (Nat.le_of_ble_eq_true rfl) d_Bp_isQuestion_63 (fun r13 σ14 => ?_)
        refine x_if_eq (tgt := 91) C d_Bp_isQuestion_66 (by decide) (fun _ => ?_) (fun _ => ?_)
        · refine x_lv [] rfl ?_
          exact IH.2.1  (σ14)
        · refine x_aload_n C d_Bp_isQuestion_69 2 rfl ?_
          refine x_gd (fun h15 => ?_)
          refine x_gd (fun h16 => ?_)
          refine x_getR (k := 1) (kv := 1) C (okO_iff.mp h15) rfl j10_ok (by decide) rfl (okO_iff.mp h16) (by decide) w691 d_Bp_isQuestion_70 ?_
          refine x_iload C d_Bp_isQuestion_73 0 rfl ?_
          refine x_callVI (As := [.int x10]) C (c_Tw_hasThing G l (aR σ14 v0R 1) x10 σ14) (okO_iff.mp h16) rfl w1112 w1113 w1111 w1114 w122 k_Tw_hasThing rfl (by decide) (by decide) rfl (Nat.le_of_ble_eq_true rfl) d_Bp_isQuestion_75 (fun r17 σ18 => ?_)
          refine x_if_eq (tgt := 91) C d_Bp_isQuestion_78 (by decide) (fun _ => ?_) (fun _ => ?_)
          · refine x_lv [] rfl ?_
            exact IH.2.1  (σ18)
          · refine x_iload_n C d_Bp_isQuestion_81 1 rfl ?_
            refine x_iload C d_Bp_isQuestion_82 0 rfl ?_
            refine x_icmp_eq (tgt := 91) C d_Bp_isQuestion_84 (by decide) (fun _ => ?_) (fun _ => ?_)
            · refine x_lv [] rfl ?_
              exact IH.2.1  (σ18)
            · refine x_iconst (v := (1 : Int32)) C d_Bp_isQuestion_87 (by decide) ?_
              refine x_goto (tgt := 92) C d_Bp_isQuestion_88 (by decide) ?_
              refine x_lv [] rfl ?_
              exact IH.2.2 ((1 : Int32)) (σ18)
      · refine x_split (fun h19 => ?_) (fun h19 => ?_)
        · refine x_tabI (tgt := 93) C h19 d_Bp_isQuestion_1 (by decide) (by decide) rfl (by decide) ?_
          refine x_aload_n C d_Bp_isQuestion_93 0 rfl ?_
          refine x_gd (fun h20 => ?_)
          refine x_gd (fun h21 => ?_)
          refine x_getR (k := 1) (kv := 1) C (okO_iff.mp h20) rfl j10_ok (by decide) rfl (okO_iff.mp h21) (by decide) w691 d_Bp_isQuestion_94 ?_
          refine x_iload_n C d_Bp_isQuestion_97 2 rfl ?_
          refine x_callVI (As := [.int v2I]) C (c_Tw_hasSet G l (aR σ v0R 1) v2I σ) (okO_iff.mp h21) rfl w1005 w1006 w1004 w1007 w122 k_Tw_hasSet rfl (by decide) (by decide) rfl (Nat.le_of_ble_eq_true rfl) d_Bp_isQuestion_98 (fun r22 σ23 => ?_)
          refine x_gd (fun h24 => ?_)
          exact x_zret C (isB_narrow h24) d_Bp_isQuestion_101
        · refine x_split (fun h25 => ?_) (fun h25 => ?_)
          · refine x_tabI (tgt := 36) C h25 d_Bp_isQuestion_1 (by decide) (by decide) rfl (by decide) ?_
            refine x_iconst (v := (1 : Int32)) C d_Bp_isQuestion_36 (by decide) ?_
            exact x_zret C (by decide) d_Bp_isQuestion_37
          · refine x_tabO (tgt := 102) C d_Bp_isQuestion_1 (by have e0 := lv_neT h1 (a := 0) (by decide); have e1 := lv_neT h2 (a := 1) (by decide); have e2 := lv_neT h8 (a := 2) (by decide); have e3 := lv_neT h19 (a := 3) (by decide); have e4 := lv_neT h25 (a := 4) (by decide); omega) (by decide) ?_
            refine x_iconst (v := (0 : Int32)) C d_Bp_isQuestion_102 (by decide) ?_
            exact x_zret C (by decide) d_Bp_isQuestion_103
set_option maxRecDepth 20000 in
theorem s_Bp_isQuestion_1 {G : GX} {p : Program} {l : Launch} {e : Env} {s : State} {m : MethodId} {args : Array Value} {below : List Frame} {meth : Method} {c : Code} {z0 u0 n : Nat} (C : Cx G p s m args meth c prog_1_method_16_code 5 "BellPlate" ((some FieldType.boolean))) (IH : I_Bp_isQuestion G p l e s m args below meth c z0 u0 n)  (σ : AM) : VX (QM eI G args s below z0 u0) G p l e s m args below meth c 2 z0 u0 5 (lpK (lpn F_Bp_isQuestion n) (T_Bp_isQuestion_1  σ)) 91 [] [] σ := by
  unfold T_Bp_isQuestion_1
  refine x_iconst (v := (0 : Int32)) C d_Bp_isQuestion_91 (by decide) ?_
  exact IH.2.2 ((0 : Int32)) (σ)
set_option maxRecDepth 20000 in
theorem s_Bp_isQuestion_2 {G : GX} {p : Program} {l : Launch} {e : Env} {s : State} {m : MethodId} {args : Array Value} {below : List Frame} {meth : Method} {c : Code} {z0 u0 n : Nat} (C : Cx G p s m args meth c prog_1_method_16_code 5 "BellPlate" ((some FieldType.boolean))) (IH : I_Bp_isQuestion G p l e s m args below meth c z0 u0 n) (s0I : Int32) (σ : AM) : VX (QM eI G args s below z0 u0) G p l e s m args below meth c 2 z0 u0 5 (lpK (lpn F_Bp_isQuestion n) (T_Bp_isQuestion_2 s0I σ)) 92 [] [.int s0I] σ := by
  unfold T_Bp_isQuestion_2
  refine x_gd (fun h1 => ?_)
  exact x_zret C (isB_narrow h1) d_Bp_isQuestion_92
theorem i_Bp_isQuestion {G : GX} {p : Program} {l : Launch} {e : Env} {s : State} {m : MethodId} {args : Array Value} {below : List Frame} {meth : Method} {c : Code} {z0 u0 : Nat} (C : Cx G p s m args meth c prog_1_method_16_code 5 "BellPlate" ((some FieldType.boolean))) (n : Nat) : I_Bp_isQuestion G p l e s m args below meth c z0 u0 n := by
  induction n with
  | zero => exact ⟨fun _ _ _ _ => x_none, fun _ => x_none, fun _ _ => x_none⟩
  | succ n IH => exact ⟨fun v0R v1I v2I σ => s_Bp_isQuestion_0 C IH v0R v1I v2I σ, fun σ => s_Bp_isQuestion_1 C IH σ, fun s0I σ => s_Bp_isQuestion_2 C IH s0I σ⟩
theorem c_Bp_isQuestion (G : GX) (l : Launch) (v0R : Nat) (v1I : Int32) (v2I : Int32) (σ : AM) : CT eI G l 2 y_Bp_isQuestion prog_1_method_16_code 5 ((some FieldType.boolean)) [.ref v0R, .int v1I, .int v2I] σ (M_Bp_isQuestion v0R v1I v2I σ) := by
  refine ct_of (by decide +kernel) (Nat.le_of_ble_eq_true rfl) (fun p e s m args below meth c C hin => ?_)
  refine x_lve (lv' := [(0, .ref v0R), (1, .int v1I), (2, .int v2I)]) rfl ?_
  intro r σ' h
  obtain ⟨n, hn⟩ := (lp_iff _ _ _).mp h
  exact (i_Bp_isQuestion C n).1 v0R v1I v2I σ r σ' hn
/-! BellPlate.fewestFor(III)I -/
abbrev y_Bp_fewestFor : MethodName := ⟨"BellPlate", "fewestFor", "(III)I"⟩
theorem k_Bp_fewestFor : y_Bp_fewestFor.cls ≠ "java/lang/invoke/MethodHandle" ∧ y_Bp_fewestFor.cls ≠ "java/lang/invoke/VarHandle" ∧ (parseMethodDescriptor y_Bp_fewestFor.desc).map (fun d => d.parameters.length) = some 3 := by decide +kernel
theorem d_Bp_fewestFor_0 : decode prog_1_method_15_code 0 = .ok (.aload_n 0, 1) := by decide +kernel
theorem d_Bp_fewestFor_1 : decode prog_1_method_15_code 1 = .ok (.getfield 44, 3) := by decide +kernel
theorem d_Bp_fewestFor_4 : decode prog_1_method_15_code 4 = .ok (.invokevirtual 159, 3) := by decide +kernel
theorem d_Bp_fewestFor_7 : decode prog_1_method_15_code 7 = .ok (.iload_n 3, 1) := by decide +kernel
theorem d_Bp_fewestFor_8 : decode prog_1_method_15_code 8 = .ok (.ifCond .lt 39, 3) := by decide +kernel
theorem d_Bp_fewestFor_11 : decode prog_1_method_15_code 11 = .ok (.iload_n 3, 1) := by decide +kernel
theorem d_Bp_fewestFor_12 : decode prog_1_method_15_code 12 = .ok (.iconst 1, 1) := by decide +kernel
theorem d_Bp_fewestFor_13 : decode prog_1_method_15_code 13 = .ok (.if_icmp .gt 34, 3) := by decide +kernel
theorem d_Bp_fewestFor_16 : decode prog_1_method_15_code 16 = .ok (.aload_n 0, 1) := by decide +kernel
theorem d_Bp_fewestFor_17 : decode prog_1_method_15_code 17 = .ok (.iload_n 1, 1) := by decide +kernel
theorem d_Bp_fewestFor_18 : decode prog_1_method_15_code 18 = .ok (.iload_n 2, 1) := by decide +kernel
theorem d_Bp_fewestFor_19 : decode prog_1_method_15_code 19 = .ok (.invokevirtual 201, 3) := by decide +kernel
theorem d_Bp_fewestFor_22 : decode prog_1_method_15_code 22 = .ok (.ifCond .eq 25, 3) := by decide +kernel
theorem d_Bp_fewestFor_25 : decode prog_1_method_15_code 25 = .ok (.aload_n 0, 1) := by decide +kernel
theorem d_Bp_fewestFor_26 : decode prog_1_method_15_code 26 = .ok (.getfield 44, 3) := by decide +kernel
theorem d_Bp_fewestFor_29 : decode prog_1_method_15_code 29 = .ok (.invokevirtual 165, 3) := by decide +kernel
theorem d_Bp_fewestFor_32 : decode prog_1_method_15_code 32 = .ok (.ifCond .eq 15, 3) := by decide +kernel
theorem d_Bp_fewestFor_35 : decode prog_1_method_15_code 35 = .ok (.aload_n 0, 1) := by decide +kernel
theorem d_Bp_fewestFor_36 : decode prog_1_method_15_code 36 = .ok (.getfield 44, 3) := by decide +kernel
theorem d_Bp_fewestFor_39 : decode prog_1_method_15_code 39 = .ok (.invokevirtual 165, 3) := by decide +kernel
theorem d_Bp_fewestFor_42 : decode prog_1_method_15_code 42 = .ok (.bipush 12, 2) := by decide +kernel
theorem d_Bp_fewestFor_44 : decode prog_1_method_15_code 44 = .ok (.if_icmp .le 5, 3) := by decide +kernel
theorem d_Bp_fewestFor_47 : decode prog_1_method_15_code 47 = .ok (.iconst (-1), 1) := by decide +kernel
theorem d_Bp_fewestFor_48 : decode prog_1_method_15_code 48 = .ok (.ireturn, 1) := by decide +kernel
theorem d_Bp_fewestFor_49 : decode prog_1_method_15_code 49 = .ok (.aload_n 0, 1) := by decide +kernel
theorem d_Bp_fewestFor_50 : decode prog_1_method_15_code 50 = .ok (.getfield 62, 3) := by decide +kernel
theorem d_Bp_fewestFor_53 : decode prog_1_method_15_code 53 = .ok (.iload_n 1, 1) := by decide +kernel
theorem d_Bp_fewestFor_54 : decode prog_1_method_15_code 54 = .ok (.iload_n 2, 1) := by decide +kernel
theorem d_Bp_fewestFor_55 : decode prog_1_method_15_code 55 = .ok (.invokevirtual 205, 3) := by decide +kernel
theorem d_Bp_fewestFor_58 : decode prog_1_method_15_code 58 = .ok (.iload_n 3, 1) := by decide +kernel
theorem d_Bp_fewestFor_59 : decode prog_1_method_15_code 59 = .ok (.ifCond .ne 13, 3) := by decide +kernel
theorem d_Bp_fewestFor_62 : decode prog_1_method_15_code 62 = .ok (.aload_n 0, 1) := by decide +kernel
theorem d_Bp_fewestFor_63 : decode prog_1_method_15_code 63 = .ok (.getfield 62, 3) := by decide +kernel
theorem d_Bp_fewestFor_66 : decode prog_1_method_15_code 66 = .ok (.invokevirtual 209, 3) := by decide +kernel
theorem d_Bp_fewestFor_69 : decode prog_1_method_15_code 69 = .ok (.goto 10, 3) := by decide +kernel
theorem d_Bp_fewestFor_72 : decode prog_1_method_15_code 72 = .ok (.aload_n 0, 1) := by decide +kernel
theorem d_Bp_fewestFor_73 : decode prog_1_method_15_code 73 = .ok (.getfield 62, 3) := by decide +kernel
theorem d_Bp_fewestFor_76 : decode prog_1_method_15_code 76 = .ok (.invokevirtual 212, 3) := by decide +kernel
theorem d_Bp_fewestFor_79 : decode prog_1_method_15_code 79 = .ok (.ireturn, 1) := by decide +kernel
abbrev S_Bp_fewestFor : Type := Nat × Nat × Int32 × Int32 × Int32 × Int32 × AM
noncomputable def T_Bp_fewestFor_0 (v0R : Nat) (v1I : Int32) (v2I : Int32) (v3I : Int32) (σ : AM) : S_Bp_fewestFor ⊕ Option (Int32 × AM) :=
  gdT (okO σ v0R 11) <| gdT (okO σ (aR σ v0R 4) 5) <| bndT (M_Rs_refresh (aR σ v0R 4) σ) fun _ σ4 => if v3I < 0 then (.inl (1, 0, 0, 0, 0, 0, σ4)) else (if (1 : Int32) < v3I then (.inl (1, 0, 0, 0, 0, 0, σ4)) else (gdT (okO σ4 v0R 11) <| bndT (M_Bp_isQuestion v0R v1I v2I σ4) fun r5 σ6 => if r5 = 0 then (.inl (1, 0, 0, 0, 0, 0, σ6)) else (gdT (okO σ6 v0R 11) <| gdT (okO σ6 (aR σ6 v0R 4) 5) <| bndT (M_Rs_size (aR σ6 v0R 4) σ6) fun r10 σ11 => if r10 = 0 then (.inl (1, 0, 0, 0, 0, 0, σ11)) else (gdT (okO σ11 v0R 11) <| gdT (okO σ11 (aR σ11 v0R 4) 5) <| bndT (M_Rs_size (aR σ11 v0R 4) σ11) fun r14 σ15 => if (12 : Int32) < r14 then (.inl (1, 0, 0, 0, 0, 0, σ15)) else (gdT (okO σ15 v0R 11) <| gdT (okO σ15 (aR σ15 v0R 6) 7) <| bndT (M_Pl_plan (aR σ15 v0R 6) v1I v2I σ15) fun _ σ19 => if v3I = 0 then (gdT (okO σ19 v0R 11) <| gdT (okO σ19 (aR σ19 v0R 6) 7) <| bndT (M_Pl_trials (aR σ19 v0R 6) σ19) fun r22 σ23 => .inl (2, 0, 0, 0, 0, r22, σ23)) else (gdT (okO σ19 v0R 11) <| gdT (okO σ19 (aR σ19 v0R 6) 7) <| bndT (M_Pl_firstSet (aR σ19 v0R 6) σ19) fun r26 σ27 => .inl (2, 0, 0, 0, 0, r26, σ27)))))))
noncomputable def T_Bp_fewestFor_1  (σ : AM) : S_Bp_fewestFor ⊕ Option (Int32 × AM) :=
  .inr (some (((-1) : Int32), σ))
noncomputable def T_Bp_fewestFor_2 (s0I : Int32) (σ : AM) : S_Bp_fewestFor ⊕ Option (Int32 × AM) :=
  .inr (some (s0I, σ))
noncomputable def F_Bp_fewestFor : S_Bp_fewestFor → S_Bp_fewestFor ⊕ Option (Int32 × AM) := fun s => match s.1 with
  | 0 => T_Bp_fewestFor_0 (s.2.1) (s.2.2.1) (s.2.2.2.1) (s.2.2.2.2.1) (s.2.2.2.2.2.2)
  | 1 => T_Bp_fewestFor_1  (s.2.2.2.2.2.2)
  | _ => T_Bp_fewestFor_2 (s.2.2.2.2.2.1) (s.2.2.2.2.2.2)
noncomputable def L_Bp_fewestFor_0 (v0R : Nat) (v1I : Int32) (v2I : Int32) (v3I : Int32) (σ : AM) : Option (Int32 × AM) := lp F_Bp_fewestFor (0, v0R, v1I, v2I, v3I, 0, σ)
noncomputable def L_Bp_fewestFor_1  (σ : AM) : Option (Int32 × AM) := lp F_Bp_fewestFor (1, 0, 0, 0, 0, 0, σ)
noncomputable def L_Bp_fewestFor_2 (s0I : Int32) (σ : AM) : Option (Int32 × AM) := lp F_Bp_fewestFor (2, 0, 0, 0, 0, s0I, σ)
set_option maxRecDepth 20000 in
theorem E_Bp_fewestFor_0 (v0R : Nat) (v1I : Int32) (v2I : Int32) (v3I : Int32) (σ : AM) : L_Bp_fewestFor_0 v0R v1I v2I v3I σ = (gd (okO σ v0R 11) <| gd (okO σ (aR σ v0R 4) 5) <| bnd (M_Rs_refresh (aR σ v0R 4) σ) fun _ σ4 => if v3I < 0 then (L_Bp_fewestFor_1 σ4) else (if (1 : Int32) < v3I then (L_Bp_fewestFor_1 σ4) else (gd (okO σ4 v0R 11) <| bnd (M_Bp_isQuestion v0R v1I v2I σ4) fun r5 σ6 => if r5 = 0 then (L_Bp_fewestFor_1 σ6) else (gd (okO σ6 v0R 11) <| gd (okO σ6 (aR σ6 v0R 4) 5) <| bnd (M_Rs_size (aR σ6 v0R 4) σ6) fun r10 σ11 => if r10 = 0 then (L_Bp_fewestFor_1 σ11) else (gd (okO σ11 v0R 11) <| gd (okO σ11 (aR σ11 v0R 4) 5) <| bnd (M_Rs_size (aR σ11 v0R 4) σ11) fun r14 σ15 => if (12 : Int32) < r14 then (L_Bp_fewestFor_1 σ15) else (gd (okO σ15 v0R 11) <| gd (okO σ15 (aR σ15 v0R 6) 7) <| bnd (M_Pl_plan (aR σ15 v0R 6) v1I v2I σ15) fun _ σ19 => if v3I = 0 then (gd (okO σ19 v0R 11) <| gd (okO σ19 (aR σ19 v0R 6) 7) <| bnd (M_Pl_trials (aR σ19 v0R 6) σ19) fun r22 σ23 => L_Bp_fewestFor_2 r22 σ23) else (gd (okO σ19 v0R 11) <| gd (okO σ19 (aR σ19 v0R 6) 7) <| bnd (M_Pl_firstSet (aR σ19 v0R 6) σ19) fun r26 σ27 => L_Bp_fewestFor_2 r26 σ27))))))) := by
  unfold L_Bp_fewestFor_0
  rw [lp_eq]
  show lpK (lp F_Bp_fewestFor) (T_Bp_fewestFor_0 v0R v1I v2I v3I σ) = _
  unfold T_Bp_fewestFor_0
  simp only [lpK_ite, lq_inl, lq_inr, lpK_bnd, lpK_gd, lq_let]
  try rfl
set_option maxRecDepth 20000 in
theorem E_Bp_fewestFor_1  (σ : AM) : L_Bp_fewestFor_1  σ = ((some (((-1) : Int32), σ))) := by
  unfold L_Bp_fewestFor_1
  rw [lp_eq]
  show lpK (lp F_Bp_fewestFor) (T_Bp_fewestFor_1  σ) = _
  unfold T_Bp_fewestFor_1
  simp only [lpK_ite, lq_inl, lq_inr, lpK_bnd, lpK_gd, lq_let]
  try rfl
set_option maxRecDepth 20000 in
theorem E_Bp_fewestFor_2 (s0I : Int32) (σ : AM) : L_Bp_fewestFor_2 s0I σ = ((some (s0I, σ))) := by
  unfold L_Bp_fewestFor_2
  rw [lp_eq]
  show lpK (lp F_Bp_fewestFor) (T_Bp_fewestFor_2 s0I σ) = _
  unfold T_Bp_fewestFor_2
  simp only [lpK_ite, lq_inl, lq_inr, lpK_bnd, lpK_gd, lq_let]
  try rfl
noncomputable def M_Bp_fewestFor (v0R : Nat) (v1I : Int32) (v2I : Int32) (v3I : Int32) (σ : AM) : Option (Int32 × AM) := mw σ (L_Bp_fewestFor_0 v0R v1I v2I v3I σ)
def I_Bp_fewestFor (G : GX) (p : Program) (l : Launch) (e : Env) (s : State) (m : MethodId) (args : Array Value) (below : List Frame) (meth : Method) (c : Code) (z0 u0 n : Nat) : Prop :=
  (∀ (v0R : Nat) (v1I : Int32) (v2I : Int32) (v3I : Int32) (σ : AM), VX (QM eI G args s below z0 u0) G p l e s m args below meth c 83 z0 u0 4 (lpn F_Bp_fewestFor n (0, v0R, v1I, v2I, v3I, 0, σ)) 0 [(0, .ref v0R), (1, .int v1I), (2, .int v2I), (3, .int v3I)] [] σ) ∧
  (∀ (σ : AM), VX (QM eI G args s below z0 u0) G p l e s m args below meth c 83 z0 u0 4 (lpn F_Bp_fewestFor n (1, 0, 0, 0, 0, 0, σ)) 47 [] [] σ) ∧
  (∀ (s0I : Int32) (σ : AM), VX (QM eI G args s below z0 u0) G p l e s m args below meth c 83 z0 u0 4 (lpn F_Bp_fewestFor n (2, 0, 0, 0, 0, s0I, σ)) 79 [] [.int s0I] σ)
set_option maxRecDepth 20000 in
theorem s_Bp_fewestFor_0 {G : GX} {p : Program} {l : Launch} {e : Env} {s : State} {m : MethodId} {args : Array Value} {below : List Frame} {meth : Method} {c : Code} {z0 u0 n : Nat} (C : Cx G p s m args meth c prog_1_method_15_code 4 "BellPlate" ((some FieldType.int))) (IH : I_Bp_fewestFor G p l e s m args below meth c z0 u0 n) (v0R : Nat) (v1I : Int32) (v2I : Int32) (v3I : Int32) (σ : AM) : VX (QM eI G args s below z0 u0) G p l e s m args below meth c 83 z0 u0 4 (lpK (lpn F_Bp_fewestFor n) (T_Bp_fewestFor_0 v0R v1I v2I v3I σ)) 0 [(0, .ref v0R), (1, .int v1I), (2, .int v2I), (3, .int v3I)] [] σ := by
  unfold T_Bp_fewestFor_0
  refine x_aload_n C d_Bp_fewestFor_0 0 rfl ?_
  refine x_gd (fun h1 => ?_)
  refine x_gd (fun h2 => ?_)
  refine x_getR (k := 4) (kv := 5) C (okO_iff.mp h1) rfl j10_ok (by decide) rfl (okO_iff.mp h2) (by decide) w694 d_Bp_fewestFor_1 ?_
  refine x_callVV (As := []) C (c_Rs_refresh G l (aR σ v0R 4)  σ) (okO_iff.mp h2) rfl w1035 w1036 w1034 w1037 w125 k_Rs_refresh rfl (by decide) (by decide) rfl (Nat.le_of_ble_eq_true rfl) d_Bp_fewestFor_4 (fun r3 σ4 => ?_)
  refine x_iload_n C d_Bp_fewestFor_7 3 rfl ?_
  refine x_if_lt (tgt := 47) C d_Bp_fewestFor_8 (by decide) (fun _ => ?_) (fun _ => ?_)
  · refine x_lv [] rfl ?_
    exact IH.2.1  (σ4)
  · refine x_iload_n C d_Bp_fewestFor_11 3 rfl ?_
    refine x_iconst (v := (1 : Int32)) C d_Bp_fewestFor_12 (by decide) ?_
    refine x_icmp_gt (tgt := 47) C d_Bp_fewestFor_13 (by decide) (fun _ => ?_) (fun _ => ?_)
    · refine x_lv [] rfl ?_
      exact IH.2.1  (σ4)
    · refine x_aload_n C d_Bp_fewestFor_16 0 rfl ?_
      refine x_iload_n C d_Bp_fewestFor_17 1 rfl ?_
      refine x_iload_n C d_Bp_fewestFor_18 2 rfl ?_
      refine x_gd (fun h7 => ?_)
      refine x_callVI (As := [.int v1I, .int v2I]) C (c_Bp_isQuestion G l v0R v1I v2I σ4) (okO_iff.mp h7) rfl w1200 w27 w1198 w1201 w120 k_Bp_isQuestion rfl (by decide) (by decide) rfl (Nat.le_of_ble_eq_true rfl) d_Bp_fewestFor_19 (fun r5 σ6 => ?_)
      refine x_if_eq (tgt := 47) C d_Bp_fewestFor_22 (by decide) (fun _ => ?_) (fun _ => ?_)
      · refine x_lv [] rfl ?_
        exact IH.2.1  (σ6)
      · refine x_aload_n C d_Bp_fewestFor_25 0 rfl ?_
        refine x_gd (fun h8 => ?_)
        refine x_gd (fun h9 => ?_)
        refine x_getR (k := 4) (kv := 5) C (okO_iff.mp h8) rfl j10_ok (by decide) rfl (okO_iff.mp h9) (by decide) w694 d_Bp_fewestFor_26 ?_
        refine x_callVI (As := []) C (c_Rs_size G l (aR σ6 v0R 4)  σ6) (okO_iff.mp h9) rfl w1084 w1085 w1083 w1086 w125 k_Rs_size rfl (by decide) (by decide) rfl (Nat.le_of_ble_eq_true rfl) d_Bp_fewestFor_29 (fun r10 σ11 => ?_)
        refine x_if_eq (tgt := 47) C d_Bp_fewestFor_32 (by decide) (fun _ => ?_) (fun _ => ?_)
        · refine x_lv [] rfl ?_
          exact IH.2.1  (σ11)
        · refine x_aload_n C d_Bp_fewestFor_35 0 rfl ?_
          refine x_gd (fun h12 => ?_)
          refine x_gd (fun h13 => ?_)
          refine x_getR (k := 4) (kv := 5) C (okO_iff.mp h12) rfl j10_ok (by decide) rfl (okO_iff.mp h13) (by decide) w694 d_Bp_fewestFor_36 ?_
          refine x_callVI (As := []) C (c_Rs_size G l (aR σ11 v0R 4)  σ11) (okO_iff.mp h13) rfl w1084 w1085 w1083 w1086 w125 k_Rs_size rfl (by decide) (by decide) rfl (Nat.le_of_ble_eq_true rfl) d_Bp_fewestFor_39 (fun r14 σ15 => ?_)
          refine x_bipush (v := (12 : Int32)) C d_Bp_fewestFor_42 (by decide) ?_
          refine x_icmp_le (tgt := 49) C d_Bp_fewestFor_44 (by decide) (fun _ => ?_) (fun _ => ?_)
          · refine x_lv [] rfl ?_
            exact IH.2.1  (σ15)
          · refine x_aload_n C d_Bp_fewestFor_49 0 rfl ?_
            refine x_gd (fun h16 => ?_)
            refine x_gd (fun h17 => ?_)
            refine x_getR (k := 6) (kv := 7) C (okO_iff.mp h16) rfl j10_ok (by decide) rfl (okO_iff.mp h17) (by decide) w696 d_Bp_fewestFor_50 ?_
            refine x_iload_n C d_Bp_fewestFor_53 1 rfl ?_
            refine x_iload_n C d_Bp_fewestFor_54 2 rfl ?_
            refine x_callVV (As := [.int v1I, .int v2I]) C (c_Pl_plan G l (aR σ15 v0R 6) v1I v2I σ15) (okO_iff.mp h17) rfl w1203 w1204 w1202 w1205 w128 k_Pl_plan rfl (by decide) (by decide) rfl (Nat.le_of_ble_eq_true rfl) d_Bp_fewestFor_55 (fun r18 σ19 => ?_)
            refine x_iload_n C d_Bp_fewestFor_58 3 rfl ?_
            refine x_if_ne (tgt := 72) C d_Bp_fewestFor_59 (by decide) (fun _ => ?_) (fun _ => ?_)
            · refine x_aload_n C d_Bp_fewestFor_62 0 rfl ?_
              refine x_gd (fun h20 => ?_)
              refine x_gd (fun h21 => ?_)
              refine x_getR (k := 6) (kv := 7) C (okO_iff.mp h20) rfl j10_ok (by decide) rfl (okO_iff.mp h21) (by decide) w696 d_Bp_fewestFor_63 ?_
              refine x_callVI (As := []) C (c_Pl_trials G l (aR σ19 v0R 6)  σ19) (okO_iff.mp h21) rfl w1239 w1240 w1238 w1241 w128 k_Pl_trials rfl (by decide) (by decide) rfl (Nat.le_of_ble_eq_true rfl) d_Bp_fewestFor_66 (fun r22 σ23 => ?_)
              refine x_goto (tgt := 79) C d_Bp_fewestFor_69 (by decide) ?_
              refine x_lv [] rfl ?_
              exact IH.2.2 r22 (σ23)
            · refine x_aload_n C d_Bp_fewestFor_72 0 rfl ?_
              refine x_gd (fun h24 => ?_)
              refine x_gd (fun h25 => ?_)
              refine x_getR (k := 6) (kv := 7) C (okO_iff.mp h24) rfl j10_ok (by decide) rfl (okO_iff.mp h25) (by decide) w696 d_Bp_fewestFor_73 ?_
              refine x_callVI (As := []) C (c_Pl_firstSet G l (aR σ19 v0R 6)  σ19) (okO_iff.mp h25) rfl w1243 w1244 w1242 w1245 w128 k_Pl_firstSet rfl (by decide) (by decide) rfl (Nat.le_of_ble_eq_true rfl) d_Bp_fewestFor_76 (fun r26 σ27 => ?_)
              refine x_lv [] rfl ?_
              exact IH.2.2 r26 (σ27)
set_option maxRecDepth 20000 in
theorem s_Bp_fewestFor_1 {G : GX} {p : Program} {l : Launch} {e : Env} {s : State} {m : MethodId} {args : Array Value} {below : List Frame} {meth : Method} {c : Code} {z0 u0 n : Nat} (C : Cx G p s m args meth c prog_1_method_15_code 4 "BellPlate" ((some FieldType.int))) (IH : I_Bp_fewestFor G p l e s m args below meth c z0 u0 n)  (σ : AM) : VX (QM eI G args s below z0 u0) G p l e s m args below meth c 83 z0 u0 4 (lpK (lpn F_Bp_fewestFor n) (T_Bp_fewestFor_1  σ)) 47 [] [] σ := by
  unfold T_Bp_fewestFor_1
  refine x_iconst (v := ((-1) : Int32)) C d_Bp_fewestFor_47 (by decide) ?_
  exact x_iret C d_Bp_fewestFor_48
set_option maxRecDepth 20000 in
theorem s_Bp_fewestFor_2 {G : GX} {p : Program} {l : Launch} {e : Env} {s : State} {m : MethodId} {args : Array Value} {below : List Frame} {meth : Method} {c : Code} {z0 u0 n : Nat} (C : Cx G p s m args meth c prog_1_method_15_code 4 "BellPlate" ((some FieldType.int))) (IH : I_Bp_fewestFor G p l e s m args below meth c z0 u0 n) (s0I : Int32) (σ : AM) : VX (QM eI G args s below z0 u0) G p l e s m args below meth c 83 z0 u0 4 (lpK (lpn F_Bp_fewestFor n) (T_Bp_fewestFor_2 s0I σ)) 79 [] [.int s0I] σ := by
  unfold T_Bp_fewestFor_2
  exact x_iret C d_Bp_fewestFor_79
theorem i_Bp_fewestFor {G : GX} {p : Program} {l : Launch} {e : Env} {s : State} {m : MethodId} {args : Array Value} {below : List Frame} {meth : Method} {c : Code} {z0 u0 : Nat} (C : Cx G p s m args meth c prog_1_method_15_code 4 "BellPlate" ((some FieldType.int))) (n : Nat) : I_Bp_fewestFor G p l e s m args below meth c z0 u0 n := by
  induction n with
  | zero => exact ⟨fun _ _ _ _ _ => x_none, fun _ => x_none, fun _ _ => x_none⟩
  | succ n IH => exact ⟨fun v0R v1I v2I v3I σ => s_Bp_fewestFor_0 C IH v0R v1I v2I v3I σ, fun σ => s_Bp_fewestFor_1 C IH σ, fun s0I σ => s_Bp_fewestFor_2 C IH s0I σ⟩
theorem c_Bp_fewestFor (G : GX) (l : Launch) (v0R : Nat) (v1I : Int32) (v2I : Int32) (v3I : Int32) (σ : AM) : CT eI G l 83 y_Bp_fewestFor prog_1_method_15_code 4 ((some FieldType.int)) [.ref v0R, .int v1I, .int v2I, .int v3I] σ (M_Bp_fewestFor v0R v1I v2I v3I σ) := by
  refine ct_of (by decide +kernel) (Nat.le_of_ble_eq_true rfl) (fun p e s m args below meth c C hin => ?_)
  refine x_lve (lv' := [(0, .ref v0R), (1, .int v1I), (2, .int v2I), (3, .int v3I)]) rfl ?_
  intro r σ' h
  obtain ⟨n, hn⟩ := (lp_iff _ _ _).mp h
  exact (i_Bp_fewestFor C n).1 v0R v1I v2I v3I σ r σ' hn
/-! BellPlate.fewest(I)I -/
abbrev y_Bp_fewest : MethodName := ⟨"BellPlate", "fewest", "(I)I"⟩
theorem k_Bp_fewest : y_Bp_fewest.cls ≠ "java/lang/invoke/MethodHandle" ∧ y_Bp_fewest.cls ≠ "java/lang/invoke/VarHandle" ∧ (parseMethodDescriptor y_Bp_fewest.desc).map (fun d => d.parameters.length) = some 1 := by decide +kernel
theorem d_Bp_fewest_0 : decode prog_1_method_14_code 0 = .ok (.aload_n 0, 1) := by decide +kernel
theorem d_Bp_fewest_1 : decode prog_1_method_14_code 1 = .ok (.iconst 0, 1) := by decide +kernel
theorem d_Bp_fewest_2 : decode prog_1_method_14_code 2 = .ok (.iconst 0, 1) := by decide +kernel
theorem d_Bp_fewest_3 : decode prog_1_method_14_code 3 = .ok (.iload_n 1, 1) := by decide +kernel
theorem d_Bp_fewest_4 : decode prog_1_method_14_code 4 = .ok (.invokevirtual 197, 3) := by decide +kernel
theorem d_Bp_fewest_7 : decode prog_1_method_14_code 7 = .ok (.ireturn, 1) := by decide +kernel
abbrev S_Bp_fewest : Type := Nat × Nat × Int32 × AM
noncomputable def T_Bp_fewest_0 (v0R : Nat) (v1I : Int32) (σ : AM) : S_Bp_fewest ⊕ Option (Int32 × AM) :=
  gdT (okO σ v0R 11) <| bndT (M_Bp_fewestFor v0R (0 : Int32) (0 : Int32) v1I σ) fun r1 σ2 => .inr (some (r1, σ2))
noncomputable def F_Bp_fewest : S_Bp_fewest → S_Bp_fewest ⊕ Option (Int32 × AM) := fun s => match s.1 with
  | _ => T_Bp_fewest_0 (s.2.1) (s.2.2.1) (s.2.2.2)
noncomputable def L_Bp_fewest_0 (v0R : Nat) (v1I : Int32) (σ : AM) : Option (Int32 × AM) := lp F_Bp_fewest (0, v0R, v1I, σ)
set_option maxRecDepth 20000 in
theorem E_Bp_fewest_0 (v0R : Nat) (v1I : Int32) (σ : AM) : L_Bp_fewest_0 v0R v1I σ = (gd (okO σ v0R 11) <| bnd (M_Bp_fewestFor v0R (0 : Int32) (0 : Int32) v1I σ) fun r1 σ2 => (some (r1, σ2))) := by
  unfold L_Bp_fewest_0
  rw [lp_eq]
  show lpK (lp F_Bp_fewest) (T_Bp_fewest_0 v0R v1I σ) = _
  unfold T_Bp_fewest_0
  simp only [lpK_ite, lq_inl, lq_inr, lpK_bnd, lpK_gd, lq_let]
  try rfl
noncomputable def M_Bp_fewest (v0R : Nat) (v1I : Int32) (σ : AM) : Option (Int32 × AM) := mw σ (L_Bp_fewest_0 v0R v1I σ)
def I_Bp_fewest (G : GX) (p : Program) (l : Launch) (e : Env) (s : State) (m : MethodId) (args : Array Value) (below : List Frame) (meth : Method) (c : Code) (z0 u0 n : Nat) : Prop :=
  (∀ (v0R : Nat) (v1I : Int32) (σ : AM), VX (QM eI G args s below z0 u0) G p l e s m args below meth c 84 z0 u0 2 (lpn F_Bp_fewest n (0, v0R, v1I, σ)) 0 [(0, .ref v0R), (1, .int v1I)] [] σ)
set_option maxRecDepth 20000 in
theorem s_Bp_fewest_0 {G : GX} {p : Program} {l : Launch} {e : Env} {s : State} {m : MethodId} {args : Array Value} {below : List Frame} {meth : Method} {c : Code} {z0 u0 n : Nat} (C : Cx G p s m args meth c prog_1_method_14_code 2 "BellPlate" ((some FieldType.int))) (IH : I_Bp_fewest G p l e s m args below meth c z0 u0 n) (v0R : Nat) (v1I : Int32) (σ : AM) : VX (QM eI G args s below z0 u0) G p l e s m args below meth c 84 z0 u0 2 (lpK (lpn F_Bp_fewest n) (T_Bp_fewest_0 v0R v1I σ)) 0 [(0, .ref v0R), (1, .int v1I)] [] σ := by
  unfold T_Bp_fewest_0
  refine x_aload_n C d_Bp_fewest_0 0 rfl ?_
  refine x_iconst (v := (0 : Int32)) C d_Bp_fewest_1 (by decide) ?_
  refine x_iconst (v := (0 : Int32)) C d_Bp_fewest_2 (by decide) ?_
  refine x_iload_n C d_Bp_fewest_3 1 rfl ?_
  refine x_gd (fun h3 => ?_)
  refine x_callVI (As := [.int (0 : Int32), .int (0 : Int32), .int v1I]) C (c_Bp_fewestFor G l v0R (0 : Int32) (0 : Int32) v1I σ) (okO_iff.mp h3) rfl w1195 w1196 w1194 w1197 w120 k_Bp_fewestFor rfl (by decide) (by decide) rfl (Nat.le_of_ble_eq_true rfl) d_Bp_fewest_4 (fun r1 σ2 => ?_)
  exact x_iret C d_Bp_fewest_7
theorem i_Bp_fewest {G : GX} {p : Program} {l : Launch} {e : Env} {s : State} {m : MethodId} {args : Array Value} {below : List Frame} {meth : Method} {c : Code} {z0 u0 : Nat} (C : Cx G p s m args meth c prog_1_method_14_code 2 "BellPlate" ((some FieldType.int))) (n : Nat) : I_Bp_fewest G p l e s m args below meth c z0 u0 n := by
  induction n with
  | zero => exact fun _ _ _ => x_none
  | succ n IH => exact fun v0R v1I σ => s_Bp_fewest_0 C IH v0R v1I σ
theorem c_Bp_fewest (G : GX) (l : Launch) (v0R : Nat) (v1I : Int32) (σ : AM) : CT eI G l 84 y_Bp_fewest prog_1_method_14_code 2 ((some FieldType.int)) [.ref v0R, .int v1I] σ (M_Bp_fewest v0R v1I σ) := by
  refine ct_of (by decide +kernel) (Nat.le_of_ble_eq_true rfl) (fun p e s m args below meth c C hin => ?_)
  refine x_lve (lv' := [(0, .ref v0R), (1, .int v1I)]) rfl ?_
  intro r σ' h
  obtain ⟨n, hn⟩ := (lp_iff _ _ _).mp h
  exact (i_Bp_fewest C n) v0R v1I σ r σ' hn
/-! BellPlate.canRun(II)Z -/
abbrev y_Bp_canRun : MethodName := ⟨"BellPlate", "canRun", "(II)Z"⟩
theorem k_Bp_canRun : y_Bp_canRun.cls ≠ "java/lang/invoke/MethodHandle" ∧ y_Bp_canRun.cls ≠ "java/lang/invoke/VarHandle" ∧ (parseMethodDescriptor y_Bp_canRun.desc).map (fun d => d.parameters.length) = some 2 := by decide +kernel
theorem d_Bp_canRun_0 : decode prog_1_method_19_code 0 = .ok (.aload_n 0, 1) := by decide +kernel
theorem d_Bp_canRun_1 : decode prog_1_method_19_code 1 = .ok (.getfield 44, 3) := by decide +kernel
theorem d_Bp_canRun_4 : decode prog_1_method_19_code 4 = .ok (.invokevirtual 159, 3) := by decide +kernel
theorem d_Bp_canRun_7 : decode prog_1_method_19_code 7 = .ok (.iload_n 2, 1) := by decide +kernel
theorem d_Bp_canRun_8 : decode prog_1_method_19_code 8 = .ok (.invokestatic 186, 3) := by decide +kernel
theorem d_Bp_canRun_11 : decode prog_1_method_19_code 11 = .ok (.ifCond .eq 29, 3) := by decide +kernel
theorem d_Bp_canRun_14 : decode prog_1_method_19_code 14 = .ok (.aload_n 0, 1) := by decide +kernel
theorem d_Bp_canRun_15 : decode prog_1_method_19_code 15 = .ok (.getfield 19, 3) := by decide +kernel
theorem d_Bp_canRun_18 : decode prog_1_method_19_code 18 = .ok (.iload_n 1, 1) := by decide +kernel
theorem d_Bp_canRun_19 : decode prog_1_method_19_code 19 = .ok (.invokevirtual 128, 3) := by decide +kernel
theorem d_Bp_canRun_22 : decode prog_1_method_19_code 22 = .ok (.ifCond .eq 18, 3) := by decide +kernel
theorem d_Bp_canRun_25 : decode prog_1_method_19_code 25 = .ok (.aload_n 0, 1) := by decide +kernel
theorem d_Bp_canRun_26 : decode prog_1_method_19_code 26 = .ok (.getfield 44, 3) := by decide +kernel
theorem d_Bp_canRun_29 : decode prog_1_method_19_code 29 = .ok (.iload_n 1, 1) := by decide +kernel
theorem d_Bp_canRun_30 : decode prog_1_method_19_code 30 = .ok (.invokevirtual 240, 3) := by decide +kernel
theorem d_Bp_canRun_33 : decode prog_1_method_19_code 33 = .ok (.ifCond .eq 7, 3) := by decide +kernel
theorem d_Bp_canRun_36 : decode prog_1_method_19_code 36 = .ok (.iconst 1, 1) := by decide +kernel
theorem d_Bp_canRun_37 : decode prog_1_method_19_code 37 = .ok (.goto 4, 3) := by decide +kernel
theorem d_Bp_canRun_40 : decode prog_1_method_19_code 40 = .ok (.iconst 0, 1) := by decide +kernel
theorem d_Bp_canRun_41 : decode prog_1_method_19_code 41 = .ok (.ireturn, 1) := by decide +kernel
abbrev S_Bp_canRun : Type := Nat × Nat × Int32 × Int32 × Int32 × AM
noncomputable def T_Bp_canRun_0 (v0R : Nat) (v1I : Int32) (v2I : Int32) (σ : AM) : S_Bp_canRun ⊕ Option (Int32 × AM) :=
  gdT (okO σ v0R 11) <| gdT (okO σ (aR σ v0R 4) 5) <| bndT (M_Rs_refresh (aR σ v0R 4) σ) fun _ σ4 => bndT (M_Ch_isWay v2I σ4) fun r5 σ6 => if r5 = 0 then (.inl (1, 0, 0, 0, 0, σ6)) else (gdT (okO σ6 v0R 11) <| gdT (okO σ6 (aR σ6 v0R 1) 1) <| bndT (M_Tw_hasWeights (aR σ6 v0R 1) v1I σ6) fun r9 σ10 => if r9 = 0 then (.inl (1, 0, 0, 0, 0, σ10)) else (gdT (okO σ10 v0R 11) <| gdT (okO σ10 (aR σ10 v0R 4) 5) <| bndT (M_Rs_holds (aR σ10 v0R 4) v1I σ10) fun r13 σ14 => if r13 = 0 then (.inl (1, 0, 0, 0, 0, σ14)) else (.inl (2, 0, 0, 0, (1 : Int32), σ14))))
noncomputable def T_Bp_canRun_1  (σ : AM) : S_Bp_canRun ⊕ Option (Int32 × AM) :=
  .inl (2, 0, 0, 0, (0 : Int32), σ)
noncomputable def T_Bp_canRun_2 (s0I : Int32) (σ : AM) : S_Bp_canRun ⊕ Option (Int32 × AM) :=
  gdT (isB s0I) <| .inr (some (s0I, σ))
noncomputable def F_Bp_canRun : S_Bp_canRun → S_Bp_canRun ⊕ Option (Int32 × AM) := fun s => match s.1 with
  | 0 => T_Bp_canRun_0 (s.2.1) (s.2.2.1) (s.2.2.2.1) (s.2.2.2.2.2)
  | 1 => T_Bp_canRun_1  (s.2.2.2.2.2)
  | _ => T_Bp_canRun_2 (s.2.2.2.2.1) (s.2.2.2.2.2)
noncomputable def L_Bp_canRun_0 (v0R : Nat) (v1I : Int32) (v2I : Int32) (σ : AM) : Option (Int32 × AM) := lp F_Bp_canRun (0, v0R, v1I, v2I, 0, σ)
noncomputable def L_Bp_canRun_1  (σ : AM) : Option (Int32 × AM) := lp F_Bp_canRun (1, 0, 0, 0, 0, σ)
noncomputable def L_Bp_canRun_2 (s0I : Int32) (σ : AM) : Option (Int32 × AM) := lp F_Bp_canRun (2, 0, 0, 0, s0I, σ)
set_option maxRecDepth 20000 in
theorem E_Bp_canRun_0 (v0R : Nat) (v1I : Int32) (v2I : Int32) (σ : AM) : L_Bp_canRun_0 v0R v1I v2I σ = (gd (okO σ v0R 11) <| gd (okO σ (aR σ v0R 4) 5) <| bnd (M_Rs_refresh (aR σ v0R 4) σ) fun _ σ4 => bnd (M_Ch_isWay v2I σ4) fun r5 σ6 => if r5 = 0 then (L_Bp_canRun_1 σ6) else (gd (okO σ6 v0R 11) <| gd (okO σ6 (aR σ6 v0R 1) 1) <| bnd (M_Tw_hasWeights (aR σ6 v0R 1) v1I σ6) fun r9 σ10 => if r9 = 0 then (L_Bp_canRun_1 σ10) else (gd (okO σ10 v0R 11) <| gd (okO σ10 (aR σ10 v0R 4) 5) <| bnd (M_Rs_holds (aR σ10 v0R 4) v1I σ10) fun r13 σ14 => if r13 = 0 then (L_Bp_canRun_1 σ14) else (L_Bp_canRun_2 ((1 : Int32)) σ14)))) := by
  unfold L_Bp_canRun_0
  rw [lp_eq]
  show lpK (lp F_Bp_canRun) (T_Bp_canRun_0 v0R v1I v2I σ) = _
  unfold T_Bp_canRun_0
  simp only [lpK_ite, lq_inl, lq_inr, lpK_bnd, lpK_gd, lq_let]
  try rfl
set_option maxRecDepth 20000 in
theorem E_Bp_canRun_1  (σ : AM) : L_Bp_canRun_1  σ = (L_Bp_canRun_2 ((0 : Int32)) σ) := by
  unfold L_Bp_canRun_1
  rw [lp_eq]
  show lpK (lp F_Bp_canRun) (T_Bp_canRun_1  σ) = _
  unfold T_Bp_canRun_1
  simp only [lpK_ite, lq_inl, lq_inr, lpK_bnd, lpK_gd, lq_let]
  try rfl
set_option maxRecDepth 20000 in
theorem E_Bp_canRun_2 (s0I : Int32) (σ : AM) : L_Bp_canRun_2 s0I σ = (gd (isB s0I) <| (some (s0I, σ))) := by
  unfold L_Bp_canRun_2
  rw [lp_eq]
  show lpK (lp F_Bp_canRun) (T_Bp_canRun_2 s0I σ) = _
  unfold T_Bp_canRun_2
  simp only [lpK_ite, lq_inl, lq_inr, lpK_bnd, lpK_gd, lq_let]
  try rfl
noncomputable def M_Bp_canRun (v0R : Nat) (v1I : Int32) (v2I : Int32) (σ : AM) : Option (Int32 × AM) := mw σ (L_Bp_canRun_0 v0R v1I v2I σ)
def I_Bp_canRun (G : GX) (p : Program) (l : Launch) (e : Env) (s : State) (m : MethodId) (args : Array Value) (below : List Frame) (meth : Method) (c : Code) (z0 u0 n : Nat) : Prop :=
  (∀ (v0R : Nat) (v1I : Int32) (v2I : Int32) (σ : AM), VX (QM eI G args s below z0 u0) G p l e s m args below meth c 3 z0 u0 3 (lpn F_Bp_canRun n (0, v0R, v1I, v2I, 0, σ)) 0 [(0, .ref v0R), (1, .int v1I), (2, .int v2I)] [] σ) ∧
  (∀ (σ : AM), VX (QM eI G args s below z0 u0) G p l e s m args below meth c 3 z0 u0 3 (lpn F_Bp_canRun n (1, 0, 0, 0, 0, σ)) 40 [] [] σ) ∧
  (∀ (s0I : Int32) (σ : AM), VX (QM eI G args s below z0 u0) G p l e s m args below meth c 3 z0 u0 3 (lpn F_Bp_canRun n (2, 0, 0, 0, s0I, σ)) 41 [] [.int s0I] σ)
set_option maxRecDepth 20000 in
theorem s_Bp_canRun_0 {G : GX} {p : Program} {l : Launch} {e : Env} {s : State} {m : MethodId} {args : Array Value} {below : List Frame} {meth : Method} {c : Code} {z0 u0 n : Nat} (C : Cx G p s m args meth c prog_1_method_19_code 3 "BellPlate" ((some FieldType.boolean))) (IH : I_Bp_canRun G p l e s m args below meth c z0 u0 n) (v0R : Nat) (v1I : Int32) (v2I : Int32) (σ : AM) : VX (QM eI G args s below z0 u0) G p l e s m args below meth c 3 z0 u0 3 (lpK (lpn F_Bp_canRun n) (T_Bp_canRun_0 v0R v1I v2I σ)) 0 [(0, .ref v0R), (1, .int v1I), (2, .int v2I)] [] σ := by
  unfold T_Bp_canRun_0
  refine x_aload_n C d_Bp_canRun_0 0 rfl ?_
  refine x_gd (fun h1 => ?_)
  refine x_gd (fun h2 => ?_)
  refine x_getR (k := 4) (kv := 5) C (okO_iff.mp h1) rfl j10_ok (by decide) rfl (okO_iff.mp h2) (by decide) w694 d_Bp_canRun_1 ?_
  refine x_callVV (As := []) C (c_Rs_refresh G l (aR σ v0R 4)  σ) (okO_iff.mp h2) rfl w1035 w1036 w1034 w1037 w125 k_Rs_refresh rfl (by decide) (by decide) rfl (Nat.le_of_ble_eq_true rfl) d_Bp_canRun_4 (fun r3 σ4 => ?_)
  refine x_iload_n C d_Bp_canRun_7 2 rfl ?_
  refine x_callSI (As := [.int v2I]) C (c_Ch_isWay G l v2I σ4) w1149 w1148 w1150 w126 k_Ch_isWay rfl (by decide) (by decide) rfl (Nat.le_of_ble_eq_true rfl) d_Bp_canRun_8 (fun r5 σ6 => ?_)
  refine x_if_eq (tgt := 40) C d_Bp_canRun_11 (by decide) (fun _ => ?_) (fun _ => ?_)
  · refine x_lv [] rfl ?_
    exact IH.2.1  (σ6)
  · refine x_aload_n C d_Bp_canRun_14 0 rfl ?_
    refine x_gd (fun h7 => ?_)
    refine x_gd (fun h8 => ?_)
    refine x_getR (k := 1) (kv := 1) C (okO_iff.mp h7) rfl j10_ok (by decide) rfl (okO_iff.mp h8) (by decide) w691 d_Bp_canRun_15 ?_
    refine x_iload_n C d_Bp_canRun_18 1 rfl ?_
    refine x_callVI (As := [.int v1I]) C (c_Tw_hasWeights G l (aR σ6 v0R 1) v1I σ6) (okO_iff.mp h8) rfl w978 w979 w977 w980 w122 k_Tw_hasWeights rfl (by decide) (by decide) rfl (Nat.le_of_ble_eq_true rfl) d_Bp_canRun_19 (fun r9 σ10 => ?_)
    refine x_if_eq (tgt := 40) C d_Bp_canRun_22 (by decide) (fun _ => ?_) (fun _ => ?_)
    · refine x_lv [] rfl ?_
      exact IH.2.1  (σ10)
    · refine x_aload_n C d_Bp_canRun_25 0 rfl ?_
      refine x_gd (fun h11 => ?_)
      refine x_gd (fun h12 => ?_)
      refine x_getR (k := 4) (kv := 5) C (okO_iff.mp h11) rfl j10_ok (by decide) rfl (okO_iff.mp h12) (by decide) w694 d_Bp_canRun_26 ?_
      refine x_iload_n C d_Bp_canRun_29 1 rfl ?_
      refine x_callVI (As := [.int v1I]) C (c_Rs_holds G l (aR σ10 v0R 4) v1I σ10) (okO_iff.mp h12) rfl w1256 w1257 w1255 w1258 w125 k_Rs_holds rfl (by decide) (by decide) rfl (Nat.le_of_ble_eq_true rfl) d_Bp_canRun_30 (fun r13 σ14 => ?_)
      refine x_if_eq (tgt := 40) C d_Bp_canRun_33 (by decide) (fun _ => ?_) (fun _ => ?_)
      · refine x_lv [] rfl ?_
        exact IH.2.1  (σ14)
      · refine x_iconst (v := (1 : Int32)) C d_Bp_canRun_36 (by decide) ?_
        refine x_goto (tgt := 41) C d_Bp_canRun_37 (by decide) ?_
        refine x_lv [] rfl ?_
        exact IH.2.2 ((1 : Int32)) (σ14)
set_option maxRecDepth 20000 in
theorem s_Bp_canRun_1 {G : GX} {p : Program} {l : Launch} {e : Env} {s : State} {m : MethodId} {args : Array Value} {below : List Frame} {meth : Method} {c : Code} {z0 u0 n : Nat} (C : Cx G p s m args meth c prog_1_method_19_code 3 "BellPlate" ((some FieldType.boolean))) (IH : I_Bp_canRun G p l e s m args below meth c z0 u0 n)  (σ : AM) : VX (QM eI G args s below z0 u0) G p l e s m args below meth c 3 z0 u0 3 (lpK (lpn F_Bp_canRun n) (T_Bp_canRun_1  σ)) 40 [] [] σ := by
  unfold T_Bp_canRun_1
  refine x_iconst (v := (0 : Int32)) C d_Bp_canRun_40 (by decide) ?_
  exact IH.2.2 ((0 : Int32)) (σ)
set_option maxRecDepth 20000 in
theorem s_Bp_canRun_2 {G : GX} {p : Program} {l : Launch} {e : Env} {s : State} {m : MethodId} {args : Array Value} {below : List Frame} {meth : Method} {c : Code} {z0 u0 n : Nat} (C : Cx G p s m args meth c prog_1_method_19_code 3 "BellPlate" ((some FieldType.boolean))) (IH : I_Bp_canRun G p l e s m args below meth c z0 u0 n) (s0I : Int32) (σ : AM) : VX (QM eI G args s below z0 u0) G p l e s m args below meth c 3 z0 u0 3 (lpK (lpn F_Bp_canRun n) (T_Bp_canRun_2 s0I σ)) 41 [] [.int s0I] σ := by
  unfold T_Bp_canRun_2
  refine x_gd (fun h1 => ?_)
  exact x_zret C (isB_narrow h1) d_Bp_canRun_41
theorem i_Bp_canRun {G : GX} {p : Program} {l : Launch} {e : Env} {s : State} {m : MethodId} {args : Array Value} {below : List Frame} {meth : Method} {c : Code} {z0 u0 : Nat} (C : Cx G p s m args meth c prog_1_method_19_code 3 "BellPlate" ((some FieldType.boolean))) (n : Nat) : I_Bp_canRun G p l e s m args below meth c z0 u0 n := by
  induction n with
  | zero => exact ⟨fun _ _ _ _ => x_none, fun _ => x_none, fun _ _ => x_none⟩
  | succ n IH => exact ⟨fun v0R v1I v2I σ => s_Bp_canRun_0 C IH v0R v1I v2I σ, fun σ => s_Bp_canRun_1 C IH σ, fun s0I σ => s_Bp_canRun_2 C IH s0I σ⟩
theorem c_Bp_canRun (G : GX) (l : Launch) (v0R : Nat) (v1I : Int32) (v2I : Int32) (σ : AM) : CT eI G l 3 y_Bp_canRun prog_1_method_19_code 3 ((some FieldType.boolean)) [.ref v0R, .int v1I, .int v2I] σ (M_Bp_canRun v0R v1I v2I σ) := by
  refine ct_of (by decide +kernel) (Nat.le_of_ble_eq_true rfl) (fun p e s m args below meth c C hin => ?_)
  refine x_lve (lv' := [(0, .ref v0R), (1, .int v1I), (2, .int v2I)]) rfl ?_
  intro r σ' h
  obtain ⟨n, hn⟩ := (lp_iff _ _ _).mp h
  exact (i_Bp_canRun C n).1 v0R v1I v2I σ r σ' hn
/-! BellPlate.run(III)I -/
abbrev y_Bp_run : MethodName := ⟨"BellPlate", "run", "(III)I"⟩
theorem k_Bp_run : y_Bp_run.cls ≠ "java/lang/invoke/MethodHandle" ∧ y_Bp_run.cls ≠ "java/lang/invoke/VarHandle" ∧ (parseMethodDescriptor y_Bp_run.desc).map (fun d => d.parameters.length) = some 3 := by decide +kernel
theorem d_Bp_run_0 : decode prog_1_method_17_code 0 = .ok (.aload_n 0, 1) := by decide +kernel
theorem d_Bp_run_1 : decode prog_1_method_17_code 1 = .ok (.iload_n 1, 1) := by decide +kernel
theorem d_Bp_run_2 : decode prog_1_method_17_code 2 = .ok (.iload_n 2, 1) := by decide +kernel
theorem d_Bp_run_3 : decode prog_1_method_17_code 3 = .ok (.invokevirtual 215, 3) := by decide +kernel
theorem d_Bp_run_6 : decode prog_1_method_17_code 6 = .ok (.ifCond .eq 12, 3) := by decide +kernel
theorem d_Bp_run_9 : decode prog_1_method_17_code 9 = .ok (.iload_n 3, 1) := by decide +kernel
theorem d_Bp_run_10 : decode prog_1_method_17_code 10 = .ok (.ifCond .lt 8, 3) := by decide +kernel
theorem d_Bp_run_13 : decode prog_1_method_17_code 13 = .ok (.iload_n 3, 1) := by decide +kernel
theorem d_Bp_run_14 : decode prog_1_method_17_code 14 = .ok (.iconst 2, 1) := by decide +kernel
theorem d_Bp_run_15 : decode prog_1_method_17_code 15 = .ok (.if_icmp .le 13, 3) := by decide +kernel
theorem d_Bp_run_18 : decode prog_1_method_17_code 18 = .ok (.new 218, 3) := by decide +kernel
theorem d_Bp_run_28 : decode prog_1_method_17_code 28 = .ok (.aload_n 0, 1) := by decide +kernel
theorem d_Bp_run_29 : decode prog_1_method_17_code 29 = .ok (.getfield 53, 3) := by decide +kernel
theorem d_Bp_run_32 : decode prog_1_method_17_code 32 = .ok (.iload_n 1, 1) := by decide +kernel
theorem d_Bp_run_33 : decode prog_1_method_17_code 33 = .ok (.iload_n 2, 1) := by decide +kernel
theorem d_Bp_run_34 : decode prog_1_method_17_code 34 = .ok (.invokevirtual 225, 3) := by decide +kernel
theorem d_Bp_run_37 : decode prog_1_method_17_code 37 = .ok (.iload_n 3, 1) := by decide +kernel
theorem d_Bp_run_38 : decode prog_1_method_17_code 38 = .ok (.lookupswitch 42 #[(0, 26), (1, 34)], 26) := by decide +kernel
theorem d_Bp_run_64 : decode prog_1_method_17_code 64 = .ok (.aload_n 0, 1) := by decide +kernel
theorem d_Bp_run_65 : decode prog_1_method_17_code 65 = .ok (.getfield 53, 3) := by decide +kernel
theorem d_Bp_run_68 : decode prog_1_method_17_code 68 = .ok (.invokevirtual 228, 3) := by decide +kernel
theorem d_Bp_run_71 : decode prog_1_method_17_code 71 = .ok (.ireturn, 1) := by decide +kernel
theorem d_Bp_run_72 : decode prog_1_method_17_code 72 = .ok (.aload_n 0, 1) := by decide +kernel
theorem d_Bp_run_73 : decode prog_1_method_17_code 73 = .ok (.getfield 53, 3) := by decide +kernel
theorem d_Bp_run_76 : decode prog_1_method_17_code 76 = .ok (.invokevirtual 231, 3) := by decide +kernel
theorem d_Bp_run_79 : decode prog_1_method_17_code 79 = .ok (.ireturn, 1) := by decide +kernel
theorem d_Bp_run_80 : decode prog_1_method_17_code 80 = .ok (.aload_n 0, 1) := by decide +kernel
theorem d_Bp_run_81 : decode prog_1_method_17_code 81 = .ok (.getfield 53, 3) := by decide +kernel
theorem d_Bp_run_84 : decode prog_1_method_17_code 84 = .ok (.invokevirtual 234, 3) := by decide +kernel
theorem d_Bp_run_87 : decode prog_1_method_17_code 87 = .ok (.ireturn, 1) := by decide +kernel
abbrev S_Bp_run : Type := Nat × Nat × Int32 × Int32 × Int32 × AM
noncomputable def T_Bp_run_0 (v0R : Nat) (v1I : Int32) (v2I : Int32) (v3I : Int32) (σ : AM) : S_Bp_run ⊕ Option (Int32 × AM) :=
  gdT (okO σ v0R 11) <| bndT (M_Bp_canRun v0R v1I v2I σ) fun r1 σ2 => if r1 = 0 then (.inl (1, 0, 0, 0, 0, σ2)) else (if v3I < 0 then (.inl (1, 0, 0, 0, 0, σ2)) else (if (2 : Int32) < v3I then (.inl (1, 0, 0, 0, 0, σ2)) else (gdT (okO σ2 v0R 11) <| gdT (okO σ2 (aR σ2 v0R 5) 6) <| bndT (M_Ch_hide (aR σ2 v0R 5) v1I v2I σ2) fun _ σ7 => if v3I = (0 : Int32) then (gdT (okO σ7 v0R 11) <| gdT (okO σ7 (aR σ7 v0R 5) 6) <| bndT (M_Ch_made (aR σ7 v0R 5) σ7) fun r11 σ12 => .inr (some (r11, σ12))) else (if v3I = (1 : Int32) then (gdT (okO σ7 v0R 11) <| gdT (okO σ7 (aR σ7 v0R 5) 6) <| bndT (M_Ch_rang (aR σ7 v0R 5) σ7) fun r16 σ17 => .inr (some (r16, σ17))) else (gdT (okO σ7 v0R 11) <| gdT (okO σ7 (aR σ7 v0R 5) 6) <| bndT (M_Ch_paid (aR σ7 v0R 5) σ7) fun r20 σ21 => .inr (some (r20, σ21)))))))
noncomputable def T_Bp_run_1  (σ : AM) : S_Bp_run ⊕ Option (Int32 × AM) :=
  .inr none
noncomputable def F_Bp_run : S_Bp_run → S_Bp_run ⊕ Option (Int32 × AM) := fun s => match s.1 with
  | 0 => T_Bp_run_0 (s.2.1) (s.2.2.1) (s.2.2.2.1) (s.2.2.2.2.1) (s.2.2.2.2.2)
  | _ => T_Bp_run_1  (s.2.2.2.2.2)
noncomputable def L_Bp_run_0 (v0R : Nat) (v1I : Int32) (v2I : Int32) (v3I : Int32) (σ : AM) : Option (Int32 × AM) := lp F_Bp_run (0, v0R, v1I, v2I, v3I, σ)
noncomputable def L_Bp_run_1  (σ : AM) : Option (Int32 × AM) := lp F_Bp_run (1, 0, 0, 0, 0, σ)
set_option maxRecDepth 20000 in
theorem E_Bp_run_0 (v0R : Nat) (v1I : Int32) (v2I : Int32) (v3I : Int32) (σ : AM) : L_Bp_run_0 v0R v1I v2I v3I σ = (gd (okO σ v0R 11) <| bnd (M_Bp_canRun v0R v1I v2I σ) fun r1 σ2 => if r1 = 0 then (L_Bp_run_1 σ2) else (if v3I < 0 then (L_Bp_run_1 σ2) else (if (2 : Int32) < v3I then (L_Bp_run_1 σ2) else (gd (okO σ2 v0R 11) <| gd (okO σ2 (aR σ2 v0R 5) 6) <| bnd (M_Ch_hide (aR σ2 v0R 5) v1I v2I σ2) fun _ σ7 => if v3I = (0 : Int32) then (gd (okO σ7 v0R 11) <| gd (okO σ7 (aR σ7 v0R 5) 6) <| bnd (M_Ch_made (aR σ7 v0R 5) σ7) fun r11 σ12 => (some (r11, σ12))) else (if v3I = (1 : Int32) then (gd (okO σ7 v0R 11) <| gd (okO σ7 (aR σ7 v0R 5) 6) <| bnd (M_Ch_rang (aR σ7 v0R 5) σ7) fun r16 σ17 => (some (r16, σ17))) else (gd (okO σ7 v0R 11) <| gd (okO σ7 (aR σ7 v0R 5) 6) <| bnd (M_Ch_paid (aR σ7 v0R 5) σ7) fun r20 σ21 => (some (r20, σ21)))))))) := by
  unfold L_Bp_run_0
  rw [lp_eq]
  show lpK (lp F_Bp_run) (T_Bp_run_0 v0R v1I v2I v3I σ) = _
  unfold T_Bp_run_0
  simp only [lpK_ite, lq_inl, lq_inr, lpK_bnd, lpK_gd, lq_let]
  try rfl
set_option maxRecDepth 20000 in
theorem E_Bp_run_1  (σ : AM) : L_Bp_run_1  σ = (none) := by
  unfold L_Bp_run_1
  rw [lp_eq]
  show lpK (lp F_Bp_run) (T_Bp_run_1  σ) = _
  unfold T_Bp_run_1
  simp only [lpK_ite, lq_inl, lq_inr, lpK_bnd, lpK_gd, lq_let]
  try rfl
noncomputable def M_Bp_run (v0R : Nat) (v1I : Int32) (v2I : Int32) (v3I : Int32) (σ : AM) : Option (Int32 × AM) := mw σ (L_Bp_run_0 v0R v1I v2I v3I σ)
def I_Bp_run (G : GX) (p : Program) (l : Launch) (e : Env) (s : State) (m : MethodId) (args : Array Value) (below : List Frame) (meth : Method) (c : Code) (z0 u0 n : Nat) : Prop :=
  (∀ (v0R : Nat) (v1I : Int32) (v2I : Int32) (v3I : Int32) (σ : AM), VX (QM eI G args s below z0 u0) G p l e s m args below meth c 6 z0 u0 4 (lpn F_Bp_run n (0, v0R, v1I, v2I, v3I, σ)) 0 [(0, .ref v0R), (1, .int v1I), (2, .int v2I), (3, .int v3I)] [] σ) ∧
  (∀ (σ : AM), VX (QM eI G args s below z0 u0) G p l e s m args below meth c 6 z0 u0 4 (lpn F_Bp_run n (1, 0, 0, 0, 0, σ)) 18 [] [] σ)
set_option maxRecDepth 20000 in
theorem s_Bp_run_0 {G : GX} {p : Program} {l : Launch} {e : Env} {s : State} {m : MethodId} {args : Array Value} {below : List Frame} {meth : Method} {c : Code} {z0 u0 n : Nat} (C : Cx G p s m args meth c prog_1_method_17_code 4 "BellPlate" ((some FieldType.int))) (IH : I_Bp_run G p l e s m args below meth c z0 u0 n) (v0R : Nat) (v1I : Int32) (v2I : Int32) (v3I : Int32) (σ : AM) : VX (QM eI G args s below z0 u0) G p l e s m args below meth c 6 z0 u0 4 (lpK (lpn F_Bp_run n) (T_Bp_run_0 v0R v1I v2I v3I σ)) 0 [(0, .ref v0R), (1, .int v1I), (2, .int v2I), (3, .int v3I)] [] σ := by
  unfold T_Bp_run_0
  refine x_aload_n C d_Bp_run_0 0 rfl ?_
  refine x_iload_n C d_Bp_run_1 1 rfl ?_
  refine x_iload_n C d_Bp_run_2 2 rfl ?_
  refine x_gd (fun h3 => ?_)
  refine x_callVI (As := [.int v1I, .int v2I]) C (c_Bp_canRun G l v0R v1I v2I σ) (okO_iff.mp h3) rfl w1253 w34 w1251 w1254 w120 k_Bp_canRun rfl (by decide) (by decide) rfl (Nat.le_of_ble_eq_true rfl) d_Bp_run_3 (fun r1 σ2 => ?_)
  refine x_if_eq (tgt := 18) C d_Bp_run_6 (by decide) (fun _ => ?_) (fun _ => ?_)
  · refine x_lv [] rfl ?_
    exact IH.2  (σ2)
  · refine x_iload_n C d_Bp_run_9 3 rfl ?_
    refine x_if_lt (tgt := 18) C d_Bp_run_10 (by decide) (fun _ => ?_) (fun _ => ?_)
    · refine x_lv [] rfl ?_
      exact IH.2  (σ2)
    · refine x_iload_n C d_Bp_run_13 3 rfl ?_
      refine x_iconst (v := (2 : Int32)) C d_Bp_run_14 (by decide) ?_
      refine x_icmp_le (tgt := 28) C d_Bp_run_15 (by decide) (fun _ => ?_) (fun _ => ?_)
      · refine x_lv [] rfl ?_
        exact IH.2  (σ2)
      · refine x_aload_n C d_Bp_run_28 0 rfl ?_
        refine x_gd (fun h4 => ?_)
        refine x_gd (fun h5 => ?_)
        refine x_getR (k := 5) (kv := 6) C (okO_iff.mp h4) rfl j10_ok (by decide) rfl (okO_iff.mp h5) (by decide) w695 d_Bp_run_29 ?_
        refine x_iload_n C d_Bp_run_32 1 rfl ?_
        refine x_iload_n C d_Bp_run_33 2 rfl ?_
        refine x_callVV (As := [.int v1I, .int v2I]) C (c_Ch_hide G l (aR σ2 v0R 5) v1I v2I σ2) (okO_iff.mp h5) rfl w1260 w1261 w1259 w1262 w126 k_Ch_hide rfl (by decide) (by decide) rfl (Nat.le_of_ble_eq_true rfl) d_Bp_run_34 (fun r6 σ7 => ?_)
        refine x_iload_n C d_Bp_run_37 3 rfl ?_
        refine x_split (fun h8 => ?_) (fun h8 => ?_)
        · refine x_look (off := 26) (tgt := 64) C d_Bp_run_38 (by decide) (by rw [h8]; rfl) (by decide) ?_
          refine x_aload_n C d_Bp_run_64 0 rfl ?_
          refine x_gd (fun h9 => ?_)
          refine x_gd (fun h10 => ?_)
          refine x_getR (k := 5) (kv := 6) C (okO_iff.mp h9) rfl j10_ok (by decide) rfl (okO_iff.mp h10) (by decide) w695 d_Bp_run_65 ?_
          refine x_callVI (As := []) C (c_Ch_made G l (aR σ7 v0R 5)  σ7) (okO_iff.mp h10) rfl w1772 w1773 w1771 w1774 w126 k_Ch_made rfl (by decide) (by decide) rfl (Nat.le_of_ble_eq_true rfl) d_Bp_run_68 (fun r11 σ12 => ?_)
          exact x_iret C d_Bp_run_71
        · refine x_split (fun h13 => ?_) (fun h13 => ?_)
          · refine x_look (off := 34) (tgt := 72) C d_Bp_run_38 (by decide) (by rw [h13]; rfl) (by decide) ?_
            refine x_aload_n C d_Bp_run_72 0 rfl ?_
            refine x_gd (fun h14 => ?_)
            refine x_gd (fun h15 => ?_)
            refine x_getR (k := 5) (kv := 6) C (okO_iff.mp h14) rfl j10_ok (by decide) rfl (okO_iff.mp h15) (by decide) w695 d_Bp_run_73 ?_
            refine x_callVI (As := []) C (c_Ch_rang G l (aR σ7 v0R 5)  σ7) (okO_iff.mp h15) rfl w1776 w1777 w1775 w1778 w126 k_Ch_rang rfl (by decide) (by decide) rfl (Nat.le_of_ble_eq_true rfl) d_Bp_run_76 (fun r16 σ17 => ?_)
            exact x_iret C d_Bp_run_79
          · refine x_look (off := 42) (tgt := 80) C d_Bp_run_38 (by decide) ((lv_osw h8 (by decide)).trans ((lv_osw h13 (by decide)).trans (rfl))) (by decide) ?_
            refine x_aload_n C d_Bp_run_80 0 rfl ?_
            refine x_gd (fun h18 => ?_)
            refine x_gd (fun h19 => ?_)
            refine x_getR (k := 5) (kv := 6) C (okO_iff.mp h18) rfl j10_ok (by decide) rfl (okO_iff.mp h19) (by decide) w695 d_Bp_run_81 ?_
            refine x_callVI (As := []) C (c_Ch_paid G l (aR σ7 v0R 5)  σ7) (okO_iff.mp h19) rfl w1780 w1781 w1779 w1782 w126 k_Ch_paid rfl (by decide) (by decide) rfl (Nat.le_of_ble_eq_true rfl) d_Bp_run_84 (fun r20 σ21 => ?_)
            exact x_iret C d_Bp_run_87
set_option maxRecDepth 20000 in
theorem s_Bp_run_1 {G : GX} {p : Program} {l : Launch} {e : Env} {s : State} {m : MethodId} {args : Array Value} {below : List Frame} {meth : Method} {c : Code} {z0 u0 n : Nat} (C : Cx G p s m args meth c prog_1_method_17_code 4 "BellPlate" ((some FieldType.int))) (IH : I_Bp_run G p l e s m args below meth c z0 u0 n)  (σ : AM) : VX (QM eI G args s below z0 u0) G p l e s m args below meth c 6 z0 u0 4 (lpK (lpn F_Bp_run n) (T_Bp_run_1  σ)) 18 [] [] σ := by
  unfold T_Bp_run_1
  exact x_die
theorem i_Bp_run {G : GX} {p : Program} {l : Launch} {e : Env} {s : State} {m : MethodId} {args : Array Value} {below : List Frame} {meth : Method} {c : Code} {z0 u0 : Nat} (C : Cx G p s m args meth c prog_1_method_17_code 4 "BellPlate" ((some FieldType.int))) (n : Nat) : I_Bp_run G p l e s m args below meth c z0 u0 n := by
  induction n with
  | zero => exact ⟨fun _ _ _ _ _ => x_none, fun _ => x_none⟩
  | succ n IH => exact ⟨fun v0R v1I v2I v3I σ => s_Bp_run_0 C IH v0R v1I v2I v3I σ, fun σ => s_Bp_run_1 C IH σ⟩
theorem c_Bp_run (G : GX) (l : Launch) (v0R : Nat) (v1I : Int32) (v2I : Int32) (v3I : Int32) (σ : AM) : CT eI G l 6 y_Bp_run prog_1_method_17_code 4 ((some FieldType.int)) [.ref v0R, .int v1I, .int v2I, .int v3I] σ (M_Bp_run v0R v1I v2I v3I σ) := by
  refine ct_of (by decide +kernel) (Nat.le_of_ble_eq_true rfl) (fun p e s m args below meth c C hin => ?_)
  refine x_lve (lv' := [(0, .ref v0R), (1, .int v1I), (2, .int v2I), (3, .int v3I)]) rfl ?_
  intro r σ' h
  obtain ⟨n, hn⟩ := (lp_iff _ _ _).mp h
  exact (i_Bp_run C n).1 v0R v1I v2I v3I σ r σ' hn
/-! BellPlate.runSet(III)I -/
abbrev y_Bp_runSet : MethodName := ⟨"BellPlate", "runSet", "(III)I"⟩
theorem k_Bp_runSet : y_Bp_runSet.cls ≠ "java/lang/invoke/MethodHandle" ∧ y_Bp_runSet.cls ≠ "java/lang/invoke/VarHandle" ∧ (parseMethodDescriptor y_Bp_runSet.desc).map (fun d => d.parameters.length) = some 3 := by decide +kernel
theorem d_Bp_runSet_0 : decode prog_1_method_18_code 0 = .ok (.aload_n 0, 1) := by decide +kernel
theorem d_Bp_runSet_1 : decode prog_1_method_18_code 1 = .ok (.iload_n 1, 1) := by decide +kernel
theorem d_Bp_runSet_2 : decode prog_1_method_18_code 2 = .ok (.iload_n 2, 1) := by decide +kernel
theorem d_Bp_runSet_3 : decode prog_1_method_18_code 3 = .ok (.invokevirtual 215, 3) := by decide +kernel
theorem d_Bp_runSet_6 : decode prog_1_method_18_code 6 = .ok (.ifCond .ne 5, 3) := by decide +kernel
theorem d_Bp_runSet_9 : decode prog_1_method_18_code 9 = .ok (.iconst (-1), 1) := by decide +kernel
theorem d_Bp_runSet_10 : decode prog_1_method_18_code 10 = .ok (.ireturn, 1) := by decide +kernel
theorem d_Bp_runSet_11 : decode prog_1_method_18_code 11 = .ok (.aload_n 0, 1) := by decide +kernel
theorem d_Bp_runSet_12 : decode prog_1_method_18_code 12 = .ok (.getfield 53, 3) := by decide +kernel
theorem d_Bp_runSet_15 : decode prog_1_method_18_code 15 = .ok (.iload_n 1, 1) := by decide +kernel
theorem d_Bp_runSet_16 : decode prog_1_method_18_code 16 = .ok (.iload_n 2, 1) := by decide +kernel
theorem d_Bp_runSet_17 : decode prog_1_method_18_code 17 = .ok (.invokevirtual 225, 3) := by decide +kernel
theorem d_Bp_runSet_20 : decode prog_1_method_18_code 20 = .ok (.aload_n 0, 1) := by decide +kernel
theorem d_Bp_runSet_21 : decode prog_1_method_18_code 21 = .ok (.getfield 53, 3) := by decide +kernel
theorem d_Bp_runSet_24 : decode prog_1_method_18_code 24 = .ok (.iload_n 3, 1) := by decide +kernel
theorem d_Bp_runSet_25 : decode prog_1_method_18_code 25 = .ok (.invokevirtual 237, 3) := by decide +kernel
theorem d_Bp_runSet_28 : decode prog_1_method_18_code 28 = .ok (.ireturn, 1) := by decide +kernel
abbrev S_Bp_runSet : Type := Nat × Nat × Int32 × Int32 × Int32 × AM
noncomputable def T_Bp_runSet_0 (v0R : Nat) (v1I : Int32) (v2I : Int32) (v3I : Int32) (σ : AM) : S_Bp_runSet ⊕ Option (Int32 × AM) :=
  gdT (okO σ v0R 11) <| bndT (M_Bp_canRun v0R v1I v2I σ) fun r1 σ2 => if r1 = 0 then (.inr (some (((-1) : Int32), σ2))) else (gdT (okO σ2 v0R 11) <| gdT (okO σ2 (aR σ2 v0R 5) 6) <| bndT (M_Ch_hide (aR σ2 v0R 5) v1I v2I σ2) fun _ σ7 => gdT (okO σ7 v0R 11) <| gdT (okO σ7 (aR σ7 v0R 5) 6) <| bndT (M_Ch_setAt (aR σ7 v0R 5) v3I σ7) fun r10 σ11 => .inr (some (r10, σ11)))
noncomputable def F_Bp_runSet : S_Bp_runSet → S_Bp_runSet ⊕ Option (Int32 × AM) := fun s => match s.1 with
  | _ => T_Bp_runSet_0 (s.2.1) (s.2.2.1) (s.2.2.2.1) (s.2.2.2.2.1) (s.2.2.2.2.2)
noncomputable def L_Bp_runSet_0 (v0R : Nat) (v1I : Int32) (v2I : Int32) (v3I : Int32) (σ : AM) : Option (Int32 × AM) := lp F_Bp_runSet (0, v0R, v1I, v2I, v3I, σ)
set_option maxRecDepth 20000 in
theorem E_Bp_runSet_0 (v0R : Nat) (v1I : Int32) (v2I : Int32) (v3I : Int32) (σ : AM) : L_Bp_runSet_0 v0R v1I v2I v3I σ = (gd (okO σ v0R 11) <| bnd (M_Bp_canRun v0R v1I v2I σ) fun r1 σ2 => if r1 = 0 then ((some (((-1) : Int32), σ2))) else (gd (okO σ2 v0R 11) <| gd (okO σ2 (aR σ2 v0R 5) 6) <| bnd (M_Ch_hide (aR σ2 v0R 5) v1I v2I σ2) fun _ σ7 => gd (okO σ7 v0R 11) <| gd (okO σ7 (aR σ7 v0R 5) 6) <| bnd (M_Ch_setAt (aR σ7 v0R 5) v3I σ7) fun r10 σ11 => (some (r10, σ11)))) := by
  unfold L_Bp_runSet_0
  rw [lp_eq]
  show lpK (lp F_Bp_runSet) (T_Bp_runSet_0 v0R v1I v2I v3I σ) = _
  unfold T_Bp_runSet_0
  simp only [lpK_ite, lq_inl, lq_inr, lpK_bnd, lpK_gd, lq_let]
  try rfl
noncomputable def M_Bp_runSet (v0R : Nat) (v1I : Int32) (v2I : Int32) (v3I : Int32) (σ : AM) : Option (Int32 × AM) := mw σ (L_Bp_runSet_0 v0R v1I v2I v3I σ)
def I_Bp_runSet (G : GX) (p : Program) (l : Launch) (e : Env) (s : State) (m : MethodId) (args : Array Value) (below : List Frame) (meth : Method) (c : Code) (z0 u0 n : Nat) : Prop :=
  (∀ (v0R : Nat) (v1I : Int32) (v2I : Int32) (v3I : Int32) (σ : AM), VX (QM eI G args s below z0 u0) G p l e s m args below meth c 6 z0 u0 4 (lpn F_Bp_runSet n (0, v0R, v1I, v2I, v3I, σ)) 0 [(0, .ref v0R), (1, .int v1I), (2, .int v2I), (3, .int v3I)] [] σ)
set_option maxRecDepth 20000 in
theorem s_Bp_runSet_0 {G : GX} {p : Program} {l : Launch} {e : Env} {s : State} {m : MethodId} {args : Array Value} {below : List Frame} {meth : Method} {c : Code} {z0 u0 n : Nat} (C : Cx G p s m args meth c prog_1_method_18_code 4 "BellPlate" ((some FieldType.int))) (IH : I_Bp_runSet G p l e s m args below meth c z0 u0 n) (v0R : Nat) (v1I : Int32) (v2I : Int32) (v3I : Int32) (σ : AM) : VX (QM eI G args s below z0 u0) G p l e s m args below meth c 6 z0 u0 4 (lpK (lpn F_Bp_runSet n) (T_Bp_runSet_0 v0R v1I v2I v3I σ)) 0 [(0, .ref v0R), (1, .int v1I), (2, .int v2I), (3, .int v3I)] [] σ := by
  unfold T_Bp_runSet_0
  refine x_aload_n C d_Bp_runSet_0 0 rfl ?_
  refine x_iload_n C d_Bp_runSet_1 1 rfl ?_
  refine x_iload_n C d_Bp_runSet_2 2 rfl ?_
  refine x_gd (fun h3 => ?_)
  refine x_callVI (As := [.int v1I, .int v2I]) C (c_Bp_canRun G l v0R v1I v2I σ) (okO_iff.mp h3) rfl w1253 w34 w1251 w1254 w120 k_Bp_canRun rfl (by decide) (by decide) rfl (Nat.le_of_ble_eq_true rfl) d_Bp_runSet_3 (fun r1 σ2 => ?_)
  refine x_if_ne (tgt := 11) C d_Bp_runSet_6 (by decide) (fun _ => ?_) (fun _ => ?_)
  · refine x_iconst (v := ((-1) : Int32)) C d_Bp_runSet_9 (by decide) ?_
    exact x_iret C d_Bp_runSet_10
  · refine x_aload_n C d_Bp_runSet_11 0 rfl ?_
    refine x_gd (fun h4 => ?_)
    refine x_gd (fun h5 => ?_)
    refine x_getR (k := 5) (kv := 6) C (okO_iff.mp h4) rfl j10_ok (by decide) rfl (okO_iff.mp h5) (by decide) w695 d_Bp_runSet_12 ?_
    refine x_iload_n C d_Bp_runSet_15 1 rfl ?_
    refine x_iload_n C d_Bp_runSet_16 2 rfl ?_
    refine x_callVV (As := [.int v1I, .int v2I]) C (c_Ch_hide G l (aR σ2 v0R 5) v1I v2I σ2) (okO_iff.mp h5) rfl w1260 w1261 w1259 w1262 w126 k_Ch_hide rfl (by decide) (by decide) rfl (Nat.le_of_ble_eq_true rfl) d_Bp_runSet_17 (fun r6 σ7 => ?_)
    refine x_aload_n C d_Bp_runSet_20 0 rfl ?_
    refine x_gd (fun h8 => ?_)
    refine x_gd (fun h9 => ?_)
    refine x_getR (k := 5) (kv := 6) C (okO_iff.mp h8) rfl j10_ok (by decide) rfl (okO_iff.mp h9) (by decide) w695 d_Bp_runSet_21 ?_
    refine x_iload_n C d_Bp_runSet_24 3 rfl ?_
    refine x_callVI (As := [.int v3I]) C (c_Ch_setAt G l (aR σ7 v0R 5) v3I σ7) (okO_iff.mp h9) rfl w1282 w1283 w1281 w1284 w126 k_Ch_setAt rfl (by decide) (by decide) rfl (Nat.le_of_ble_eq_true rfl) d_Bp_runSet_25 (fun r10 σ11 => ?_)
    exact x_iret C d_Bp_runSet_28
theorem i_Bp_runSet {G : GX} {p : Program} {l : Launch} {e : Env} {s : State} {m : MethodId} {args : Array Value} {below : List Frame} {meth : Method} {c : Code} {z0 u0 : Nat} (C : Cx G p s m args meth c prog_1_method_18_code 4 "BellPlate" ((some FieldType.int))) (n : Nat) : I_Bp_runSet G p l e s m args below meth c z0 u0 n := by
  induction n with
  | zero => exact fun _ _ _ _ _ => x_none
  | succ n IH => exact fun v0R v1I v2I v3I σ => s_Bp_runSet_0 C IH v0R v1I v2I v3I σ
theorem c_Bp_runSet (G : GX) (l : Launch) (v0R : Nat) (v1I : Int32) (v2I : Int32) (v3I : Int32) (σ : AM) : CT eI G l 6 y_Bp_runSet prog_1_method_18_code 4 ((some FieldType.int)) [.ref v0R, .int v1I, .int v2I, .int v3I] σ (M_Bp_runSet v0R v1I v2I v3I σ) := by
  refine ct_of (by decide +kernel) (Nat.le_of_ble_eq_true rfl) (fun p e s m args below meth c C hin => ?_)
  refine x_lve (lv' := [(0, .ref v0R), (1, .int v1I), (2, .int v2I), (3, .int v3I)]) rfl ?_
  intro r σ' h
  obtain ⟨n, hn⟩ := (lp_iff _ _ _).mp h
  exact (i_Bp_runSet C n) v0R v1I v2I v3I σ r σ' hn
/-! BellPlate.worst(I)I -/
abbrev y_Bp_worst : MethodName := ⟨"BellPlate", "worst", "(I)I"⟩
theorem k_Bp_worst : y_Bp_worst.cls ≠ "java/lang/invoke/MethodHandle" ∧ y_Bp_worst.cls ≠ "java/lang/invoke/VarHandle" ∧ (parseMethodDescriptor y_Bp_worst.desc).map (fun d => d.parameters.length) = some 1 := by decide +kernel
theorem d_Bp_worst_0 : decode prog_1_method_20_code 0 = .ok (.aload_n 0, 1) := by decide +kernel
theorem d_Bp_worst_1 : decode prog_1_method_20_code 1 = .ok (.getfield 44, 3) := by decide +kernel
theorem d_Bp_worst_4 : decode prog_1_method_20_code 4 = .ok (.invokevirtual 159, 3) := by decide +kernel
theorem d_Bp_worst_7 : decode prog_1_method_20_code 7 = .ok (.iload_n 1, 1) := by decide +kernel
theorem d_Bp_worst_8 : decode prog_1_method_20_code 8 = .ok (.invokestatic 186, 3) := by decide +kernel
theorem d_Bp_worst_11 : decode prog_1_method_20_code 11 = .ok (.ifCond .eq 13, 3) := by decide +kernel
theorem d_Bp_worst_14 : decode prog_1_method_20_code 14 = .ok (.aload_n 0, 1) := by decide +kernel
theorem d_Bp_worst_15 : decode prog_1_method_20_code 15 = .ok (.getfield 44, 3) := by decide +kernel
theorem d_Bp_worst_18 : decode prog_1_method_20_code 18 = .ok (.invokevirtual 165, 3) := by decide +kernel
theorem d_Bp_worst_21 : decode prog_1_method_20_code 21 = .ok (.ifCond .ne 5, 3) := by decide +kernel
theorem d_Bp_worst_24 : decode prog_1_method_20_code 24 = .ok (.iconst (-1), 1) := by decide +kernel
theorem d_Bp_worst_25 : decode prog_1_method_20_code 25 = .ok (.ireturn, 1) := by decide +kernel
theorem d_Bp_worst_26 : decode prog_1_method_20_code 26 = .ok (.aload_n 0, 1) := by decide +kernel
theorem d_Bp_worst_27 : decode prog_1_method_20_code 27 = .ok (.getfield 53, 3) := by decide +kernel
theorem d_Bp_worst_30 : decode prog_1_method_20_code 30 = .ok (.iload_n 1, 1) := by decide +kernel
theorem d_Bp_worst_31 : decode prog_1_method_20_code 31 = .ok (.invokevirtual 243, 3) := by decide +kernel
theorem d_Bp_worst_34 : decode prog_1_method_20_code 34 = .ok (.aload_n 0, 1) := by decide +kernel
theorem d_Bp_worst_35 : decode prog_1_method_20_code 35 = .ok (.getfield 53, 3) := by decide +kernel
theorem d_Bp_worst_38 : decode prog_1_method_20_code 38 = .ok (.iload_n 1, 1) := by decide +kernel
theorem d_Bp_worst_39 : decode prog_1_method_20_code 39 = .ok (.invokevirtual 247, 3) := by decide +kernel
theorem d_Bp_worst_42 : decode prog_1_method_20_code 42 = .ok (.ireturn, 1) := by decide +kernel
abbrev S_Bp_worst : Type := Nat × Nat × Int32 × AM
noncomputable def T_Bp_worst_0 (v0R : Nat) (v1I : Int32) (σ : AM) : S_Bp_worst ⊕ Option (Int32 × AM) :=
  gdT (okO σ v0R 11) <| gdT (okO σ (aR σ v0R 4) 5) <| bndT (M_Rs_refresh (aR σ v0R 4) σ) fun _ σ4 => bndT (M_Ch_isWay v1I σ4) fun r5 σ6 => if r5 = 0 then (.inl (1, 0, 0, σ6)) else (gdT (okO σ6 v0R 11) <| gdT (okO σ6 (aR σ6 v0R 4) 5) <| bndT (M_Rs_size (aR σ6 v0R 4) σ6) fun r9 σ10 => if r9 = 0 then (.inl (1, 0, 0, σ10)) else (gdT (okO σ10 v0R 11) <| gdT (okO σ10 (aR σ10 v0R 5) 6) <| bndT (M_Ch_tryAll (aR σ10 v0R 5) v1I σ10) fun _ σ14 => gdT (okO σ14 v0R 11) <| gdT (okO σ14 (aR σ14 v0R 5) 6) <| bndT (M_Ch_worstBy (aR σ14 v0R 5) v1I σ14) fun r17 σ18 => .inr (some (r17, σ18))))
noncomputable def T_Bp_worst_1  (σ : AM) : S_Bp_worst ⊕ Option (Int32 × AM) :=
  .inr (some (((-1) : Int32), σ))
noncomputable def F_Bp_worst : S_Bp_worst → S_Bp_worst ⊕ Option (Int32 × AM) := fun s => match s.1 with
  | 0 => T_Bp_worst_0 (s.2.1) (s.2.2.1) (s.2.2.2)
  | _ => T_Bp_worst_1  (s.2.2.2)
noncomputable def L_Bp_worst_0 (v0R : Nat) (v1I : Int32) (σ : AM) : Option (Int32 × AM) := lp F_Bp_worst (0, v0R, v1I, σ)
noncomputable def L_Bp_worst_1  (σ : AM) : Option (Int32 × AM) := lp F_Bp_worst (1, 0, 0, σ)
set_option maxRecDepth 20000 in
theorem E_Bp_worst_0 (v0R : Nat) (v1I : Int32) (σ : AM) : L_Bp_worst_0 v0R v1I σ = (gd (okO σ v0R 11) <| gd (okO σ (aR σ v0R 4) 5) <| bnd (M_Rs_refresh (aR σ v0R 4) σ) fun _ σ4 => bnd (M_Ch_isWay v1I σ4) fun r5 σ6 => if r5 = 0 then (L_Bp_worst_1 σ6) else (gd (okO σ6 v0R 11) <| gd (okO σ6 (aR σ6 v0R 4) 5) <| bnd (M_Rs_size (aR σ6 v0R 4) σ6) fun r9 σ10 => if r9 = 0 then (L_Bp_worst_1 σ10) else (gd (okO σ10 v0R 11) <| gd (okO σ10 (aR σ10 v0R 5) 6) <| bnd (M_Ch_tryAll (aR σ10 v0R 5) v1I σ10) fun _ σ14 => gd (okO σ14 v0R 11) <| gd (okO σ14 (aR σ14 v0R 5) 6) <| bnd (M_Ch_worstBy (aR σ14 v0R 5) v1I σ14) fun r17 σ18 => (some (r17, σ18))))) := by
  unfold L_Bp_worst_0
  rw [lp_eq]
  show lpK (lp F_Bp_worst) (T_Bp_worst_0 v0R v1I σ) = _
  unfold T_Bp_worst_0
  simp only [lpK_ite, lq_inl, lq_inr, lpK_bnd, lpK_gd, lq_let]
  try rfl
set_option maxRecDepth 20000 in
theorem E_Bp_worst_1  (σ : AM) : L_Bp_worst_1  σ = ((some (((-1) : Int32), σ))) := by
  unfold L_Bp_worst_1
  rw [lp_eq]
  show lpK (lp F_Bp_worst) (T_Bp_worst_1  σ) = _
  unfold T_Bp_worst_1
  simp only [lpK_ite, lq_inl, lq_inr, lpK_bnd, lpK_gd, lq_let]
  try rfl
noncomputable def M_Bp_worst (v0R : Nat) (v1I : Int32) (σ : AM) : Option (Int32 × AM) := mw σ (L_Bp_worst_0 v0R v1I σ)
def I_Bp_worst (G : GX) (p : Program) (l : Launch) (e : Env) (s : State) (m : MethodId) (args : Array Value) (below : List Frame) (meth : Method) (c : Code) (z0 u0 n : Nat) : Prop :=
  (∀ (v0R : Nat) (v1I : Int32) (σ : AM), VX (QM eI G args s below z0 u0) G p l e s m args below meth c 6 z0 u0 2 (lpn F_Bp_worst n (0, v0R, v1I, σ)) 0 [(0, .ref v0R), (1, .int v1I)] [] σ) ∧
  (∀ (σ : AM), VX (QM eI G args s below z0 u0) G p l e s m args below meth c 6 z0 u0 2 (lpn F_Bp_worst n (1, 0, 0, σ)) 24 [] [] σ)
set_option maxRecDepth 20000 in
theorem s_Bp_worst_0 {G : GX} {p : Program} {l : Launch} {e : Env} {s : State} {m : MethodId} {args : Array Value} {below : List Frame} {meth : Method} {c : Code} {z0 u0 n : Nat} (C : Cx G p s m args meth c prog_1_method_20_code 2 "BellPlate" ((some FieldType.int))) (IH : I_Bp_worst G p l e s m args below meth c z0 u0 n) (v0R : Nat) (v1I : Int32) (σ : AM) : VX (QM eI G args s below z0 u0) G p l e s m args below meth c 6 z0 u0 2 (lpK (lpn F_Bp_worst n) (T_Bp_worst_0 v0R v1I σ)) 0 [(0, .ref v0R), (1, .int v1I)] [] σ := by
  unfold T_Bp_worst_0
  refine x_aload_n C d_Bp_worst_0 0 rfl ?_
  refine x_gd (fun h1 => ?_)
  refine x_gd (fun h2 => ?_)
  refine x_getR (k := 4) (kv := 5) C (okO_iff.mp h1) rfl j10_ok (by decide) rfl (okO_iff.mp h2) (by decide) w694 d_Bp_worst_1 ?_
  refine x_callVV (As := []) C (c_Rs_refresh G l (aR σ v0R 4)  σ) (okO_iff.mp h2) rfl w1035 w1036 w1034 w1037 w125 k_Rs_refresh rfl (by decide) (by decide) rfl (Nat.le_of_ble_eq_true rfl) d_Bp_worst_4 (fun r3 σ4 => ?_)
  refine x_iload_n C d_Bp_worst_7 1 rfl ?_
  refine x_callSI (As := [.int v1I]) C (c_Ch_isWay G l v1I σ4) w1149 w1148 w1150 w126 k_Ch_isWay rfl (by decide) (by decide) rfl (Nat.le_of_ble_eq_true rfl) d_Bp_worst_8 (fun r5 σ6 => ?_)
  refine x_if_eq (tgt := 24) C d_Bp_worst_11 (by decide) (fun _ => ?_) (fun _ => ?_)
  · refine x_lv [] rfl ?_
    exact IH.2  (σ6)
  · refine x_aload_n C d_Bp_worst_14 0 rfl ?_
    refine x_gd (fun h7 => ?_)
    refine x_gd (fun h8 => ?_)
    refine x_getR (k := 4) (kv := 5) C (okO_iff.mp h7) rfl j10_ok (by decide) rfl (okO_iff.mp h8) (by decide) w694 d_Bp_worst_15 ?_
    refine x_callVI (As := []) C (c_Rs_size G l (aR σ6 v0R 4)  σ6) (okO_iff.mp h8) rfl w1084 w1085 w1083 w1086 w125 k_Rs_size rfl (by decide) (by decide) rfl (Nat.le_of_ble_eq_true rfl) d_Bp_worst_18 (fun r9 σ10 => ?_)
    refine x_if_ne (tgt := 26) C d_Bp_worst_21 (by decide) (fun _ => ?_) (fun _ => ?_)
    · refine x_lv [] rfl ?_
      exact IH.2  (σ10)
    · refine x_aload_n C d_Bp_worst_26 0 rfl ?_
      refine x_gd (fun h11 => ?_)
      refine x_gd (fun h12 => ?_)
      refine x_getR (k := 5) (kv := 6) C (okO_iff.mp h11) rfl j10_ok (by decide) rfl (okO_iff.mp h12) (by decide) w695 d_Bp_worst_27 ?_
      refine x_iload_n C d_Bp_worst_30 1 rfl ?_
      refine x_callVV (As := [.int v1I]) C (c_Ch_tryAll G l (aR σ10 v0R 5) v1I σ10) (okO_iff.mp h12) rfl w1290 w1291 w1289 w1292 w126 k_Ch_tryAll rfl (by decide) (by decide) rfl (Nat.le_of_ble_eq_true rfl) d_Bp_worst_31 (fun r13 σ14 => ?_)
      refine x_aload_n C d_Bp_worst_34 0 rfl ?_
      refine x_gd (fun h15 => ?_)
      refine x_gd (fun h16 => ?_)
      refine x_getR (k := 5) (kv := 6) C (okO_iff.mp h15) rfl j10_ok (by decide) rfl (okO_iff.mp h16) (by decide) w695 d_Bp_worst_35 ?_
      refine x_iload_n C d_Bp_worst_38 1 rfl ?_
      refine x_callVI (As := [.int v1I]) C (c_Ch_worstBy G l (aR σ14 v0R 5) v1I σ14) (okO_iff.mp h16) rfl w1303 w1304 w1302 w1305 w126 k_Ch_worstBy rfl (by decide) (by decide) rfl (Nat.le_of_ble_eq_true rfl) d_Bp_worst_39 (fun r17 σ18 => ?_)
      exact x_iret C d_Bp_worst_42
set_option maxRecDepth 20000 in
theorem s_Bp_worst_1 {G : GX} {p : Program} {l : Launch} {e : Env} {s : State} {m : MethodId} {args : Array Value} {below : List Frame} {meth : Method} {c : Code} {z0 u0 n : Nat} (C : Cx G p s m args meth c prog_1_method_20_code 2 "BellPlate" ((some FieldType.int))) (IH : I_Bp_worst G p l e s m args below meth c z0 u0 n)  (σ : AM) : VX (QM eI G args s below z0 u0) G p l e s m args below meth c 6 z0 u0 2 (lpK (lpn F_Bp_worst n) (T_Bp_worst_1  σ)) 24 [] [] σ := by
  unfold T_Bp_worst_1
  refine x_iconst (v := ((-1) : Int32)) C d_Bp_worst_24 (by decide) ?_
  exact x_iret C d_Bp_worst_25
theorem i_Bp_worst {G : GX} {p : Program} {l : Launch} {e : Env} {s : State} {m : MethodId} {args : Array Value} {below : List Frame} {meth : Method} {c : Code} {z0 u0 : Nat} (C : Cx G p s m args meth c prog_1_method_20_code 2 "BellPlate" ((some FieldType.int))) (n : Nat) : I_Bp_worst G p l e s m args below meth c z0 u0 n := by
  induction n with
  | zero => exact ⟨fun _ _ _ => x_none, fun _ => x_none⟩
  | succ n IH => exact ⟨fun v0R v1I σ => s_Bp_worst_0 C IH v0R v1I σ, fun σ => s_Bp_worst_1 C IH σ⟩
theorem c_Bp_worst (G : GX) (l : Launch) (v0R : Nat) (v1I : Int32) (σ : AM) : CT eI G l 6 y_Bp_worst prog_1_method_20_code 2 ((some FieldType.int)) [.ref v0R, .int v1I] σ (M_Bp_worst v0R v1I σ) := by
  refine ct_of (by decide +kernel) (Nat.le_of_ble_eq_true rfl) (fun p e s m args below meth c C hin => ?_)
  refine x_lve (lv' := [(0, .ref v0R), (1, .int v1I)]) rfl ?_
  intro r σ' h
  obtain ⟨n, hn⟩ := (lp_iff _ _ _).mp h
  exact (i_Bp_worst C n).1 v0R v1I σ r σ' hn
/-! BellPlate.mean(II)I -/
abbrev y_Bp_mean : MethodName := ⟨"BellPlate", "mean", "(II)I"⟩
theorem k_Bp_mean : y_Bp_mean.cls ≠ "java/lang/invoke/MethodHandle" ∧ y_Bp_mean.cls ≠ "java/lang/invoke/VarHandle" ∧ (parseMethodDescriptor y_Bp_mean.desc).map (fun d => d.parameters.length) = some 2 := by decide +kernel
theorem d_Bp_mean_0 : decode prog_1_method_21_code 0 = .ok (.aload_n 0, 1) := by decide +kernel
theorem d_Bp_mean_1 : decode prog_1_method_21_code 1 = .ok (.getfield 44, 3) := by decide +kernel
theorem d_Bp_mean_4 : decode prog_1_method_21_code 4 = .ok (.invokevirtual 159, 3) := by decide +kernel
theorem d_Bp_mean_7 : decode prog_1_method_21_code 7 = .ok (.iload_n 1, 1) := by decide +kernel
theorem d_Bp_mean_8 : decode prog_1_method_21_code 8 = .ok (.invokestatic 186, 3) := by decide +kernel
theorem d_Bp_mean_11 : decode prog_1_method_21_code 11 = .ok (.ifCond .eq 22, 3) := by decide +kernel
theorem d_Bp_mean_14 : decode prog_1_method_21_code 14 = .ok (.iload_n 2, 1) := by decide +kernel
theorem d_Bp_mean_15 : decode prog_1_method_21_code 15 = .ok (.ifCond .lt 18, 3) := by decide +kernel
theorem d_Bp_mean_18 : decode prog_1_method_21_code 18 = .ok (.iload_n 2, 1) := by decide +kernel
theorem d_Bp_mean_19 : decode prog_1_method_21_code 19 = .ok (.iconst 1, 1) := by decide +kernel
theorem d_Bp_mean_20 : decode prog_1_method_21_code 20 = .ok (.if_icmp .gt 13, 3) := by decide +kernel
theorem d_Bp_mean_23 : decode prog_1_method_21_code 23 = .ok (.aload_n 0, 1) := by decide +kernel
theorem d_Bp_mean_24 : decode prog_1_method_21_code 24 = .ok (.getfield 44, 3) := by decide +kernel
theorem d_Bp_mean_27 : decode prog_1_method_21_code 27 = .ok (.invokevirtual 165, 3) := by decide +kernel
theorem d_Bp_mean_30 : decode prog_1_method_21_code 30 = .ok (.ifCond .ne 5, 3) := by decide +kernel
theorem d_Bp_mean_33 : decode prog_1_method_21_code 33 = .ok (.iconst (-1), 1) := by decide +kernel
theorem d_Bp_mean_34 : decode prog_1_method_21_code 34 = .ok (.ireturn, 1) := by decide +kernel
theorem d_Bp_mean_35 : decode prog_1_method_21_code 35 = .ok (.aload_n 0, 1) := by decide +kernel
theorem d_Bp_mean_36 : decode prog_1_method_21_code 36 = .ok (.getfield 53, 3) := by decide +kernel
theorem d_Bp_mean_39 : decode prog_1_method_21_code 39 = .ok (.iload_n 1, 1) := by decide +kernel
theorem d_Bp_mean_40 : decode prog_1_method_21_code 40 = .ok (.invokevirtual 243, 3) := by decide +kernel
theorem d_Bp_mean_43 : decode prog_1_method_21_code 43 = .ok (.aload_n 0, 1) := by decide +kernel
theorem d_Bp_mean_44 : decode prog_1_method_21_code 44 = .ok (.getfield 53, 3) := by decide +kernel
theorem d_Bp_mean_47 : decode prog_1_method_21_code 47 = .ok (.iload_n 1, 1) := by decide +kernel
theorem d_Bp_mean_48 : decode prog_1_method_21_code 48 = .ok (.invokevirtual 250, 3) := by decide +kernel
theorem d_Bp_mean_51 : decode prog_1_method_21_code 51 = .ok (.aload_n 0, 1) := by decide +kernel
theorem d_Bp_mean_52 : decode prog_1_method_21_code 52 = .ok (.getfield 44, 3) := by decide +kernel
theorem d_Bp_mean_55 : decode prog_1_method_21_code 55 = .ok (.invokevirtual 162, 3) := by decide +kernel
theorem d_Bp_mean_58 : decode prog_1_method_21_code 58 = .ok (.iload_n 2, 1) := by decide +kernel
theorem d_Bp_mean_59 : decode prog_1_method_21_code 59 = .ok (.invokestatic 253, 3) := by decide +kernel
theorem d_Bp_mean_62 : decode prog_1_method_21_code 62 = .ok (.ireturn, 1) := by decide +kernel
abbrev S_Bp_mean : Type := Nat × Nat × Int32 × Int32 × AM
noncomputable def T_Bp_mean_0 (v0R : Nat) (v1I : Int32) (v2I : Int32) (σ : AM) : S_Bp_mean ⊕ Option (Int32 × AM) :=
  gdT (okO σ v0R 11) <| gdT (okO σ (aR σ v0R 4) 5) <| bndT (M_Rs_refresh (aR σ v0R 4) σ) fun _ σ4 => bndT (M_Ch_isWay v1I σ4) fun r5 σ6 => if r5 = 0 then (.inl (1, 0, 0, 0, σ6)) else (if v2I < 0 then (.inl (1, 0, 0, 0, σ6)) else (if (1 : Int32) < v2I then (.inl (1, 0, 0, 0, σ6)) else (gdT (okO σ6 v0R 11) <| gdT (okO σ6 (aR σ6 v0R 4) 5) <| bndT (M_Rs_size (aR σ6 v0R 4) σ6) fun r9 σ10 => if r9 = 0 then (.inl (1, 0, 0, 0, σ10)) else (gdT (okO σ10 v0R 11) <| gdT (okO σ10 (aR σ10 v0R 5) 6) <| bndT (M_Ch_tryAll (aR σ10 v0R 5) v1I σ10) fun _ σ14 => gdT (okO σ14 v0R 11) <| gdT (okO σ14 (aR σ14 v0R 5) 6) <| bndT (M_Ch_togetherBy (aR σ14 v0R 5) v1I σ14) fun r17 σ18 => gdT (okO σ18 v0R 11) <| gdT (okO σ18 (aR σ18 v0R 4) 5) <| bndT (M_Rs_weights (aR σ18 v0R 4) σ18) fun r21 σ22 => bndT (M_St_lowest r17 r21 v2I σ22) fun r23 σ24 => .inr (some (r23, σ24))))))
noncomputable def T_Bp_mean_1  (σ : AM) : S_Bp_mean ⊕ Option (Int32 × AM) :=
  .inr (some (((-1) : Int32), σ))
noncomputable def F_Bp_mean : S_Bp_mean → S_Bp_mean ⊕ Option (Int32 × AM) := fun s => match s.1 with
  | 0 => T_Bp_mean_0 (s.2.1) (s.2.2.1) (s.2.2.2.1) (s.2.2.2.2)
  | _ => T_Bp_mean_1  (s.2.2.2.2)
noncomputable def L_Bp_mean_0 (v0R : Nat) (v1I : Int32) (v2I : Int32) (σ : AM) : Option (Int32 × AM) := lp F_Bp_mean (0, v0R, v1I, v2I, σ)
noncomputable def L_Bp_mean_1  (σ : AM) : Option (Int32 × AM) := lp F_Bp_mean (1, 0, 0, 0, σ)
set_option maxRecDepth 20000 in
theorem E_Bp_mean_0 (v0R : Nat) (v1I : Int32) (v2I : Int32) (σ : AM) : L_Bp_mean_0 v0R v1I v2I σ = (gd (okO σ v0R 11) <| gd (okO σ (aR σ v0R 4) 5) <| bnd (M_Rs_refresh (aR σ v0R 4) σ) fun _ σ4 => bnd (M_Ch_isWay v1I σ4) fun r5 σ6 => if r5 = 0 then (L_Bp_mean_1 σ6) else (if v2I < 0 then (L_Bp_mean_1 σ6) else (if (1 : Int32) < v2I then (L_Bp_mean_1 σ6) else (gd (okO σ6 v0R 11) <| gd (okO σ6 (aR σ6 v0R 4) 5) <| bnd (M_Rs_size (aR σ6 v0R 4) σ6) fun r9 σ10 => if r9 = 0 then (L_Bp_mean_1 σ10) else (gd (okO σ10 v0R 11) <| gd (okO σ10 (aR σ10 v0R 5) 6) <| bnd (M_Ch_tryAll (aR σ10 v0R 5) v1I σ10) fun _ σ14 => gd (okO σ14 v0R 11) <| gd (okO σ14 (aR σ14 v0R 5) 6) <| bnd (M_Ch_togetherBy (aR σ14 v0R 5) v1I σ14) fun r17 σ18 => gd (okO σ18 v0R 11) <| gd (okO σ18 (aR σ18 v0R 4) 5) <| bnd (M_Rs_weights (aR σ18 v0R 4) σ18) fun r21 σ22 => bnd (M_St_lowest r17 r21 v2I σ22) fun r23 σ24 => (some (r23, σ24))))))) := by
  unfold L_Bp_mean_0
  rw [lp_eq]
  show lpK (lp F_Bp_mean) (T_Bp_mean_0 v0R v1I v2I σ) = _
  unfold T_Bp_mean_0
  simp only [lpK_ite, lq_inl, lq_inr, lpK_bnd, lpK_gd, lq_let]
  try rfl
set_option maxRecDepth 20000 in
theorem E_Bp_mean_1  (σ : AM) : L_Bp_mean_1  σ = ((some (((-1) : Int32), σ))) := by
  unfold L_Bp_mean_1
  rw [lp_eq]
  show lpK (lp F_Bp_mean) (T_Bp_mean_1  σ) = _
  unfold T_Bp_mean_1
  simp only [lpK_ite, lq_inl, lq_inr, lpK_bnd, lpK_gd, lq_let]
  try rfl
noncomputable def M_Bp_mean (v0R : Nat) (v1I : Int32) (v2I : Int32) (σ : AM) : Option (Int32 × AM) := mw σ (L_Bp_mean_0 v0R v1I v2I σ)
def I_Bp_mean (G : GX) (p : Program) (l : Launch) (e : Env) (s : State) (m : MethodId) (args : Array Value) (below : List Frame) (meth : Method) (c : Code) (z0 u0 n : Nat) : Prop :=
  (∀ (v0R : Nat) (v1I : Int32) (v2I : Int32) (σ : AM), VX (QM eI G args s below z0 u0) G p l e s m args below meth c 6 z0 u0 3 (lpn F_Bp_mean n (0, v0R, v1I, v2I, σ)) 0 [(0, .ref v0R), (1, .int v1I), (2, .int v2I)] [] σ) ∧
  (∀ (σ : AM), VX (QM eI G args s below z0 u0) G p l e s m args below meth c 6 z0 u0 3 (lpn F_Bp_mean n (1, 0, 0, 0, σ)) 33 [] [] σ)
set_option maxRecDepth 20000 in
theorem s_Bp_mean_0 {G : GX} {p : Program} {l : Launch} {e : Env} {s : State} {m : MethodId} {args : Array Value} {below : List Frame} {meth : Method} {c : Code} {z0 u0 n : Nat} (C : Cx G p s m args meth c prog_1_method_21_code 3 "BellPlate" ((some FieldType.int))) (IH : I_Bp_mean G p l e s m args below meth c z0 u0 n) (v0R : Nat) (v1I : Int32) (v2I : Int32) (σ : AM) : VX (QM eI G args s below z0 u0) G p l e s m args below meth c 6 z0 u0 3 (lpK (lpn F_Bp_mean n) (T_Bp_mean_0 v0R v1I v2I σ)) 0 [(0, .ref v0R), (1, .int v1I), (2, .int v2I)] [] σ := by
  unfold T_Bp_mean_0
  refine x_aload_n C d_Bp_mean_0 0 rfl ?_
  refine x_gd (fun h1 => ?_)
  refine x_gd (fun h2 => ?_)
  refine x_getR (k := 4) (kv := 5) C (okO_iff.mp h1) rfl j10_ok (by decide) rfl (okO_iff.mp h2) (by decide) w694 d_Bp_mean_1 ?_
  refine x_callVV (As := []) C (c_Rs_refresh G l (aR σ v0R 4)  σ) (okO_iff.mp h2) rfl w1035 w1036 w1034 w1037 w125 k_Rs_refresh rfl (by decide) (by decide) rfl (Nat.le_of_ble_eq_true rfl) d_Bp_mean_4 (fun r3 σ4 => ?_)
  refine x_iload_n C d_Bp_mean_7 1 rfl ?_
  refine x_callSI (As := [.int v1I]) C (c_Ch_isWay G l v1I σ4) w1149 w1148 w1150 w126 k_Ch_isWay rfl (by decide) (by decide) rfl (Nat.le_of_ble_eq_true rfl) d_Bp_mean_8 (fun r5 σ6 => ?_)
  refine x_if_eq (tgt := 33) C d_Bp_mean_11 (by decide) (fun _ => ?_) (fun _ => ?_)
  · refine x_lv [] rfl ?_
    exact IH.2  (σ6)
  · refine x_iload_n C d_Bp_mean_14 2 rfl ?_
    refine x_if_lt (tgt := 33) C d_Bp_mean_15 (by decide) (fun _ => ?_) (fun _ => ?_)
    · refine x_lv [] rfl ?_
      exact IH.2  (σ6)
    · refine x_iload_n C d_Bp_mean_18 2 rfl ?_
      refine x_iconst (v := (1 : Int32)) C d_Bp_mean_19 (by decide) ?_
      refine x_icmp_gt (tgt := 33) C d_Bp_mean_20 (by decide) (fun _ => ?_) (fun _ => ?_)
      · refine x_lv [] rfl ?_
        exact IH.2  (σ6)
      · refine x_aload_n C d_Bp_mean_23 0 rfl ?_
        refine x_gd (fun h7 => ?_)
        refine x_gd (fun h8 => ?_)
        refine x_getR (k := 4) (kv := 5) C (okO_iff.mp h7) rfl j10_ok (by decide) rfl (okO_iff.mp h8) (by decide) w694 d_Bp_mean_24 ?_
        refine x_callVI (As := []) C (c_Rs_size G l (aR σ6 v0R 4)  σ6) (okO_iff.mp h8) rfl w1084 w1085 w1083 w1086 w125 k_Rs_size rfl (by decide) (by decide) rfl (Nat.le_of_ble_eq_true rfl) d_Bp_mean_27 (fun r9 σ10 => ?_)
        refine x_if_ne (tgt := 35) C d_Bp_mean_30 (by decide) (fun _ => ?_) (fun _ => ?_)
        · refine x_lv [] rfl ?_
          exact IH.2  (σ10)
        · refine x_aload_n C d_Bp_mean_35 0 rfl ?_
          refine x_gd (fun h11 => ?_)
          refine x_gd (fun h12 => ?_)
          refine x_getR (k := 5) (kv := 6) C (okO_iff.mp h11) rfl j10_ok (by decide) rfl (okO_iff.mp h12) (by decide) w695 d_Bp_mean_36 ?_
          refine x_iload_n C d_Bp_mean_39 1 rfl ?_
          refine x_callVV (As := [.int v1I]) C (c_Ch_tryAll G l (aR σ10 v0R 5) v1I σ10) (okO_iff.mp h12) rfl w1290 w1291 w1289 w1292 w126 k_Ch_tryAll rfl (by decide) (by decide) rfl (Nat.le_of_ble_eq_true rfl) d_Bp_mean_40 (fun r13 σ14 => ?_)
          refine x_aload_n C d_Bp_mean_43 0 rfl ?_
          refine x_gd (fun h15 => ?_)
          refine x_gd (fun h16 => ?_)
          refine x_getR (k := 5) (kv := 6) C (okO_iff.mp h15) rfl j10_ok (by decide) rfl (okO_iff.mp h16) (by decide) w695 d_Bp_mean_44 ?_
          refine x_iload_n C d_Bp_mean_47 1 rfl ?_
          refine x_callVI (As := [.int v1I]) C (c_Ch_togetherBy G l (aR σ14 v0R 5) v1I σ14) (okO_iff.mp h16) rfl w1311 w1312 w1310 w1313 w126 k_Ch_togetherBy rfl (by decide) (by decide) rfl (Nat.le_of_ble_eq_true rfl) d_Bp_mean_48 (fun r17 σ18 => ?_)
          refine x_aload_n C d_Bp_mean_51 0 rfl ?_
          refine x_gd (fun h19 => ?_)
          refine x_gd (fun h20 => ?_)
          refine x_getR (k := 4) (kv := 5) C (okO_iff.mp h19) rfl j10_ok (by decide) rfl (okO_iff.mp h20) (by decide) w694 d_Bp_mean_52 ?_
          refine x_callVI (As := []) C (c_Rs_weights G l (aR σ18 v0R 4)  σ18) (okO_iff.mp h20) rfl w1080 w1081 w1079 w1082 w125 k_Rs_weights rfl (by decide) (by decide) rfl (Nat.le_of_ble_eq_true rfl) d_Bp_mean_55 (fun r21 σ22 => ?_)
          refine x_iload_n C d_Bp_mean_58 2 rfl ?_
          refine x_callSI (As := [.int r17, .int r21, .int v2I]) C (c_St_lowest G l r17 r21 v2I σ22) w1315 w1314 w1316 w141 k_St_lowest rfl (by decide) (by decide) rfl (Nat.le_of_ble_eq_true rfl) d_Bp_mean_59 (fun r23 σ24 => ?_)
          exact x_iret C d_Bp_mean_62
set_option maxRecDepth 20000 in
theorem s_Bp_mean_1 {G : GX} {p : Program} {l : Launch} {e : Env} {s : State} {m : MethodId} {args : Array Value} {below : List Frame} {meth : Method} {c : Code} {z0 u0 n : Nat} (C : Cx G p s m args meth c prog_1_method_21_code 3 "BellPlate" ((some FieldType.int))) (IH : I_Bp_mean G p l e s m args below meth c z0 u0 n)  (σ : AM) : VX (QM eI G args s below z0 u0) G p l e s m args below meth c 6 z0 u0 3 (lpK (lpn F_Bp_mean n) (T_Bp_mean_1  σ)) 33 [] [] σ := by
  unfold T_Bp_mean_1
  refine x_iconst (v := ((-1) : Int32)) C d_Bp_mean_33 (by decide) ?_
  exact x_iret C d_Bp_mean_34
theorem i_Bp_mean {G : GX} {p : Program} {l : Launch} {e : Env} {s : State} {m : MethodId} {args : Array Value} {below : List Frame} {meth : Method} {c : Code} {z0 u0 : Nat} (C : Cx G p s m args meth c prog_1_method_21_code 3 "BellPlate" ((some FieldType.int))) (n : Nat) : I_Bp_mean G p l e s m args below meth c z0 u0 n := by
  induction n with
  | zero => exact ⟨fun _ _ _ _ => x_none, fun _ => x_none⟩
  | succ n IH => exact ⟨fun v0R v1I v2I σ => s_Bp_mean_0 C IH v0R v1I v2I σ, fun σ => s_Bp_mean_1 C IH σ⟩
theorem c_Bp_mean (G : GX) (l : Launch) (v0R : Nat) (v1I : Int32) (v2I : Int32) (σ : AM) : CT eI G l 6 y_Bp_mean prog_1_method_21_code 3 ((some FieldType.int)) [.ref v0R, .int v1I, .int v2I] σ (M_Bp_mean v0R v1I v2I σ) := by
  refine ct_of (by decide +kernel) (Nat.le_of_ble_eq_true rfl) (fun p e s m args below meth c C hin => ?_)
  refine x_lve (lv' := [(0, .ref v0R), (1, .int v1I), (2, .int v2I)]) rfl ?_
  intro r σ' h
  obtain ⟨n, hn⟩ := (lp_iff _ _ _).mp h
  exact (i_Bp_mean C n).1 v0R v1I v2I σ r σ' hn
/-! BellPlate.smallest(I)I -/
abbrev y_Bp_smallest : MethodName := ⟨"BellPlate", "smallest", "(I)I"⟩
theorem k_Bp_smallest : y_Bp_smallest.cls ≠ "java/lang/invoke/MethodHandle" ∧ y_Bp_smallest.cls ≠ "java/lang/invoke/VarHandle" ∧ (parseMethodDescriptor y_Bp_smallest.desc).map (fun d => d.parameters.length) = some 1 := by decide +kernel
theorem d_Bp_smallest_0 : decode prog_1_method_22_code 0 = .ok (.iload_n 1, 1) := by decide +kernel
theorem d_Bp_smallest_1 : decode prog_1_method_22_code 1 = .ok (.ifCond .lt 8, 3) := by decide +kernel
theorem d_Bp_smallest_4 : decode prog_1_method_22_code 4 = .ok (.iload_n 1, 1) := by decide +kernel
theorem d_Bp_smallest_5 : decode prog_1_method_22_code 5 = .ok (.iconst 2, 1) := by decide +kernel
theorem d_Bp_smallest_6 : decode prog_1_method_22_code 6 = .ok (.if_icmp .le 5, 3) := by decide +kernel
theorem d_Bp_smallest_9 : decode prog_1_method_22_code 9 = .ok (.iconst (-1), 1) := by decide +kernel
theorem d_Bp_smallest_10 : decode prog_1_method_22_code 10 = .ok (.ireturn, 1) := by decide +kernel
theorem d_Bp_smallest_11 : decode prog_1_method_22_code 11 = .ok (.aload_n 0, 1) := by decide +kernel
theorem d_Bp_smallest_12 : decode prog_1_method_22_code 12 = .ok (.getfield 71, 3) := by decide +kernel
theorem d_Bp_smallest_15 : decode prog_1_method_22_code 15 = .ok (.aload_n 0, 1) := by decide +kernel
theorem d_Bp_smallest_16 : decode prog_1_method_22_code 16 = .ok (.getfield 35, 3) := by decide +kernel
theorem d_Bp_smallest_19 : decode prog_1_method_22_code 19 = .ok (.iconst 1, 1) := by decide +kernel
theorem d_Bp_smallest_20 : decode prog_1_method_22_code 20 = .ok (.iconst 0, 1) := by decide +kernel
theorem d_Bp_smallest_21 : decode prog_1_method_22_code 21 = .ok (.invokevirtual 256, 3) := by decide +kernel
theorem d_Bp_smallest_24 : decode prog_1_method_22_code 24 = .ok (.aload_n 0, 1) := by decide +kernel
theorem d_Bp_smallest_25 : decode prog_1_method_22_code 25 = .ok (.getfield 35, 3) := by decide +kernel
theorem d_Bp_smallest_28 : decode prog_1_method_22_code 28 = .ok (.iconst 0, 1) := by decide +kernel
theorem d_Bp_smallest_29 : decode prog_1_method_22_code 29 = .ok (.iconst 0, 1) := by decide +kernel
theorem d_Bp_smallest_30 : decode prog_1_method_22_code 30 = .ok (.invokevirtual 256, 3) := by decide +kernel
theorem d_Bp_smallest_33 : decode prog_1_method_22_code 33 = .ok (.invokevirtual 260, 3) := by decide +kernel
theorem d_Bp_smallest_36 : decode prog_1_method_22_code 36 = .ok (.aload_n 0, 1) := by decide +kernel
theorem d_Bp_smallest_37 : decode prog_1_method_22_code 37 = .ok (.getfield 71, 3) := by decide +kernel
theorem d_Bp_smallest_40 : decode prog_1_method_22_code 40 = .ok (.iload_n 1, 1) := by decide +kernel
theorem d_Bp_smallest_41 : decode prog_1_method_22_code 41 = .ok (.invokevirtual 264, 3) := by decide +kernel
theorem d_Bp_smallest_44 : decode prog_1_method_22_code 44 = .ok (.ireturn, 1) := by decide +kernel
abbrev S_Bp_smallest : Type := Nat × Nat × Int32 × AM
noncomputable def T_Bp_smallest_0 (v0R : Nat) (v1I : Int32) (σ : AM) : S_Bp_smallest ⊕ Option (Int32 × AM) :=
  if v1I < 0 then (.inl (1, 0, 0, σ)) else (if (2 : Int32) < v1I then (.inl (1, 0, 0, σ)) else (gdT (okO σ v0R 11) <| gdT (okO σ (aR σ v0R 7) 8) <| gdT (okO σ (aR σ v0R 3) 4) <| bndT (M_Bk_setsTold (aR σ v0R 3) (1 : Int32) (0 : Int32) σ) fun r4 σ5 => gdT (okO σ5 v0R 11) <| gdT (okO σ5 (aR σ5 v0R 3) 4) <| bndT (M_Bk_setsTold (aR σ5 v0R 3) (0 : Int32) (0 : Int32) σ5) fun r8 σ9 => gdT (okO σ9 (aR σ v0R 7) 8) <| bndT (M_Ft_seek (aR σ v0R 7) r4 r8 σ9) fun _ σ11 => gdT (okO σ11 v0R 11) <| gdT (okO σ11 (aR σ11 v0R 7) 8) <| bndT (M_Ft_answer (aR σ11 v0R 7) v1I σ11) fun r15 σ16 => .inr (some (r15, σ16))))
noncomputable def T_Bp_smallest_1  (σ : AM) : S_Bp_smallest ⊕ Option (Int32 × AM) :=
  .inr (some (((-1) : Int32), σ))
noncomputable def F_Bp_smallest : S_Bp_smallest → S_Bp_smallest ⊕ Option (Int32 × AM) := fun s => match s.1 with
  | 0 => T_Bp_smallest_0 (s.2.1) (s.2.2.1) (s.2.2.2)
  | _ => T_Bp_smallest_1  (s.2.2.2)
noncomputable def L_Bp_smallest_0 (v0R : Nat) (v1I : Int32) (σ : AM) : Option (Int32 × AM) := lp F_Bp_smallest (0, v0R, v1I, σ)
noncomputable def L_Bp_smallest_1  (σ : AM) : Option (Int32 × AM) := lp F_Bp_smallest (1, 0, 0, σ)
set_option maxRecDepth 20000 in
theorem E_Bp_smallest_0 (v0R : Nat) (v1I : Int32) (σ : AM) : L_Bp_smallest_0 v0R v1I σ = (if v1I < 0 then (L_Bp_smallest_1 σ) else (if (2 : Int32) < v1I then (L_Bp_smallest_1 σ) else (gd (okO σ v0R 11) <| gd (okO σ (aR σ v0R 7) 8) <| gd (okO σ (aR σ v0R 3) 4) <| bnd (M_Bk_setsTold (aR σ v0R 3) (1 : Int32) (0 : Int32) σ) fun r4 σ5 => gd (okO σ5 v0R 11) <| gd (okO σ5 (aR σ5 v0R 3) 4) <| bnd (M_Bk_setsTold (aR σ5 v0R 3) (0 : Int32) (0 : Int32) σ5) fun r8 σ9 => gd (okO σ9 (aR σ v0R 7) 8) <| bnd (M_Ft_seek (aR σ v0R 7) r4 r8 σ9) fun _ σ11 => gd (okO σ11 v0R 11) <| gd (okO σ11 (aR σ11 v0R 7) 8) <| bnd (M_Ft_answer (aR σ11 v0R 7) v1I σ11) fun r15 σ16 => (some (r15, σ16))))) := by
  unfold L_Bp_smallest_0
  rw [lp_eq]
  show lpK (lp F_Bp_smallest) (T_Bp_smallest_0 v0R v1I σ) = _
  unfold T_Bp_smallest_0
  simp only [lpK_ite, lq_inl, lq_inr, lpK_bnd, lpK_gd, lq_let]
  try rfl
set_option maxRecDepth 20000 in
theorem E_Bp_smallest_1  (σ : AM) : L_Bp_smallest_1  σ = ((some (((-1) : Int32), σ))) := by
  unfold L_Bp_smallest_1
  rw [lp_eq]
  show lpK (lp F_Bp_smallest) (T_Bp_smallest_1  σ) = _
  unfold T_Bp_smallest_1
  simp only [lpK_ite, lq_inl, lq_inr, lpK_bnd, lpK_gd, lq_let]
  try rfl
noncomputable def M_Bp_smallest (v0R : Nat) (v1I : Int32) (σ : AM) : Option (Int32 × AM) := mw σ (L_Bp_smallest_0 v0R v1I σ)
def I_Bp_smallest (G : GX) (p : Program) (l : Launch) (e : Env) (s : State) (m : MethodId) (args : Array Value) (below : List Frame) (meth : Method) (c : Code) (z0 u0 n : Nat) : Prop :=
  (∀ (v0R : Nat) (v1I : Int32) (σ : AM), VX (QM eI G args s below z0 u0) G p l e s m args below meth c 4 z0 u0 2 (lpn F_Bp_smallest n (0, v0R, v1I, σ)) 0 [(0, .ref v0R), (1, .int v1I)] [] σ) ∧
  (∀ (σ : AM), VX (QM eI G args s below z0 u0) G p l e s m args below meth c 4 z0 u0 2 (lpn F_Bp_smallest n (1, 0, 0, σ)) 9 [] [] σ)
set_option maxRecDepth 20000 in
theorem s_Bp_smallest_0 {G : GX} {p : Program} {l : Launch} {e : Env} {s : State} {m : MethodId} {args : Array Value} {below : List Frame} {meth : Method} {c : Code} {z0 u0 n : Nat} (C : Cx G p s m args meth c prog_1_method_22_code 2 "BellPlate" ((some FieldType.int))) (IH : I_Bp_smallest G p l e s m args below meth c z0 u0 n) (v0R : Nat) (v1I : Int32) (σ : AM) : VX (QM eI G args s below z0 u0) G p l e s m args below meth c 4 z0 u0 2 (lpK (lpn F_Bp_smallest n) (T_Bp_smallest_0 v0R v1I σ)) 0 [(0, .ref v0R), (1, .int v1I)] [] σ := by
  unfold T_Bp_smallest_0
  refine x_iload_n C d_Bp_smallest_0 1 rfl ?_
  refine x_if_lt (tgt := 9) C d_Bp_smallest_1 (by decide) (fun _ => ?_) (fun _ => ?_)
  · refine x_lv [] rfl ?_
    exact IH.2  (σ)
  · refine x_iload_n C d_Bp_smallest_4 1 rfl ?_
    refine x_iconst (v := (2 : Int32)) C d_Bp_smallest_5 (by decide) ?_
    refine x_icmp_le (tgt := 11) C d_Bp_smallest_6 (by decide) (fun _ => ?_) (fun _ => ?_)
    · refine x_lv [] rfl ?_
      exact IH.2  (σ)
    · refine x_aload_n C d_Bp_smallest_11 0 rfl ?_
      refine x_gd (fun h1 => ?_)
      refine x_gd (fun h2 => ?_)
      refine x_getR (k := 7) (kv := 8) C (okO_iff.mp h1) rfl j10_ok (by decide) rfl (okO_iff.mp h2) (by decide) w697 d_Bp_smallest_12 ?_
      refine x_aload_n C d_Bp_smallest_15 0 rfl ?_
      refine x_gd (fun h3 => ?_)
      refine x_getR (k := 3) (kv := 4) C (okO_iff.mp h1) rfl j10_ok (by decide) rfl (okO_iff.mp h3) (by decide) w693 d_Bp_smallest_16 ?_
      refine x_iconst (v := (1 : Int32)) C d_Bp_smallest_19 (by decide) ?_
      refine x_iconst (v := (0 : Int32)) C d_Bp_smallest_20 (by decide) ?_
      refine x_callVJ (As := [.int (1 : Int32), .int (0 : Int32)]) C (c_Bk_setsTold G l (aR σ v0R 3) (1 : Int32) (0 : Int32) σ) (okO_iff.mp h3) rfl w1047 w1048 w1321 w1049 w124 k_Bk_setsTold rfl (by decide) (by decide) rfl (Nat.le_of_ble_eq_true rfl) d_Bp_smallest_21 (fun r4 σ5 => ?_)
      refine x_aload_n C d_Bp_smallest_24 0 rfl ?_
      refine x_gd (fun h6 => ?_)
      refine x_gd (fun h7 => ?_)
      refine x_getR (k := 3) (kv := 4) C (okO_iff.mp h6) rfl j10_ok (by decide) rfl (okO_iff.mp h7) (by decide) w693 d_Bp_smallest_25 ?_
      refine x_iconst (v := (0 : Int32)) C d_Bp_smallest_28 (by decide) ?_
      refine x_iconst (v := (0 : Int32)) C d_Bp_smallest_29 (by decide) ?_
      refine x_callVJ (As := [.int (0 : Int32), .int (0 : Int32)]) C (c_Bk_setsTold G l (aR σ5 v0R 3) (0 : Int32) (0 : Int32) σ5) (okO_iff.mp h7) rfl w1047 w1048 w1321 w1049 w124 k_Bk_setsTold rfl (by decide) (by decide) rfl (Nat.le_of_ble_eq_true rfl) d_Bp_smallest_30 (fun r8 σ9 => ?_)
      refine x_gd (fun h12 => ?_)
      refine x_callVV (As := [.long r4, .long r8]) C (c_Ft_seek G l (aR σ v0R 7) r4 r8 σ9) (okO_iff.mp h12) rfl w1323 w1324 w1322 w1325 w129 k_Ft_seek rfl (by decide) (by decide) rfl (Nat.le_of_ble_eq_true rfl) d_Bp_smallest_33 (fun r10 σ11 => ?_)
      refine x_aload_n C d_Bp_smallest_36 0 rfl ?_
      refine x_gd (fun h13 => ?_)
      refine x_gd (fun h14 => ?_)
      refine x_getR (k := 7) (kv := 8) C (okO_iff.mp h13) rfl j10_ok (by decide) rfl (okO_iff.mp h14) (by decide) w697 d_Bp_smallest_37 ?_
      refine x_iload_n C d_Bp_smallest_40 1 rfl ?_
      refine x_callVI (As := [.int v1I]) C (c_Ft_answer G l (aR σ11 v0R 7) v1I σ11) (okO_iff.mp h14) rfl w1350 w1351 w1349 w1352 w129 k_Ft_answer rfl (by decide) (by decide) rfl (Nat.le_of_ble_eq_true rfl) d_Bp_smallest_41 (fun r15 σ16 => ?_)
      exact x_iret C d_Bp_smallest_44
set_option maxRecDepth 20000 in
theorem s_Bp_smallest_1 {G : GX} {p : Program} {l : Launch} {e : Env} {s : State} {m : MethodId} {args : Array Value} {below : List Frame} {meth : Method} {c : Code} {z0 u0 n : Nat} (C : Cx G p s m args meth c prog_1_method_22_code 2 "BellPlate" ((some FieldType.int))) (IH : I_Bp_smallest G p l e s m args below meth c z0 u0 n)  (σ : AM) : VX (QM eI G args s below z0 u0) G p l e s m args below meth c 4 z0 u0 2 (lpK (lpn F_Bp_smallest n) (T_Bp_smallest_1  σ)) 9 [] [] σ := by
  unfold T_Bp_smallest_1
  refine x_iconst (v := ((-1) : Int32)) C d_Bp_smallest_9 (by decide) ?_
  exact x_iret C d_Bp_smallest_10
theorem i_Bp_smallest {G : GX} {p : Program} {l : Launch} {e : Env} {s : State} {m : MethodId} {args : Array Value} {below : List Frame} {meth : Method} {c : Code} {z0 u0 : Nat} (C : Cx G p s m args meth c prog_1_method_22_code 2 "BellPlate" ((some FieldType.int))) (n : Nat) : I_Bp_smallest G p l e s m args below meth c z0 u0 n := by
  induction n with
  | zero => exact ⟨fun _ _ _ => x_none, fun _ => x_none⟩
  | succ n IH => exact ⟨fun v0R v1I σ => s_Bp_smallest_0 C IH v0R v1I σ, fun σ => s_Bp_smallest_1 C IH σ⟩
theorem c_Bp_smallest (G : GX) (l : Launch) (v0R : Nat) (v1I : Int32) (σ : AM) : CT eI G l 4 y_Bp_smallest prog_1_method_22_code 2 ((some FieldType.int)) [.ref v0R, .int v1I] σ (M_Bp_smallest v0R v1I σ) := by
  refine ct_of (by decide +kernel) (Nat.le_of_ble_eq_true rfl) (fun p e s m args below meth c C hin => ?_)
  refine x_lve (lv' := [(0, .ref v0R), (1, .int v1I)]) rfl ?_
  intro r σ' h
  obtain ⟨n, hn⟩ := (lp_iff _ _ _).mp h
  exact (i_Bp_smallest C n).1 v0R v1I σ r σ' hn
/-! BellPlate.cannot(I)I -/
abbrev y_Bp_cannot : MethodName := ⟨"BellPlate", "cannot", "(I)I"⟩
theorem k_Bp_cannot : y_Bp_cannot.cls ≠ "java/lang/invoke/MethodHandle" ∧ y_Bp_cannot.cls ≠ "java/lang/invoke/VarHandle" ∧ (parseMethodDescriptor y_Bp_cannot.desc).map (fun d => d.parameters.length) = some 1 := by decide +kernel
theorem d_Bp_cannot_0 : decode prog_1_method_23_code 0 = .ok (.iload_n 1, 1) := by decide +kernel
theorem d_Bp_cannot_1 : decode prog_1_method_23_code 1 = .ok (.ifCond .lt 9, 3) := by decide +kernel
theorem d_Bp_cannot_4 : decode prog_1_method_23_code 4 = .ok (.iload_n 1, 1) := by decide +kernel
theorem d_Bp_cannot_5 : decode prog_1_method_23_code 5 = .ok (.bipush 6, 2) := by decide +kernel
theorem d_Bp_cannot_7 : decode prog_1_method_23_code 7 = .ok (.if_icmp .le 5, 3) := by decide +kernel
theorem d_Bp_cannot_10 : decode prog_1_method_23_code 10 = .ok (.iconst (-1), 1) := by decide +kernel
theorem d_Bp_cannot_11 : decode prog_1_method_23_code 11 = .ok (.ireturn, 1) := by decide +kernel
theorem d_Bp_cannot_12 : decode prog_1_method_23_code 12 = .ok (.aload_n 0, 1) := by decide +kernel
theorem d_Bp_cannot_13 : decode prog_1_method_23_code 13 = .ok (.getfield 71, 3) := by decide +kernel
theorem d_Bp_cannot_16 : decode prog_1_method_23_code 16 = .ok (.invokevirtual 267, 3) := by decide +kernel
theorem d_Bp_cannot_19 : decode prog_1_method_23_code 19 = .ok (.aload_n 0, 1) := by decide +kernel
theorem d_Bp_cannot_20 : decode prog_1_method_23_code 20 = .ok (.getfield 71, 3) := by decide +kernel
theorem d_Bp_cannot_23 : decode prog_1_method_23_code 23 = .ok (.iload_n 1, 1) := by decide +kernel
theorem d_Bp_cannot_24 : decode prog_1_method_23_code 24 = .ok (.invokevirtual 270, 3) := by decide +kernel
theorem d_Bp_cannot_27 : decode prog_1_method_23_code 27 = .ok (.ireturn, 1) := by decide +kernel
abbrev S_Bp_cannot : Type := Nat × Nat × Int32 × AM
noncomputable def T_Bp_cannot_0 (v0R : Nat) (v1I : Int32) (σ : AM) : S_Bp_cannot ⊕ Option (Int32 × AM) :=
  if v1I < 0 then (.inl (1, 0, 0, σ)) else (if (6 : Int32) < v1I then (.inl (1, 0, 0, σ)) else (gdT (okO σ v0R 11) <| gdT (okO σ (aR σ v0R 7) 8) <| bndT (M_Ft_seekTrade (aR σ v0R 7) σ) fun _ σ4 => gdT (okO σ4 v0R 11) <| gdT (okO σ4 (aR σ4 v0R 7) 8) <| bndT (M_Ft_trade (aR σ4 v0R 7) v1I σ4) fun r7 σ8 => .inr (some (r7, σ8))))
noncomputable def T_Bp_cannot_1  (σ : AM) : S_Bp_cannot ⊕ Option (Int32 × AM) :=
  .inr (some (((-1) : Int32), σ))
noncomputable def F_Bp_cannot : S_Bp_cannot → S_Bp_cannot ⊕ Option (Int32 × AM) := fun s => match s.1 with
  | 0 => T_Bp_cannot_0 (s.2.1) (s.2.2.1) (s.2.2.2)
  | _ => T_Bp_cannot_1  (s.2.2.2)
noncomputable def L_Bp_cannot_0 (v0R : Nat) (v1I : Int32) (σ : AM) : Option (Int32 × AM) := lp F_Bp_cannot (0, v0R, v1I, σ)
noncomputable def L_Bp_cannot_1  (σ : AM) : Option (Int32 × AM) := lp F_Bp_cannot (1, 0, 0, σ)
set_option maxRecDepth 20000 in
theorem E_Bp_cannot_0 (v0R : Nat) (v1I : Int32) (σ : AM) : L_Bp_cannot_0 v0R v1I σ = (if v1I < 0 then (L_Bp_cannot_1 σ) else (if (6 : Int32) < v1I then (L_Bp_cannot_1 σ) else (gd (okO σ v0R 11) <| gd (okO σ (aR σ v0R 7) 8) <| bnd (M_Ft_seekTrade (aR σ v0R 7) σ) fun _ σ4 => gd (okO σ4 v0R 11) <| gd (okO σ4 (aR σ4 v0R 7) 8) <| bnd (M_Ft_trade (aR σ4 v0R 7) v1I σ4) fun r7 σ8 => (some (r7, σ8))))) := by
  unfold L_Bp_cannot_0
  rw [lp_eq]
  show lpK (lp F_Bp_cannot) (T_Bp_cannot_0 v0R v1I σ) = _
  unfold T_Bp_cannot_0
  simp only [lpK_ite, lq_inl, lq_inr, lpK_bnd, lpK_gd, lq_let]
  try rfl
set_option maxRecDepth 20000 in
theorem E_Bp_cannot_1  (σ : AM) : L_Bp_cannot_1  σ = ((some (((-1) : Int32), σ))) := by
  unfold L_Bp_cannot_1
  rw [lp_eq]
  show lpK (lp F_Bp_cannot) (T_Bp_cannot_1  σ) = _
  unfold T_Bp_cannot_1
  simp only [lpK_ite, lq_inl, lq_inr, lpK_bnd, lpK_gd, lq_let]
  try rfl
noncomputable def M_Bp_cannot (v0R : Nat) (v1I : Int32) (σ : AM) : Option (Int32 × AM) := mw σ (L_Bp_cannot_0 v0R v1I σ)
def I_Bp_cannot (G : GX) (p : Program) (l : Launch) (e : Env) (s : State) (m : MethodId) (args : Array Value) (below : List Frame) (meth : Method) (c : Code) (z0 u0 n : Nat) : Prop :=
  (∀ (v0R : Nat) (v1I : Int32) (σ : AM), VX (QM eI G args s below z0 u0) G p l e s m args below meth c 165 z0 u0 2 (lpn F_Bp_cannot n (0, v0R, v1I, σ)) 0 [(0, .ref v0R), (1, .int v1I)] [] σ) ∧
  (∀ (σ : AM), VX (QM eI G args s below z0 u0) G p l e s m args below meth c 165 z0 u0 2 (lpn F_Bp_cannot n (1, 0, 0, σ)) 10 [] [] σ)
set_option maxRecDepth 20000 in
theorem s_Bp_cannot_0 {G : GX} {p : Program} {l : Launch} {e : Env} {s : State} {m : MethodId} {args : Array Value} {below : List Frame} {meth : Method} {c : Code} {z0 u0 n : Nat} (C : Cx G p s m args meth c prog_1_method_23_code 2 "BellPlate" ((some FieldType.int))) (IH : I_Bp_cannot G p l e s m args below meth c z0 u0 n) (v0R : Nat) (v1I : Int32) (σ : AM) : VX (QM eI G args s below z0 u0) G p l e s m args below meth c 165 z0 u0 2 (lpK (lpn F_Bp_cannot n) (T_Bp_cannot_0 v0R v1I σ)) 0 [(0, .ref v0R), (1, .int v1I)] [] σ := by
  unfold T_Bp_cannot_0
  refine x_iload_n C d_Bp_cannot_0 1 rfl ?_
  refine x_if_lt (tgt := 10) C d_Bp_cannot_1 (by decide) (fun _ => ?_) (fun _ => ?_)
  · refine x_lv [] rfl ?_
    exact IH.2  (σ)
  · refine x_iload_n C d_Bp_cannot_4 1 rfl ?_
    refine x_bipush (v := (6 : Int32)) C d_Bp_cannot_5 (by decide) ?_
    refine x_icmp_le (tgt := 12) C d_Bp_cannot_7 (by decide) (fun _ => ?_) (fun _ => ?_)
    · refine x_lv [] rfl ?_
      exact IH.2  (σ)
    · refine x_aload_n C d_Bp_cannot_12 0 rfl ?_
      refine x_gd (fun h1 => ?_)
      refine x_gd (fun h2 => ?_)
      refine x_getR (k := 7) (kv := 8) C (okO_iff.mp h1) rfl j10_ok (by decide) rfl (okO_iff.mp h2) (by decide) w697 d_Bp_cannot_13 ?_
      refine x_callVV (As := []) C (c_Ft_seekTrade G l (aR σ v0R 7)  σ) (okO_iff.mp h2) rfl w1358 w1359 w1357 w1360 w129 k_Ft_seekTrade rfl (by decide) (by decide) rfl (Nat.le_of_ble_eq_true rfl) d_Bp_cannot_16 (fun r3 σ4 => ?_)
      refine x_aload_n C d_Bp_cannot_19 0 rfl ?_
      refine x_gd (fun h5 => ?_)
      refine x_gd (fun h6 => ?_)
      refine x_getR (k := 7) (kv := 8) C (okO_iff.mp h5) rfl j10_ok (by decide) rfl (okO_iff.mp h6) (by decide) w697 d_Bp_cannot_20 ?_
      refine x_iload_n C d_Bp_cannot_23 1 rfl ?_
      refine x_callVI (As := [.int v1I]) C (c_Ft_trade G l (aR σ4 v0R 7) v1I σ4) (okO_iff.mp h6) rfl w1396 w1397 w1395 w1398 w129 k_Ft_trade rfl (by decide) (by decide) rfl (Nat.le_of_ble_eq_true rfl) d_Bp_cannot_24 (fun r7 σ8 => ?_)
      exact x_iret C d_Bp_cannot_27
set_option maxRecDepth 20000 in
theorem s_Bp_cannot_1 {G : GX} {p : Program} {l : Launch} {e : Env} {s : State} {m : MethodId} {args : Array Value} {below : List Frame} {meth : Method} {c : Code} {z0 u0 n : Nat} (C : Cx G p s m args meth c prog_1_method_23_code 2 "BellPlate" ((some FieldType.int))) (IH : I_Bp_cannot G p l e s m args below meth c z0 u0 n)  (σ : AM) : VX (QM eI G args s below z0 u0) G p l e s m args below meth c 165 z0 u0 2 (lpK (lpn F_Bp_cannot n) (T_Bp_cannot_1  σ)) 10 [] [] σ := by
  unfold T_Bp_cannot_1
  refine x_iconst (v := ((-1) : Int32)) C d_Bp_cannot_10 (by decide) ?_
  exact x_iret C d_Bp_cannot_11
theorem i_Bp_cannot {G : GX} {p : Program} {l : Launch} {e : Env} {s : State} {m : MethodId} {args : Array Value} {below : List Frame} {meth : Method} {c : Code} {z0 u0 : Nat} (C : Cx G p s m args meth c prog_1_method_23_code 2 "BellPlate" ((some FieldType.int))) (n : Nat) : I_Bp_cannot G p l e s m args below meth c z0 u0 n := by
  induction n with
  | zero => exact ⟨fun _ _ _ => x_none, fun _ => x_none⟩
  | succ n IH => exact ⟨fun v0R v1I σ => s_Bp_cannot_0 C IH v0R v1I σ, fun σ => s_Bp_cannot_1 C IH σ⟩
theorem c_Bp_cannot (G : GX) (l : Launch) (v0R : Nat) (v1I : Int32) (σ : AM) : CT eI G l 165 y_Bp_cannot prog_1_method_23_code 2 ((some FieldType.int)) [.ref v0R, .int v1I] σ (M_Bp_cannot v0R v1I σ) := by
  refine ct_of (by decide +kernel) (Nat.le_of_ble_eq_true rfl) (fun p e s m args below meth c C hin => ?_)
  refine x_lve (lv' := [(0, .ref v0R), (1, .int v1I)]) rfl ?_
  intro r σ' h
  obtain ⟨n, hn⟩ := (lp_iff _ _ _).mp h
  exact (i_Bp_cannot C n).1 v0R v1I σ r σ' hn
/-! BellPlate.wrong(I)I -/
abbrev y_Bp_wrong : MethodName := ⟨"BellPlate", "wrong", "(I)I"⟩
theorem k_Bp_wrong : y_Bp_wrong.cls ≠ "java/lang/invoke/MethodHandle" ∧ y_Bp_wrong.cls ≠ "java/lang/invoke/VarHandle" ∧ (parseMethodDescriptor y_Bp_wrong.desc).map (fun d => d.parameters.length) = some 1 := by decide +kernel
theorem d_Bp_wrong_0 : decode prog_1_method_24_code 0 = .ok (.iload_n 1, 1) := by decide +kernel
theorem d_Bp_wrong_1 : decode prog_1_method_24_code 1 = .ok (.ifCond .lt 18, 3) := by decide +kernel
theorem d_Bp_wrong_4 : decode prog_1_method_24_code 4 = .ok (.iload_n 1, 1) := by decide +kernel
theorem d_Bp_wrong_5 : decode prog_1_method_24_code 5 = .ok (.iconst 1, 1) := by decide +kernel
theorem d_Bp_wrong_6 : decode prog_1_method_24_code 6 = .ok (.if_icmp .gt 13, 3) := by decide +kernel
theorem d_Bp_wrong_9 : decode prog_1_method_24_code 9 = .ok (.aload_n 0, 1) := by decide +kernel
theorem d_Bp_wrong_10 : decode prog_1_method_24_code 10 = .ok (.getfield 28, 3) := by decide +kernel
theorem d_Bp_wrong_13 : decode prog_1_method_24_code 13 = .ok (.invokevirtual 273, 3) := by decide +kernel
theorem d_Bp_wrong_16 : decode prog_1_method_24_code 16 = .ok (.ifCond .ne 5, 3) := by decide +kernel
theorem d_Bp_wrong_19 : decode prog_1_method_24_code 19 = .ok (.iconst (-1), 1) := by decide +kernel
theorem d_Bp_wrong_20 : decode prog_1_method_24_code 20 = .ok (.ireturn, 1) := by decide +kernel
theorem d_Bp_wrong_21 : decode prog_1_method_24_code 21 = .ok (.aload_n 0, 1) := by decide +kernel
theorem d_Bp_wrong_22 : decode prog_1_method_24_code 22 = .ok (.getfield 80, 3) := by decide +kernel
theorem d_Bp_wrong_25 : decode prog_1_method_24_code 25 = .ok (.invokevirtual 276, 3) := by decide +kernel
theorem d_Bp_wrong_28 : decode prog_1_method_24_code 28 = .ok (.iload_n 1, 1) := by decide +kernel
theorem d_Bp_wrong_29 : decode prog_1_method_24_code 29 = .ok (.ifCond .ne 13, 3) := by decide +kernel
theorem d_Bp_wrong_32 : decode prog_1_method_24_code 32 = .ok (.aload_n 0, 1) := by decide +kernel
theorem d_Bp_wrong_33 : decode prog_1_method_24_code 33 = .ok (.getfield 80, 3) := by decide +kernel
theorem d_Bp_wrong_36 : decode prog_1_method_24_code 36 = .ok (.invokevirtual 277, 3) := by decide +kernel
theorem d_Bp_wrong_39 : decode prog_1_method_24_code 39 = .ok (.goto 17, 3) := by decide +kernel
theorem d_Bp_wrong_42 : decode prog_1_method_24_code 42 = .ok (.aload_n 0, 1) := by decide +kernel
theorem d_Bp_wrong_43 : decode prog_1_method_24_code 43 = .ok (.getfield 80, 3) := by decide +kernel
theorem d_Bp_wrong_46 : decode prog_1_method_24_code 46 = .ok (.aload_n 0, 1) := by decide +kernel
theorem d_Bp_wrong_47 : decode prog_1_method_24_code 47 = .ok (.getfield 80, 3) := by decide +kernel
theorem d_Bp_wrong_50 : decode prog_1_method_24_code 50 = .ok (.invokevirtual 277, 3) := by decide +kernel
theorem d_Bp_wrong_53 : decode prog_1_method_24_code 53 = .ok (.invokevirtual 280, 3) := by decide +kernel
theorem d_Bp_wrong_56 : decode prog_1_method_24_code 56 = .ok (.ireturn, 1) := by decide +kernel
abbrev S_Bp_wrong : Type := Nat × Nat × Int32 × Int32 × AM
noncomputable def T_Bp_wrong_0 (v0R : Nat) (v1I : Int32) (σ : AM) : S_Bp_wrong ⊕ Option (Int32 × AM) :=
  if v1I < 0 then (.inl (1, 0, 0, 0, σ)) else (if (1 : Int32) < v1I then (.inl (1, 0, 0, 0, σ)) else (gdT (okO σ v0R 11) <| gdT (okO σ (aR σ v0R 2) 3) <| bndT (M_Ls_allowed (aR σ v0R 2) σ) fun r3 σ4 => if r3 = 0 then (.inl (1, 0, 0, 0, σ4)) else (gdT (okO σ4 v0R 11) <| gdT (okO σ4 (aR σ4 v0R 8) 9) <| bndT (M_Db_refresh (aR σ4 v0R 8) σ4) fun _ σ8 => if v1I = 0 then (gdT (okO σ8 v0R 11) <| gdT (okO σ8 (aR σ8 v0R 8) 9) <| bndT (M_Db_fewestWrong (aR σ8 v0R 8) σ8) fun r11 σ12 => .inl (2, 0, 0, r11, σ12)) else (gdT (okO σ8 v0R 11) <| gdT (okO σ8 (aR σ8 v0R 8) 9) <| bndT (M_Db_fewestWrong (aR σ8 v0R 8) σ8) fun r15 σ16 => gdT (okO σ16 (aR σ8 v0R 8) 9) <| bndT (M_Db_weightsWith (aR σ8 v0R 8) r15 σ16) fun r17 σ18 => .inl (2, 0, 0, r17, σ18)))))
noncomputable def T_Bp_wrong_1  (σ : AM) : S_Bp_wrong ⊕ Option (Int32 × AM) :=
  .inr (some (((-1) : Int32), σ))
noncomputable def T_Bp_wrong_2 (s0I : Int32) (σ : AM) : S_Bp_wrong ⊕ Option (Int32 × AM) :=
  .inr (some (s0I, σ))
noncomputable def F_Bp_wrong : S_Bp_wrong → S_Bp_wrong ⊕ Option (Int32 × AM) := fun s => match s.1 with
  | 0 => T_Bp_wrong_0 (s.2.1) (s.2.2.1) (s.2.2.2.2)
  | 1 => T_Bp_wrong_1  (s.2.2.2.2)
  | _ => T_Bp_wrong_2 (s.2.2.2.1) (s.2.2.2.2)
noncomputable def L_Bp_wrong_0 (v0R : Nat) (v1I : Int32) (σ : AM) : Option (Int32 × AM) := lp F_Bp_wrong (0, v0R, v1I, 0, σ)
noncomputable def L_Bp_wrong_1  (σ : AM) : Option (Int32 × AM) := lp F_Bp_wrong (1, 0, 0, 0, σ)
noncomputable def L_Bp_wrong_2 (s0I : Int32) (σ : AM) : Option (Int32 × AM) := lp F_Bp_wrong (2, 0, 0, s0I, σ)
set_option maxRecDepth 20000 in
theorem E_Bp_wrong_0 (v0R : Nat) (v1I : Int32) (σ : AM) : L_Bp_wrong_0 v0R v1I σ = (if v1I < 0 then (L_Bp_wrong_1 σ) else (if (1 : Int32) < v1I then (L_Bp_wrong_1 σ) else (gd (okO σ v0R 11) <| gd (okO σ (aR σ v0R 2) 3) <| bnd (M_Ls_allowed (aR σ v0R 2) σ) fun r3 σ4 => if r3 = 0 then (L_Bp_wrong_1 σ4) else (gd (okO σ4 v0R 11) <| gd (okO σ4 (aR σ4 v0R 8) 9) <| bnd (M_Db_refresh (aR σ4 v0R 8) σ4) fun _ σ8 => if v1I = 0 then (gd (okO σ8 v0R 11) <| gd (okO σ8 (aR σ8 v0R 8) 9) <| bnd (M_Db_fewestWrong (aR σ8 v0R 8) σ8) fun r11 σ12 => L_Bp_wrong_2 r11 σ12) else (gd (okO σ8 v0R 11) <| gd (okO σ8 (aR σ8 v0R 8) 9) <| bnd (M_Db_fewestWrong (aR σ8 v0R 8) σ8) fun r15 σ16 => gd (okO σ16 (aR σ8 v0R 8) 9) <| bnd (M_Db_weightsWith (aR σ8 v0R 8) r15 σ16) fun r17 σ18 => L_Bp_wrong_2 r17 σ18))))) := by
  unfold L_Bp_wrong_0
  rw [lp_eq]
  show lpK (lp F_Bp_wrong) (T_Bp_wrong_0 v0R v1I σ) = _
  unfold T_Bp_wrong_0
  simp only [lpK_ite, lq_inl, lq_inr, lpK_bnd, lpK_gd, lq_let]
  try rfl
set_option maxRecDepth 20000 in
theorem E_Bp_wrong_1  (σ : AM) : L_Bp_wrong_1  σ = ((some (((-1) : Int32), σ))) := by
  unfold L_Bp_wrong_1
  rw [lp_eq]
  show lpK (lp F_Bp_wrong) (T_Bp_wrong_1  σ) = _
  unfold T_Bp_wrong_1
  simp only [lpK_ite, lq_inl, lq_inr, lpK_bnd, lpK_gd, lq_let]
  try rfl
set_option maxRecDepth 20000 in
theorem E_Bp_wrong_2 (s0I : Int32) (σ : AM) : L_Bp_wrong_2 s0I σ = ((some (s0I, σ))) := by
  unfold L_Bp_wrong_2
  rw [lp_eq]
  show lpK (lp F_Bp_wrong) (T_Bp_wrong_2 s0I σ) = _
  unfold T_Bp_wrong_2
  simp only [lpK_ite, lq_inl, lq_inr, lpK_bnd, lpK_gd, lq_let]
  try rfl
noncomputable def M_Bp_wrong (v0R : Nat) (v1I : Int32) (σ : AM) : Option (Int32 × AM) := mw σ (L_Bp_wrong_0 v0R v1I σ)
def I_Bp_wrong (G : GX) (p : Program) (l : Launch) (e : Env) (s : State) (m : MethodId) (args : Array Value) (below : List Frame) (meth : Method) (c : Code) (z0 u0 n : Nat) : Prop :=
  (∀ (v0R : Nat) (v1I : Int32) (σ : AM), VX (QM eI G args s below z0 u0) G p l e s m args below meth c 3 z0 u0 2 (lpn F_Bp_wrong n (0, v0R, v1I, 0, σ)) 0 [(0, .ref v0R), (1, .int v1I)] [] σ) ∧
  (∀ (σ : AM), VX (QM eI G args s below z0 u0) G p l e s m args below meth c 3 z0 u0 2 (lpn F_Bp_wrong n (1, 0, 0, 0, σ)) 19 [] [] σ) ∧
  (∀ (s0I : Int32) (σ : AM), VX (QM eI G args s below z0 u0) G p l e s m args below meth c 3 z0 u0 2 (lpn F_Bp_wrong n (2, 0, 0, s0I, σ)) 56 [] [.int s0I] σ)
set_option maxRecDepth 20000 in
theorem s_Bp_wrong_0 {G : GX} {p : Program} {l : Launch} {e : Env} {s : State} {m : MethodId} {args : Array Value} {below : List Frame} {meth : Method} {c : Code} {z0 u0 n : Nat} (C : Cx G p s m args meth c prog_1_method_24_code 2 "BellPlate" ((some FieldType.int))) (IH : I_Bp_wrong G p l e s m args below meth c z0 u0 n) (v0R : Nat) (v1I : Int32) (σ : AM) : VX (QM eI G args s below z0 u0) G p l e s m args below meth c 3 z0 u0 2 (lpK (lpn F_Bp_wrong n) (T_Bp_wrong_0 v0R v1I σ)) 0 [(0, .ref v0R), (1, .int v1I)] [] σ := by
  unfold T_Bp_wrong_0
  refine x_iload_n C d_Bp_wrong_0 1 rfl ?_
  refine x_if_lt (tgt := 19) C d_Bp_wrong_1 (by decide) (fun _ => ?_) (fun _ => ?_)
  · refine x_lv [] rfl ?_
    exact IH.2.1  (σ)
  · refine x_iload_n C d_Bp_wrong_4 1 rfl ?_
    refine x_iconst (v := (1 : Int32)) C d_Bp_wrong_5 (by decide) ?_
    refine x_icmp_gt (tgt := 19) C d_Bp_wrong_6 (by decide) (fun _ => ?_) (fun _ => ?_)
    · refine x_lv [] rfl ?_
      exact IH.2.1  (σ)
    · refine x_aload_n C d_Bp_wrong_9 0 rfl ?_
      refine x_gd (fun h1 => ?_)
      refine x_gd (fun h2 => ?_)
      refine x_getR (k := 2) (kv := 3) C (okO_iff.mp h1) rfl j10_ok (by decide) rfl (okO_iff.mp h2) (by decide) w692 d_Bp_wrong_10 ?_
      refine x_callVI (As := []) C (c_Ls_allowed G l (aR σ v0R 2)  σ) (okO_iff.mp h2) rfl w1404 w1405 w1403 w1406 w123 k_Ls_allowed rfl (by decide) (by decide) rfl (Nat.le_of_ble_eq_true rfl) d_Bp_wrong_13 (fun r3 σ4 => ?_)
      refine x_if_ne (tgt := 21) C d_Bp_wrong_16 (by decide) (fun _ => ?_) (fun _ => ?_)
      · refine x_lv [] rfl ?_
        exact IH.2.1  (σ4)
      · refine x_aload_n C d_Bp_wrong_21 0 rfl ?_
        refine x_gd (fun h5 => ?_)
        refine x_gd (fun h6 => ?_)
        refine x_getR (k := 8) (kv := 9) C (okO_iff.mp h5) rfl j10_ok (by decide) rfl (okO_iff.mp h6) (by decide) w698 d_Bp_wrong_22 ?_
        refine x_callVV (As := []) C (c_Db_refresh G l (aR σ4 v0R 8)  σ4) (okO_iff.mp h6) rfl w1408 w1409 w1407 w1410 w130 k_Db_refresh rfl (by decide) (by decide) rfl (Nat.le_of_ble_eq_true rfl) d_Bp_wrong_25 (fun r7 σ8 => ?_)
        refine x_iload_n C d_Bp_wrong_28 1 rfl ?_
        refine x_if_ne (tgt := 42) C d_Bp_wrong_29 (by decide) (fun _ => ?_) (fun _ => ?_)
        · refine x_aload_n C d_Bp_wrong_32 0 rfl ?_
          refine x_gd (fun h9 => ?_)
          refine x_gd (fun h10 => ?_)
          refine x_getR (k := 8) (kv := 9) C (okO_iff.mp h9) rfl j10_ok (by decide) rfl (okO_iff.mp h10) (by decide) w698 d_Bp_wrong_33 ?_
          refine x_callVI (As := []) C (c_Db_fewestWrong G l (aR σ8 v0R 8)  σ8) (okO_iff.mp h10) rfl w1428 w1429 w1427 w1430 w130 k_Db_fewestWrong rfl (by decide) (by decide) rfl (Nat.le_of_ble_eq_true rfl) d_Bp_wrong_36 (fun r11 σ12 => ?_)
          refine x_goto (tgt := 56) C d_Bp_wrong_39 (by decide) ?_
          refine x_lv [] rfl ?_
          exact IH.2.2 r11 (σ12)
        · refine x_aload_n C d_Bp_wrong_42 0 rfl ?_
          refine x_gd (fun h13 => ?_)
          refine x_gd (fun h14 => ?_)
          refine x_getR (k := 8) (kv := 9) C (okO_iff.mp h13) rfl j10_ok (by decide) rfl (okO_iff.mp h14) (by decide) w698 d_Bp_wrong_43 ?_
          refine x_aload_n C d_Bp_wrong_46 0 rfl ?_
          refine x_getR (k := 8) (kv := 9) C (okO_iff.mp h13) rfl j10_ok (by decide) rfl (okO_iff.mp h14) (by decide) w698 d_Bp_wrong_47 ?_
          refine x_callVI (As := []) C (c_Db_fewestWrong G l (aR σ8 v0R 8)  σ8) (okO_iff.mp h14) rfl w1428 w1429 w1427 w1430 w130 k_Db_fewestWrong rfl (by decide) (by decide) rfl (Nat.le_of_ble_eq_true rfl) d_Bp_wrong_50 (fun r15 σ16 => ?_)
          refine x_gd (fun h19 => ?_)
          refine x_callVI (As := [.int r15]) C (c_Db_weightsWith G l (aR σ8 v0R 8) r15 σ16) (okO_iff.mp h19) rfl w1432 w1433 w1431 w1434 w130 k_Db_weightsWith rfl (by decide) (by decide) rfl (Nat.le_of_ble_eq_true rfl) d_Bp_wrong_53 (fun r17 σ18 => ?_)
          refine x_lv [] rfl ?_
          exact IH.2.2 r17 (σ18)
set_option maxRecDepth 20000 in
theorem s_Bp_wrong_1 {G : GX} {p : Program} {l : Launch} {e : Env} {s : State} {m : MethodId} {args : Array Value} {below : List Frame} {meth : Method} {c : Code} {z0 u0 n : Nat} (C : Cx G p s m args meth c prog_1_method_24_code 2 "BellPlate" ((some FieldType.int))) (IH : I_Bp_wrong G p l e s m args below meth c z0 u0 n)  (σ : AM) : VX (QM eI G args s below z0 u0) G p l e s m args below meth c 3 z0 u0 2 (lpK (lpn F_Bp_wrong n) (T_Bp_wrong_1  σ)) 19 [] [] σ := by
  unfold T_Bp_wrong_1
  refine x_iconst (v := ((-1) : Int32)) C d_Bp_wrong_19 (by decide) ?_
  exact x_iret C d_Bp_wrong_20
set_option maxRecDepth 20000 in
theorem s_Bp_wrong_2 {G : GX} {p : Program} {l : Launch} {e : Env} {s : State} {m : MethodId} {args : Array Value} {below : List Frame} {meth : Method} {c : Code} {z0 u0 n : Nat} (C : Cx G p s m args meth c prog_1_method_24_code 2 "BellPlate" ((some FieldType.int))) (IH : I_Bp_wrong G p l e s m args below meth c z0 u0 n) (s0I : Int32) (σ : AM) : VX (QM eI G args s below z0 u0) G p l e s m args below meth c 3 z0 u0 2 (lpK (lpn F_Bp_wrong n) (T_Bp_wrong_2 s0I σ)) 56 [] [.int s0I] σ := by
  unfold T_Bp_wrong_2
  exact x_iret C d_Bp_wrong_56
theorem i_Bp_wrong {G : GX} {p : Program} {l : Launch} {e : Env} {s : State} {m : MethodId} {args : Array Value} {below : List Frame} {meth : Method} {c : Code} {z0 u0 : Nat} (C : Cx G p s m args meth c prog_1_method_24_code 2 "BellPlate" ((some FieldType.int))) (n : Nat) : I_Bp_wrong G p l e s m args below meth c z0 u0 n := by
  induction n with
  | zero => exact ⟨fun _ _ _ => x_none, fun _ => x_none, fun _ _ => x_none⟩
  | succ n IH => exact ⟨fun v0R v1I σ => s_Bp_wrong_0 C IH v0R v1I σ, fun σ => s_Bp_wrong_1 C IH σ, fun s0I σ => s_Bp_wrong_2 C IH s0I σ⟩
theorem c_Bp_wrong (G : GX) (l : Launch) (v0R : Nat) (v1I : Int32) (σ : AM) : CT eI G l 3 y_Bp_wrong prog_1_method_24_code 2 ((some FieldType.int)) [.ref v0R, .int v1I] σ (M_Bp_wrong v0R v1I σ) := by
  refine ct_of (by decide +kernel) (Nat.le_of_ble_eq_true rfl) (fun p e s m args below meth c C hin => ?_)
  refine x_lve (lv' := [(0, .ref v0R), (1, .int v1I)]) rfl ?_
  intro r σ' h
  obtain ⟨n, hn⟩ := (lp_iff _ _ _).mp h
  exact (i_Bp_wrong C n).1 v0R v1I σ r σ' hn
/-! BellPlate.suspect(I)I -/
abbrev y_Bp_suspect : MethodName := ⟨"BellPlate", "suspect", "(I)I"⟩
theorem k_Bp_suspect : y_Bp_suspect.cls ≠ "java/lang/invoke/MethodHandle" ∧ y_Bp_suspect.cls ≠ "java/lang/invoke/VarHandle" ∧ (parseMethodDescriptor y_Bp_suspect.desc).map (fun d => d.parameters.length) = some 1 := by decide +kernel
theorem d_Bp_suspect_0 : decode prog_1_method_25_code 0 = .ok (.aload_n 0, 1) := by decide +kernel
theorem d_Bp_suspect_1 : decode prog_1_method_25_code 1 = .ok (.getfield 35, 3) := by decide +kernel
theorem d_Bp_suspect_4 : decode prog_1_method_25_code 4 = .ok (.iload_n 1, 1) := by decide +kernel
theorem d_Bp_suspect_5 : decode prog_1_method_25_code 5 = .ok (.invokevirtual 283, 3) := by decide +kernel
theorem d_Bp_suspect_8 : decode prog_1_method_25_code 8 = .ok (.ifCond .eq 13, 3) := by decide +kernel
theorem d_Bp_suspect_11 : decode prog_1_method_25_code 11 = .ok (.aload_n 0, 1) := by decide +kernel
theorem d_Bp_suspect_12 : decode prog_1_method_25_code 12 = .ok (.getfield 28, 3) := by decide +kernel
theorem d_Bp_suspect_15 : decode prog_1_method_25_code 15 = .ok (.invokevirtual 273, 3) := by decide +kernel
theorem d_Bp_suspect_18 : decode prog_1_method_25_code 18 = .ok (.ifCond .ne 5, 3) := by decide +kernel
theorem d_Bp_suspect_21 : decode prog_1_method_25_code 21 = .ok (.iconst (-1), 1) := by decide +kernel
theorem d_Bp_suspect_22 : decode prog_1_method_25_code 22 = .ok (.ireturn, 1) := by decide +kernel
theorem d_Bp_suspect_23 : decode prog_1_method_25_code 23 = .ok (.aload_n 0, 1) := by decide +kernel
theorem d_Bp_suspect_24 : decode prog_1_method_25_code 24 = .ok (.getfield 80, 3) := by decide +kernel
theorem d_Bp_suspect_27 : decode prog_1_method_25_code 27 = .ok (.invokevirtual 276, 3) := by decide +kernel
theorem d_Bp_suspect_30 : decode prog_1_method_25_code 30 = .ok (.aload_n 0, 1) := by decide +kernel
theorem d_Bp_suspect_31 : decode prog_1_method_25_code 31 = .ok (.getfield 80, 3) := by decide +kernel
theorem d_Bp_suspect_34 : decode prog_1_method_25_code 34 = .ok (.iload_n 1, 1) := by decide +kernel
theorem d_Bp_suspect_35 : decode prog_1_method_25_code 35 = .ok (.invokevirtual 286, 3) := by decide +kernel
theorem d_Bp_suspect_38 : decode prog_1_method_25_code 38 = .ok (.ifCond .eq 7, 3) := by decide +kernel
theorem d_Bp_suspect_41 : decode prog_1_method_25_code 41 = .ok (.iconst 1, 1) := by decide +kernel
theorem d_Bp_suspect_42 : decode prog_1_method_25_code 42 = .ok (.goto 4, 3) := by decide +kernel
theorem d_Bp_suspect_45 : decode prog_1_method_25_code 45 = .ok (.iconst 0, 1) := by decide +kernel
theorem d_Bp_suspect_46 : decode prog_1_method_25_code 46 = .ok (.ireturn, 1) := by decide +kernel
abbrev S_Bp_suspect : Type := Nat × Nat × Int32 × Int32 × AM
noncomputable def T_Bp_suspect_0 (v0R : Nat) (v1I : Int32) (σ : AM) : S_Bp_suspect ⊕ Option (Int32 × AM) :=
  gdT (okO σ v0R 11) <| gdT (okO σ (aR σ v0R 3) 4) <| bndT (M_Bk_hasTrial (aR σ v0R 3) v1I σ) fun r3 σ4 => if r3 = 0 then (.inl (1, 0, 0, 0, σ4)) else (gdT (okO σ4 v0R 11) <| gdT (okO σ4 (aR σ4 v0R 2) 3) <| bndT (M_Ls_allowed (aR σ4 v0R 2) σ4) fun r7 σ8 => if r7 = 0 then (.inl (1, 0, 0, 0, σ8)) else (gdT (okO σ8 v0R 11) <| gdT (okO σ8 (aR σ8 v0R 8) 9) <| bndT (M_Db_refresh (aR σ8 v0R 8) σ8) fun _ σ12 => gdT (okO σ12 v0R 11) <| gdT (okO σ12 (aR σ12 v0R 8) 9) <| bndT (M_Db_alwaysWrong (aR σ12 v0R 8) v1I σ12) fun r15 σ16 => if r15 = 0 then (.inl (2, 0, 0, (0 : Int32), σ16)) else (.inl (2, 0, 0, (1 : Int32), σ16))))
noncomputable def T_Bp_suspect_1  (σ : AM) : S_Bp_suspect ⊕ Option (Int32 × AM) :=
  .inr (some (((-1) : Int32), σ))
noncomputable def T_Bp_suspect_2 (s0I : Int32) (σ : AM) : S_Bp_suspect ⊕ Option (Int32 × AM) :=
  .inr (some (s0I, σ))
noncomputable def F_Bp_suspect : S_Bp_suspect → S_Bp_suspect ⊕ Option (Int32 × AM) := fun s => match s.1 with
  | 0 => T_Bp_suspect_0 (s.2.1) (s.2.2.1) (s.2.2.2.2)
  | 1 => T_Bp_suspect_1  (s.2.2.2.2)
  | _ => T_Bp_suspect_2 (s.2.2.2.1) (s.2.2.2.2)
noncomputable def L_Bp_suspect_0 (v0R : Nat) (v1I : Int32) (σ : AM) : Option (Int32 × AM) := lp F_Bp_suspect (0, v0R, v1I, 0, σ)
noncomputable def L_Bp_suspect_1  (σ : AM) : Option (Int32 × AM) := lp F_Bp_suspect (1, 0, 0, 0, σ)
noncomputable def L_Bp_suspect_2 (s0I : Int32) (σ : AM) : Option (Int32 × AM) := lp F_Bp_suspect (2, 0, 0, s0I, σ)
set_option maxRecDepth 20000 in
theorem E_Bp_suspect_0 (v0R : Nat) (v1I : Int32) (σ : AM) : L_Bp_suspect_0 v0R v1I σ = (gd (okO σ v0R 11) <| gd (okO σ (aR σ v0R 3) 4) <| bnd (M_Bk_hasTrial (aR σ v0R 3) v1I σ) fun r3 σ4 => if r3 = 0 then (L_Bp_suspect_1 σ4) else (gd (okO σ4 v0R 11) <| gd (okO σ4 (aR σ4 v0R 2) 3) <| bnd (M_Ls_allowed (aR σ4 v0R 2) σ4) fun r7 σ8 => if r7 = 0 then (L_Bp_suspect_1 σ8) else (gd (okO σ8 v0R 11) <| gd (okO σ8 (aR σ8 v0R 8) 9) <| bnd (M_Db_refresh (aR σ8 v0R 8) σ8) fun _ σ12 => gd (okO σ12 v0R 11) <| gd (okO σ12 (aR σ12 v0R 8) 9) <| bnd (M_Db_alwaysWrong (aR σ12 v0R 8) v1I σ12) fun r15 σ16 => if r15 = 0 then (L_Bp_suspect_2 ((0 : Int32)) σ16) else (L_Bp_suspect_2 ((1 : Int32)) σ16)))) := by
  unfold L_Bp_suspect_0
  rw [lp_eq]
  show lpK (lp F_Bp_suspect) (T_Bp_suspect_0 v0R v1I σ) = _
  unfold T_Bp_suspect_0
  simp only [lpK_ite, lq_inl, lq_inr, lpK_bnd, lpK_gd, lq_let]
  try rfl
set_option maxRecDepth 20000 in
theorem E_Bp_suspect_1  (σ : AM) : L_Bp_suspect_1  σ = ((some (((-1) : Int32), σ))) := by
  unfold L_Bp_suspect_1
  rw [lp_eq]
  show lpK (lp F_Bp_suspect) (T_Bp_suspect_1  σ) = _
  unfold T_Bp_suspect_1
  simp only [lpK_ite, lq_inl, lq_inr, lpK_bnd, lpK_gd, lq_let]
  try rfl
set_option maxRecDepth 20000 in
theorem E_Bp_suspect_2 (s0I : Int32) (σ : AM) : L_Bp_suspect_2 s0I σ = ((some (s0I, σ))) := by
  unfold L_Bp_suspect_2
  rw [lp_eq]
  show lpK (lp F_Bp_suspect) (T_Bp_suspect_2 s0I σ) = _
  unfold T_Bp_suspect_2
  simp only [lpK_ite, lq_inl, lq_inr, lpK_bnd, lpK_gd, lq_let]
  try rfl
noncomputable def M_Bp_suspect (v0R : Nat) (v1I : Int32) (σ : AM) : Option (Int32 × AM) := mw σ (L_Bp_suspect_0 v0R v1I σ)
def I_Bp_suspect (G : GX) (p : Program) (l : Launch) (e : Env) (s : State) (m : MethodId) (args : Array Value) (below : List Frame) (meth : Method) (c : Code) (z0 u0 n : Nat) : Prop :=
  (∀ (v0R : Nat) (v1I : Int32) (σ : AM), VX (QM eI G args s below z0 u0) G p l e s m args below meth c 3 z0 u0 2 (lpn F_Bp_suspect n (0, v0R, v1I, 0, σ)) 0 [(0, .ref v0R), (1, .int v1I)] [] σ) ∧
  (∀ (σ : AM), VX (QM eI G args s below z0 u0) G p l e s m args below meth c 3 z0 u0 2 (lpn F_Bp_suspect n (1, 0, 0, 0, σ)) 21 [] [] σ) ∧
  (∀ (s0I : Int32) (σ : AM), VX (QM eI G args s below z0 u0) G p l e s m args below meth c 3 z0 u0 2 (lpn F_Bp_suspect n (2, 0, 0, s0I, σ)) 46 [] [.int s0I] σ)
set_option maxRecDepth 20000 in
theorem s_Bp_suspect_0 {G : GX} {p : Program} {l : Launch} {e : Env} {s : State} {m : MethodId} {args : Array Value} {below : List Frame} {meth : Method} {c : Code} {z0 u0 n : Nat} (C : Cx G p s m args meth c prog_1_method_25_code 2 "BellPlate" ((some FieldType.int))) (IH : I_Bp_suspect G p l e s m args below meth c z0 u0 n) (v0R : Nat) (v1I : Int32) (σ : AM) : VX (QM eI G args s below z0 u0) G p l e s m args below meth c 3 z0 u0 2 (lpK (lpn F_Bp_suspect n) (T_Bp_suspect_0 v0R v1I σ)) 0 [(0, .ref v0R), (1, .int v1I)] [] σ := by
  unfold T_Bp_suspect_0
  refine x_aload_n C d_Bp_suspect_0 0 rfl ?_
  refine x_gd (fun h1 => ?_)
  refine x_gd (fun h2 => ?_)
  refine x_getR (k := 3) (kv := 4) C (okO_iff.mp h1) rfl j10_ok (by decide) rfl (okO_iff.mp h2) (by decide) w693 d_Bp_suspect_1 ?_
  refine x_iload_n C d_Bp_suspect_4 1 rfl ?_
  refine x_callVI (As := [.int v1I]) C (c_Bk_hasTrial G l (aR σ v0R 3) v1I σ) (okO_iff.mp h2) rfl w1375 w1376 w1439 w1377 w124 k_Bk_hasTrial rfl (by decide) (by decide) rfl (Nat.le_of_ble_eq_true rfl) d_Bp_suspect_5 (fun r3 σ4 => ?_)
  refine x_if_eq (tgt := 21) C d_Bp_suspect_8 (by decide) (fun _ => ?_) (fun _ => ?_)
  · refine x_lv [] rfl ?_
    exact IH.2.1  (σ4)
  · refine x_aload_n C d_Bp_suspect_11 0 rfl ?_
    refine x_gd (fun h5 => ?_)
    refine x_gd (fun h6 => ?_)
    refine x_getR (k := 2) (kv := 3) C (okO_iff.mp h5) rfl j10_ok (by decide) rfl (okO_iff.mp h6) (by decide) w692 d_Bp_suspect_12 ?_
    refine x_callVI (As := []) C (c_Ls_allowed G l (aR σ4 v0R 2)  σ4) (okO_iff.mp h6) rfl w1404 w1405 w1403 w1406 w123 k_Ls_allowed rfl (by decide) (by decide) rfl (Nat.le_of_ble_eq_true rfl) d_Bp_suspect_15 (fun r7 σ8 => ?_)
    refine x_if_ne (tgt := 23) C d_Bp_suspect_18 (by decide) (fun _ => ?_) (fun _ => ?_)
    · refine x_lv [] rfl ?_
      exact IH.2.1  (σ8)
    · refine x_aload_n C d_Bp_suspect_23 0 rfl ?_
      refine x_gd (fun h9 => ?_)
      refine x_gd (fun h10 => ?_)
      refine x_getR (k := 8) (kv := 9) C (okO_iff.mp h9) rfl j10_ok (by decide) rfl (okO_iff.mp h10) (by decide) w698 d_Bp_suspect_24 ?_
      refine x_callVV (As := []) C (c_Db_refresh G l (aR σ8 v0R 8)  σ8) (okO_iff.mp h10) rfl w1408 w1409 w1407 w1410 w130 k_Db_refresh rfl (by decide) (by decide) rfl (Nat.le_of_ble_eq_true rfl) d_Bp_suspect_27 (fun r11 σ12 => ?_)
      refine x_aload_n C d_Bp_suspect_30 0 rfl ?_
      refine x_gd (fun h13 => ?_)
      refine x_gd (fun h14 => ?_)
      refine x_getR (k := 8) (kv := 9) C (okO_iff.mp h13) rfl j10_ok (by decide) rfl (okO_iff.mp h14) (by decide) w698 d_Bp_suspect_31 ?_
      refine x_iload_n C d_Bp_suspect_34 1 rfl ?_
      refine x_callVI (As := [.int v1I]) C (c_Db_alwaysWrong G l (aR σ12 v0R 8) v1I σ12) (okO_iff.mp h14) rfl w1441 w1442 w1440 w1443 w130 k_Db_alwaysWrong rfl (by decide) (by decide) rfl (Nat.le_of_ble_eq_true rfl) d_Bp_suspect_35 (fun r15 σ16 => ?_)
      refine x_if_eq (tgt := 45) C d_Bp_suspect_38 (by decide) (fun _ => ?_) (fun _ => ?_)
      · refine x_iconst (v := (0 : Int32)) C d_Bp_suspect_45 (by decide) ?_
        refine x_lv [] rfl ?_
        exact IH.2.2 ((0 : Int32)) (σ16)
      · refine x_iconst (v := (1 : Int32)) C d_Bp_suspect_41 (by decide) ?_
        refine x_goto (tgt := 46) C d_Bp_suspect_42 (by decide) ?_
        refine x_lv [] rfl ?_
        exact IH.2.2 ((1 : Int32)) (σ16)
set_option maxRecDepth 20000 in
theorem s_Bp_suspect_1 {G : GX} {p : Program} {l : Launch} {e : Env} {s : State} {m : MethodId} {args : Array Value} {below : List Frame} {meth : Method} {c : Code} {z0 u0 n : Nat} (C : Cx G p s m args meth c prog_1_method_25_code 2 "BellPlate" ((some FieldType.int))) (IH : I_Bp_suspect G p l e s m args below meth c z0 u0 n)  (σ : AM) : VX (QM eI G args s below z0 u0) G p l e s m args below meth c 3 z0 u0 2 (lpK (lpn F_Bp_suspect n) (T_Bp_suspect_1  σ)) 21 [] [] σ := by
  unfold T_Bp_suspect_1
  refine x_iconst (v := ((-1) : Int32)) C d_Bp_suspect_21 (by decide) ?_
  exact x_iret C d_Bp_suspect_22
set_option maxRecDepth 20000 in
theorem s_Bp_suspect_2 {G : GX} {p : Program} {l : Launch} {e : Env} {s : State} {m : MethodId} {args : Array Value} {below : List Frame} {meth : Method} {c : Code} {z0 u0 n : Nat} (C : Cx G p s m args meth c prog_1_method_25_code 2 "BellPlate" ((some FieldType.int))) (IH : I_Bp_suspect G p l e s m args below meth c z0 u0 n) (s0I : Int32) (σ : AM) : VX (QM eI G args s below z0 u0) G p l e s m args below meth c 3 z0 u0 2 (lpK (lpn F_Bp_suspect n) (T_Bp_suspect_2 s0I σ)) 46 [] [.int s0I] σ := by
  unfold T_Bp_suspect_2
  exact x_iret C d_Bp_suspect_46
theorem i_Bp_suspect {G : GX} {p : Program} {l : Launch} {e : Env} {s : State} {m : MethodId} {args : Array Value} {below : List Frame} {meth : Method} {c : Code} {z0 u0 : Nat} (C : Cx G p s m args meth c prog_1_method_25_code 2 "BellPlate" ((some FieldType.int))) (n : Nat) : I_Bp_suspect G p l e s m args below meth c z0 u0 n := by
  induction n with
  | zero => exact ⟨fun _ _ _ => x_none, fun _ => x_none, fun _ _ => x_none⟩
  | succ n IH => exact ⟨fun v0R v1I σ => s_Bp_suspect_0 C IH v0R v1I σ, fun σ => s_Bp_suspect_1 C IH σ, fun s0I σ => s_Bp_suspect_2 C IH s0I σ⟩
theorem c_Bp_suspect (G : GX) (l : Launch) (v0R : Nat) (v1I : Int32) (σ : AM) : CT eI G l 3 y_Bp_suspect prog_1_method_25_code 2 ((some FieldType.int)) [.ref v0R, .int v1I] σ (M_Bp_suspect v0R v1I σ) := by
  refine ct_of (by decide +kernel) (Nat.le_of_ble_eq_true rfl) (fun p e s m args below meth c C hin => ?_)
  refine x_lve (lv' := [(0, .ref v0R), (1, .int v1I)]) rfl ?_
  intro r σ' h
  obtain ⟨n, hn⟩ := (lp_iff _ _ _).mp h
  exact (i_Bp_suspect C n).1 v0R v1I σ r σ' hn
/-! BellPlate.with(I)I -/
abbrev y_Bp_with : MethodName := ⟨"BellPlate", "with", "(I)I"⟩
theorem k_Bp_with : y_Bp_with.cls ≠ "java/lang/invoke/MethodHandle" ∧ y_Bp_with.cls ≠ "java/lang/invoke/VarHandle" ∧ (parseMethodDescriptor y_Bp_with.desc).map (fun d => d.parameters.length) = some 1 := by decide +kernel
theorem d_Bp_with_0 : decode prog_1_method_26_code 0 = .ok (.iload_n 1, 1) := by decide +kernel
theorem d_Bp_with_1 : decode prog_1_method_26_code 1 = .ok (.ifCond .lt 9, 3) := by decide +kernel
theorem d_Bp_with_4 : decode prog_1_method_26_code 4 = .ok (.iload_n 1, 1) := by decide +kernel
theorem d_Bp_with_5 : decode prog_1_method_26_code 5 = .ok (.bipush 60, 2) := by decide +kernel
theorem d_Bp_with_7 : decode prog_1_method_26_code 7 = .ok (.if_icmp .le 5, 3) := by decide +kernel
theorem d_Bp_with_10 : decode prog_1_method_26_code 10 = .ok (.iconst (-1), 1) := by decide +kernel
theorem d_Bp_with_11 : decode prog_1_method_26_code 11 = .ok (.ireturn, 1) := by decide +kernel
theorem d_Bp_with_12 : decode prog_1_method_26_code 12 = .ok (.aload_n 0, 1) := by decide +kernel
theorem d_Bp_with_13 : decode prog_1_method_26_code 13 = .ok (.getfield 80, 3) := by decide +kernel
theorem d_Bp_with_16 : decode prog_1_method_26_code 16 = .ok (.invokevirtual 276, 3) := by decide +kernel
theorem d_Bp_with_19 : decode prog_1_method_26_code 19 = .ok (.aload_n 0, 1) := by decide +kernel
theorem d_Bp_with_20 : decode prog_1_method_26_code 20 = .ok (.getfield 80, 3) := by decide +kernel
theorem d_Bp_with_23 : decode prog_1_method_26_code 23 = .ok (.iload_n 1, 1) := by decide +kernel
theorem d_Bp_with_24 : decode prog_1_method_26_code 24 = .ok (.invokevirtual 280, 3) := by decide +kernel
theorem d_Bp_with_27 : decode prog_1_method_26_code 27 = .ok (.ireturn, 1) := by decide +kernel
abbrev S_Bp_with : Type := Nat × Nat × Int32 × AM
noncomputable def T_Bp_with_0 (v0R : Nat) (v1I : Int32) (σ : AM) : S_Bp_with ⊕ Option (Int32 × AM) :=
  if v1I < 0 then (.inl (1, 0, 0, σ)) else (if (60 : Int32) < v1I then (.inl (1, 0, 0, σ)) else (gdT (okO σ v0R 11) <| gdT (okO σ (aR σ v0R 8) 9) <| bndT (M_Db_refresh (aR σ v0R 8) σ) fun _ σ4 => gdT (okO σ4 v0R 11) <| gdT (okO σ4 (aR σ4 v0R 8) 9) <| bndT (M_Db_weightsWith (aR σ4 v0R 8) v1I σ4) fun r7 σ8 => .inr (some (r7, σ8))))
noncomputable def T_Bp_with_1  (σ : AM) : S_Bp_with ⊕ Option (Int32 × AM) :=
  .inr (some (((-1) : Int32), σ))
noncomputable def F_Bp_with : S_Bp_with → S_Bp_with ⊕ Option (Int32 × AM) := fun s => match s.1 with
  | 0 => T_Bp_with_0 (s.2.1) (s.2.2.1) (s.2.2.2)
  | _ => T_Bp_with_1  (s.2.2.2)
noncomputable def L_Bp_with_0 (v0R : Nat) (v1I : Int32) (σ : AM) : Option (Int32 × AM) := lp F_Bp_with (0, v0R, v1I, σ)
noncomputable def L_Bp_with_1  (σ : AM) : Option (Int32 × AM) := lp F_Bp_with (1, 0, 0, σ)
set_option maxRecDepth 20000 in
theorem E_Bp_with_0 (v0R : Nat) (v1I : Int32) (σ : AM) : L_Bp_with_0 v0R v1I σ = (if v1I < 0 then (L_Bp_with_1 σ) else (if (60 : Int32) < v1I then (L_Bp_with_1 σ) else (gd (okO σ v0R 11) <| gd (okO σ (aR σ v0R 8) 9) <| bnd (M_Db_refresh (aR σ v0R 8) σ) fun _ σ4 => gd (okO σ4 v0R 11) <| gd (okO σ4 (aR σ4 v0R 8) 9) <| bnd (M_Db_weightsWith (aR σ4 v0R 8) v1I σ4) fun r7 σ8 => (some (r7, σ8))))) := by
  unfold L_Bp_with_0
  rw [lp_eq]
  show lpK (lp F_Bp_with) (T_Bp_with_0 v0R v1I σ) = _
  unfold T_Bp_with_0
  simp only [lpK_ite, lq_inl, lq_inr, lpK_bnd, lpK_gd, lq_let]
  try rfl
set_option maxRecDepth 20000 in
theorem E_Bp_with_1  (σ : AM) : L_Bp_with_1  σ = ((some (((-1) : Int32), σ))) := by
  unfold L_Bp_with_1
  rw [lp_eq]
  show lpK (lp F_Bp_with) (T_Bp_with_1  σ) = _
  unfold T_Bp_with_1
  simp only [lpK_ite, lq_inl, lq_inr, lpK_bnd, lpK_gd, lq_let]
  try rfl
noncomputable def M_Bp_with (v0R : Nat) (v1I : Int32) (σ : AM) : Option (Int32 × AM) := mw σ (L_Bp_with_0 v0R v1I σ)
def I_Bp_with (G : GX) (p : Program) (l : Launch) (e : Env) (s : State) (m : MethodId) (args : Array Value) (below : List Frame) (meth : Method) (c : Code) (z0 u0 n : Nat) : Prop :=
  (∀ (v0R : Nat) (v1I : Int32) (σ : AM), VX (QM eI G args s below z0 u0) G p l e s m args below meth c 3 z0 u0 2 (lpn F_Bp_with n (0, v0R, v1I, σ)) 0 [(0, .ref v0R), (1, .int v1I)] [] σ) ∧
  (∀ (σ : AM), VX (QM eI G args s below z0 u0) G p l e s m args below meth c 3 z0 u0 2 (lpn F_Bp_with n (1, 0, 0, σ)) 10 [] [] σ)
set_option maxRecDepth 20000 in
theorem s_Bp_with_0 {G : GX} {p : Program} {l : Launch} {e : Env} {s : State} {m : MethodId} {args : Array Value} {below : List Frame} {meth : Method} {c : Code} {z0 u0 n : Nat} (C : Cx G p s m args meth c prog_1_method_26_code 2 "BellPlate" ((some FieldType.int))) (IH : I_Bp_with G p l e s m args below meth c z0 u0 n) (v0R : Nat) (v1I : Int32) (σ : AM) : VX (QM eI G args s below z0 u0) G p l e s m args below meth c 3 z0 u0 2 (lpK (lpn F_Bp_with n) (T_Bp_with_0 v0R v1I σ)) 0 [(0, .ref v0R), (1, .int v1I)] [] σ := by
  unfold T_Bp_with_0
  refine x_iload_n C d_Bp_with_0 1 rfl ?_
  refine x_if_lt (tgt := 10) C d_Bp_with_1 (by decide) (fun _ => ?_) (fun _ => ?_)
  · refine x_lv [] rfl ?_
    exact IH.2  (σ)
  · refine x_iload_n C d_Bp_with_4 1 rfl ?_
    refine x_bipush (v := (60 : Int32)) C d_Bp_with_5 (by decide) ?_
    refine x_icmp_le (tgt := 12) C d_Bp_with_7 (by decide) (fun _ => ?_) (fun _ => ?_)
    · refine x_lv [] rfl ?_
      exact IH.2  (σ)
    · refine x_aload_n C d_Bp_with_12 0 rfl ?_
      refine x_gd (fun h1 => ?_)
      refine x_gd (fun h2 => ?_)
      refine x_getR (k := 8) (kv := 9) C (okO_iff.mp h1) rfl j10_ok (by decide) rfl (okO_iff.mp h2) (by decide) w698 d_Bp_with_13 ?_
      refine x_callVV (As := []) C (c_Db_refresh G l (aR σ v0R 8)  σ) (okO_iff.mp h2) rfl w1408 w1409 w1407 w1410 w130 k_Db_refresh rfl (by decide) (by decide) rfl (Nat.le_of_ble_eq_true rfl) d_Bp_with_16 (fun r3 σ4 => ?_)
      refine x_aload_n C d_Bp_with_19 0 rfl ?_
      refine x_gd (fun h5 => ?_)
      refine x_gd (fun h6 => ?_)
      refine x_getR (k := 8) (kv := 9) C (okO_iff.mp h5) rfl j10_ok (by decide) rfl (okO_iff.mp h6) (by decide) w698 d_Bp_with_20 ?_
      refine x_iload_n C d_Bp_with_23 1 rfl ?_
      refine x_callVI (As := [.int v1I]) C (c_Db_weightsWith G l (aR σ4 v0R 8) v1I σ4) (okO_iff.mp h6) rfl w1432 w1433 w1431 w1434 w130 k_Db_weightsWith rfl (by decide) (by decide) rfl (Nat.le_of_ble_eq_true rfl) d_Bp_with_24 (fun r7 σ8 => ?_)
      exact x_iret C d_Bp_with_27
set_option maxRecDepth 20000 in
theorem s_Bp_with_1 {G : GX} {p : Program} {l : Launch} {e : Env} {s : State} {m : MethodId} {args : Array Value} {below : List Frame} {meth : Method} {c : Code} {z0 u0 n : Nat} (C : Cx G p s m args meth c prog_1_method_26_code 2 "BellPlate" ((some FieldType.int))) (IH : I_Bp_with G p l e s m args below meth c z0 u0 n)  (σ : AM) : VX (QM eI G args s below z0 u0) G p l e s m args below meth c 3 z0 u0 2 (lpK (lpn F_Bp_with n) (T_Bp_with_1  σ)) 10 [] [] σ := by
  unfold T_Bp_with_1
  refine x_iconst (v := ((-1) : Int32)) C d_Bp_with_10 (by decide) ?_
  exact x_iret C d_Bp_with_11
theorem i_Bp_with {G : GX} {p : Program} {l : Launch} {e : Env} {s : State} {m : MethodId} {args : Array Value} {below : List Frame} {meth : Method} {c : Code} {z0 u0 : Nat} (C : Cx G p s m args meth c prog_1_method_26_code 2 "BellPlate" ((some FieldType.int))) (n : Nat) : I_Bp_with G p l e s m args below meth c z0 u0 n := by
  induction n with
  | zero => exact ⟨fun _ _ _ => x_none, fun _ => x_none⟩
  | succ n IH => exact ⟨fun v0R v1I σ => s_Bp_with_0 C IH v0R v1I σ, fun σ => s_Bp_with_1 C IH σ⟩
theorem c_Bp_with (G : GX) (l : Launch) (v0R : Nat) (v1I : Int32) (σ : AM) : CT eI G l 3 y_Bp_with prog_1_method_26_code 2 ((some FieldType.int)) [.ref v0R, .int v1I] σ (M_Bp_with v0R v1I σ) := by
  refine ct_of (by decide +kernel) (Nat.le_of_ble_eq_true rfl) (fun p e s m args below meth c C hin => ?_)
  refine x_lve (lv' := [(0, .ref v0R), (1, .int v1I)]) rfl ?_
  intro r σ' h
  obtain ⟨n, hn⟩ := (lp_iff _ _ _).mp h
  exact (i_Bp_with C n).1 v0R v1I σ r σ' hn
/-! BellPlate.grown(I)I -/
abbrev y_Bp_grown : MethodName := ⟨"BellPlate", "grown", "(I)I"⟩
theorem k_Bp_grown : y_Bp_grown.cls ≠ "java/lang/invoke/MethodHandle" ∧ y_Bp_grown.cls ≠ "java/lang/invoke/VarHandle" ∧ (parseMethodDescriptor y_Bp_grown.desc).map (fun d => d.parameters.length) = some 1 := by decide +kernel
theorem d_Bp_grown_0 : decode prog_1_method_27_code 0 = .ok (.iload_n 1, 1) := by decide +kernel
theorem d_Bp_grown_1 : decode prog_1_method_27_code 1 = .ok (.ifCond .lt 8, 3) := by decide +kernel
theorem d_Bp_grown_4 : decode prog_1_method_27_code 4 = .ok (.iload_n 1, 1) := by decide +kernel
theorem d_Bp_grown_5 : decode prog_1_method_27_code 5 = .ok (.iconst 2, 1) := by decide +kernel
theorem d_Bp_grown_6 : decode prog_1_method_27_code 6 = .ok (.if_icmp .le 5, 3) := by decide +kernel
theorem d_Bp_grown_9 : decode prog_1_method_27_code 9 = .ok (.iconst (-1), 1) := by decide +kernel
theorem d_Bp_grown_10 : decode prog_1_method_27_code 10 = .ok (.ireturn, 1) := by decide +kernel
theorem d_Bp_grown_11 : decode prog_1_method_27_code 11 = .ok (.aload_n 0, 1) := by decide +kernel
theorem d_Bp_grown_12 : decode prog_1_method_27_code 12 = .ok (.getfield 80, 3) := by decide +kernel
theorem d_Bp_grown_15 : decode prog_1_method_27_code 15 = .ok (.invokevirtual 289, 3) := by decide +kernel
theorem d_Bp_grown_18 : decode prog_1_method_27_code 18 = .ok (.aload_n 0, 1) := by decide +kernel
theorem d_Bp_grown_19 : decode prog_1_method_27_code 19 = .ok (.getfield 80, 3) := by decide +kernel
theorem d_Bp_grown_22 : decode prog_1_method_27_code 22 = .ok (.iload_n 1, 1) := by decide +kernel
theorem d_Bp_grown_23 : decode prog_1_method_27_code 23 = .ok (.invokevirtual 292, 3) := by decide +kernel
theorem d_Bp_grown_26 : decode prog_1_method_27_code 26 = .ok (.ireturn, 1) := by decide +kernel
abbrev S_Bp_grown : Type := Nat × Nat × Int32 × AM
noncomputable def T_Bp_grown_0 (v0R : Nat) (v1I : Int32) (σ : AM) : S_Bp_grown ⊕ Option (Int32 × AM) :=
  if v1I < 0 then (.inl (1, 0, 0, σ)) else (if (2 : Int32) < v1I then (.inl (1, 0, 0, σ)) else (gdT (okO σ v0R 11) <| gdT (okO σ (aR σ v0R 8) 9) <| bndT (M_Db_seekGrowth (aR σ v0R 8) σ) fun _ σ4 => gdT (okO σ4 v0R 11) <| gdT (okO σ4 (aR σ4 v0R 8) 9) <| bndT (M_Db_growth (aR σ4 v0R 8) v1I σ4) fun r7 σ8 => .inr (some (r7, σ8))))
noncomputable def T_Bp_grown_1  (σ : AM) : S_Bp_grown ⊕ Option (Int32 × AM) :=
  .inr (some (((-1) : Int32), σ))
noncomputable def F_Bp_grown : S_Bp_grown → S_Bp_grown ⊕ Option (Int32 × AM) := fun s => match s.1 with
  | 0 => T_Bp_grown_0 (s.2.1) (s.2.2.1) (s.2.2.2)
  | _ => T_Bp_grown_1  (s.2.2.2)
noncomputable def L_Bp_grown_0 (v0R : Nat) (v1I : Int32) (σ : AM) : Option (Int32 × AM) := lp F_Bp_grown (0, v0R, v1I, σ)
noncomputable def L_Bp_grown_1  (σ : AM) : Option (Int32 × AM) := lp F_Bp_grown (1, 0, 0, σ)
set_option maxRecDepth 20000 in
theorem E_Bp_grown_0 (v0R : Nat) (v1I : Int32) (σ : AM) : L_Bp_grown_0 v0R v1I σ = (if v1I < 0 then (L_Bp_grown_1 σ) else (if (2 : Int32) < v1I then (L_Bp_grown_1 σ) else (gd (okO σ v0R 11) <| gd (okO σ (aR σ v0R 8) 9) <| bnd (M_Db_seekGrowth (aR σ v0R 8) σ) fun _ σ4 => gd (okO σ4 v0R 11) <| gd (okO σ4 (aR σ4 v0R 8) 9) <| bnd (M_Db_growth (aR σ4 v0R 8) v1I σ4) fun r7 σ8 => (some (r7, σ8))))) := by
  unfold L_Bp_grown_0
  rw [lp_eq]
  show lpK (lp F_Bp_grown) (T_Bp_grown_0 v0R v1I σ) = _
  unfold T_Bp_grown_0
  simp only [lpK_ite, lq_inl, lq_inr, lpK_bnd, lpK_gd, lq_let]
  try rfl
set_option maxRecDepth 20000 in
theorem E_Bp_grown_1  (σ : AM) : L_Bp_grown_1  σ = ((some (((-1) : Int32), σ))) := by
  unfold L_Bp_grown_1
  rw [lp_eq]
  show lpK (lp F_Bp_grown) (T_Bp_grown_1  σ) = _
  unfold T_Bp_grown_1
  simp only [lpK_ite, lq_inl, lq_inr, lpK_bnd, lpK_gd, lq_let]
  try rfl
noncomputable def M_Bp_grown (v0R : Nat) (v1I : Int32) (σ : AM) : Option (Int32 × AM) := mw σ (L_Bp_grown_0 v0R v1I σ)
def I_Bp_grown (G : GX) (p : Program) (l : Launch) (e : Env) (s : State) (m : MethodId) (args : Array Value) (below : List Frame) (meth : Method) (c : Code) (z0 u0 n : Nat) : Prop :=
  (∀ (v0R : Nat) (v1I : Int32) (σ : AM), VX (QM eI G args s below z0 u0) G p l e s m args below meth c 5 z0 u0 2 (lpn F_Bp_grown n (0, v0R, v1I, σ)) 0 [(0, .ref v0R), (1, .int v1I)] [] σ) ∧
  (∀ (σ : AM), VX (QM eI G args s below z0 u0) G p l e s m args below meth c 5 z0 u0 2 (lpn F_Bp_grown n (1, 0, 0, σ)) 9 [] [] σ)
set_option maxRecDepth 20000 in
theorem s_Bp_grown_0 {G : GX} {p : Program} {l : Launch} {e : Env} {s : State} {m : MethodId} {args : Array Value} {below : List Frame} {meth : Method} {c : Code} {z0 u0 n : Nat} (C : Cx G p s m args meth c prog_1_method_27_code 2 "BellPlate" ((some FieldType.int))) (IH : I_Bp_grown G p l e s m args below meth c z0 u0 n) (v0R : Nat) (v1I : Int32) (σ : AM) : VX (QM eI G args s below z0 u0) G p l e s m args below meth c 5 z0 u0 2 (lpK (lpn F_Bp_grown n) (T_Bp_grown_0 v0R v1I σ)) 0 [(0, .ref v0R), (1, .int v1I)] [] σ := by
  unfold T_Bp_grown_0
  refine x_iload_n C d_Bp_grown_0 1 rfl ?_
  refine x_if_lt (tgt := 9) C d_Bp_grown_1 (by decide) (fun _ => ?_) (fun _ => ?_)
  · refine x_lv [] rfl ?_
    exact IH.2  (σ)
  · refine x_iload_n C d_Bp_grown_4 1 rfl ?_
    refine x_iconst (v := (2 : Int32)) C d_Bp_grown_5 (by decide) ?_
    refine x_icmp_le (tgt := 11) C d_Bp_grown_6 (by decide) (fun _ => ?_) (fun _ => ?_)
    · refine x_lv [] rfl ?_
      exact IH.2  (σ)
    · refine x_aload_n C d_Bp_grown_11 0 rfl ?_
      refine x_gd (fun h1 => ?_)
      refine x_gd (fun h2 => ?_)
      refine x_getR (k := 8) (kv := 9) C (okO_iff.mp h1) rfl j10_ok (by decide) rfl (okO_iff.mp h2) (by decide) w698 d_Bp_grown_12 ?_
      refine x_callVV (As := []) C (c_Db_seekGrowth G l (aR σ v0R 8)  σ) (okO_iff.mp h2) rfl w1454 w1455 w1453 w1456 w130 k_Db_seekGrowth rfl (by decide) (by decide) rfl (Nat.le_of_ble_eq_true rfl) d_Bp_grown_15 (fun r3 σ4 => ?_)
      refine x_aload_n C d_Bp_grown_18 0 rfl ?_
      refine x_gd (fun h5 => ?_)
      refine x_gd (fun h6 => ?_)
      refine x_getR (k := 8) (kv := 9) C (okO_iff.mp h5) rfl j10_ok (by decide) rfl (okO_iff.mp h6) (by decide) w698 d_Bp_grown_19 ?_
      refine x_iload_n C d_Bp_grown_22 1 rfl ?_
      refine x_callVI (As := [.int v1I]) C (c_Db_growth G l (aR σ4 v0R 8) v1I σ4) (okO_iff.mp h6) rfl w1481 w1482 w1480 w1483 w130 k_Db_growth rfl (by decide) (by decide) rfl (Nat.le_of_ble_eq_true rfl) d_Bp_grown_23 (fun r7 σ8 => ?_)
      exact x_iret C d_Bp_grown_26
set_option maxRecDepth 20000 in
theorem s_Bp_grown_1 {G : GX} {p : Program} {l : Launch} {e : Env} {s : State} {m : MethodId} {args : Array Value} {below : List Frame} {meth : Method} {c : Code} {z0 u0 n : Nat} (C : Cx G p s m args meth c prog_1_method_27_code 2 "BellPlate" ((some FieldType.int))) (IH : I_Bp_grown G p l e s m args below meth c z0 u0 n)  (σ : AM) : VX (QM eI G args s below z0 u0) G p l e s m args below meth c 5 z0 u0 2 (lpK (lpn F_Bp_grown n) (T_Bp_grown_1  σ)) 9 [] [] σ := by
  unfold T_Bp_grown_1
  refine x_iconst (v := ((-1) : Int32)) C d_Bp_grown_9 (by decide) ?_
  exact x_iret C d_Bp_grown_10
theorem i_Bp_grown {G : GX} {p : Program} {l : Launch} {e : Env} {s : State} {m : MethodId} {args : Array Value} {below : List Frame} {meth : Method} {c : Code} {z0 u0 : Nat} (C : Cx G p s m args meth c prog_1_method_27_code 2 "BellPlate" ((some FieldType.int))) (n : Nat) : I_Bp_grown G p l e s m args below meth c z0 u0 n := by
  induction n with
  | zero => exact ⟨fun _ _ _ => x_none, fun _ => x_none⟩
  | succ n IH => exact ⟨fun v0R v1I σ => s_Bp_grown_0 C IH v0R v1I σ, fun σ => s_Bp_grown_1 C IH σ⟩
theorem c_Bp_grown (G : GX) (l : Launch) (v0R : Nat) (v1I : Int32) (σ : AM) : CT eI G l 5 y_Bp_grown prog_1_method_27_code 2 ((some FieldType.int)) [.ref v0R, .int v1I] σ (M_Bp_grown v0R v1I σ) := by
  refine ct_of (by decide +kernel) (Nat.le_of_ble_eq_true rfl) (fun p e s m args below meth c C hin => ?_)
  refine x_lve (lv' := [(0, .ref v0R), (1, .int v1I)]) rfl ?_
  intro r σ' h
  obtain ⟨n, hn⟩ := (lp_iff _ _ _).mp h
  exact (i_Bp_grown C n).1 v0R v1I σ r σ' hn
/-! BellPlate.bells()I -/
abbrev y_Bp_bells : MethodName := ⟨"BellPlate", "bells", "()I"⟩
theorem k_Bp_bells : y_Bp_bells.cls ≠ "java/lang/invoke/MethodHandle" ∧ y_Bp_bells.cls ≠ "java/lang/invoke/VarHandle" ∧ (parseMethodDescriptor y_Bp_bells.desc).map (fun d => d.parameters.length) = some 0 := by decide +kernel
theorem d_Bp_bells_0 : decode prog_1_method_28_code 0 = .ok (.aload_n 0, 1) := by decide +kernel
theorem d_Bp_bells_1 : decode prog_1_method_28_code 1 = .ok (.getfield 80, 3) := by decide +kernel
theorem d_Bp_bells_4 : decode prog_1_method_28_code 4 = .ok (.invokevirtual 295, 3) := by decide +kernel
theorem d_Bp_bells_7 : decode prog_1_method_28_code 7 = .ok (.ireturn, 1) := by decide +kernel
abbrev S_Bp_bells : Type := Nat × Nat × AM
noncomputable def T_Bp_bells_0 (v0R : Nat) (σ : AM) : S_Bp_bells ⊕ Option (Int32 × AM) :=
  gdT (okO σ v0R 11) <| gdT (okO σ (aR σ v0R 8) 9) <| bndT (M_Db_bellsNeeded (aR σ v0R 8) σ) fun r3 σ4 => .inr (some (r3, σ4))
noncomputable def F_Bp_bells : S_Bp_bells → S_Bp_bells ⊕ Option (Int32 × AM) := fun s => match s.1 with
  | _ => T_Bp_bells_0 (s.2.1) (s.2.2)
noncomputable def L_Bp_bells_0 (v0R : Nat) (σ : AM) : Option (Int32 × AM) := lp F_Bp_bells (0, v0R, σ)
set_option maxRecDepth 20000 in
theorem E_Bp_bells_0 (v0R : Nat) (σ : AM) : L_Bp_bells_0 v0R σ = (gd (okO σ v0R 11) <| gd (okO σ (aR σ v0R 8) 9) <| bnd (M_Db_bellsNeeded (aR σ v0R 8) σ) fun r3 σ4 => (some (r3, σ4))) := by
  unfold L_Bp_bells_0
  rw [lp_eq]
  show lpK (lp F_Bp_bells) (T_Bp_bells_0 v0R σ) = _
  unfold T_Bp_bells_0
  simp only [lpK_ite, lq_inl, lq_inr, lpK_bnd, lpK_gd, lq_let]
  try rfl
noncomputable def M_Bp_bells (v0R : Nat) (σ : AM) : Option (Int32 × AM) := mw σ (L_Bp_bells_0 v0R σ)
def I_Bp_bells (G : GX) (p : Program) (l : Launch) (e : Env) (s : State) (m : MethodId) (args : Array Value) (below : List Frame) (meth : Method) (c : Code) (z0 u0 n : Nat) : Prop :=
  (∀ (v0R : Nat) (σ : AM), VX (QM eI G args s below z0 u0) G p l e s m args below meth c 3 z0 u0 1 (lpn F_Bp_bells n (0, v0R, σ)) 0 [(0, .ref v0R)] [] σ)
set_option maxRecDepth 20000 in
theorem s_Bp_bells_0 {G : GX} {p : Program} {l : Launch} {e : Env} {s : State} {m : MethodId} {args : Array Value} {below : List Frame} {meth : Method} {c : Code} {z0 u0 n : Nat} (C : Cx G p s m args meth c prog_1_method_28_code 1 "BellPlate" ((some FieldType.int))) (IH : I_Bp_bells G p l e s m args below meth c z0 u0 n) (v0R : Nat) (σ : AM) : VX (QM eI G args s below z0 u0) G p l e s m args below meth c 3 z0 u0 1 (lpK (lpn F_Bp_bells n) (T_Bp_bells_0 v0R σ)) 0 [(0, .ref v0R)] [] σ := by
  unfold T_Bp_bells_0
  refine x_aload_n C d_Bp_bells_0 0 rfl ?_
  refine x_gd (fun h1 => ?_)
  refine x_gd (fun h2 => ?_)
  refine x_getR (k := 8) (kv := 9) C (okO_iff.mp h1) rfl j10_ok (by decide) rfl (okO_iff.mp h2) (by decide) w698 d_Bp_bells_1 ?_
  refine x_callVI (As := []) C (c_Db_bellsNeeded G l (aR σ v0R 8)  σ) (okO_iff.mp h2) rfl w1489 w1490 w1488 w1491 w130 k_Db_bellsNeeded rfl (by decide) (by decide) rfl (Nat.le_of_ble_eq_true rfl) d_Bp_bells_4 (fun r3 σ4 => ?_)
  exact x_iret C d_Bp_bells_7
theorem i_Bp_bells {G : GX} {p : Program} {l : Launch} {e : Env} {s : State} {m : MethodId} {args : Array Value} {below : List Frame} {meth : Method} {c : Code} {z0 u0 : Nat} (C : Cx G p s m args meth c prog_1_method_28_code 1 "BellPlate" ((some FieldType.int))) (n : Nat) : I_Bp_bells G p l e s m args below meth c z0 u0 n := by
  induction n with
  | zero => exact fun _ _ => x_none
  | succ n IH => exact fun v0R σ => s_Bp_bells_0 C IH v0R σ
theorem c_Bp_bells (G : GX) (l : Launch) (v0R : Nat) (σ : AM) : CT eI G l 3 y_Bp_bells prog_1_method_28_code 1 ((some FieldType.int)) [.ref v0R] σ (M_Bp_bells v0R σ) := by
  refine ct_of (by decide +kernel) (Nat.le_of_ble_eq_true rfl) (fun p e s m args below meth c C hin => ?_)
  refine x_lve (lv' := [(0, .ref v0R)]) rfl ?_
  intro r σ' h
  obtain ⟨n, hn⟩ := (lp_iff _ _ _).mp h
  exact (i_Bp_bells C n) v0R σ r σ' hn
/-! BellPlate.late(II)I -/
abbrev y_Bp_late : MethodName := ⟨"BellPlate", "late", "(II)I"⟩
theorem k_Bp_late : y_Bp_late.cls ≠ "java/lang/invoke/MethodHandle" ∧ y_Bp_late.cls ≠ "java/lang/invoke/VarHandle" ∧ (parseMethodDescriptor y_Bp_late.desc).map (fun d => d.parameters.length) = some 2 := by decide +kernel
theorem d_Bp_late_0 : decode prog_1_method_29_code 0 = .ok (.iload_n 1, 1) := by decide +kernel
theorem d_Bp_late_1 : decode prog_1_method_29_code 1 = .ok (.iconst (-1), 1) := by decide +kernel
theorem d_Bp_late_2 : decode prog_1_method_29_code 2 = .ok (.if_icmp .lt 17, 3) := by decide +kernel
theorem d_Bp_late_5 : decode prog_1_method_29_code 5 = .ok (.iload_n 1, 1) := by decide +kernel
theorem d_Bp_late_6 : decode prog_1_method_29_code 6 = .ok (.iconst 5, 1) := by decide +kernel
theorem d_Bp_late_7 : decode prog_1_method_29_code 7 = .ok (.if_icmp .gt 12, 3) := by decide +kernel
theorem d_Bp_late_10 : decode prog_1_method_29_code 10 = .ok (.iload_n 2, 1) := by decide +kernel
theorem d_Bp_late_11 : decode prog_1_method_29_code 11 = .ok (.ifCond .lt 8, 3) := by decide +kernel
theorem d_Bp_late_14 : decode prog_1_method_29_code 14 = .ok (.iload_n 2, 1) := by decide +kernel
theorem d_Bp_late_15 : decode prog_1_method_29_code 15 = .ok (.iconst 1, 1) := by decide +kernel
theorem d_Bp_late_16 : decode prog_1_method_29_code 16 = .ok (.if_icmp .le 5, 3) := by decide +kernel
theorem d_Bp_late_19 : decode prog_1_method_29_code 19 = .ok (.iconst (-1), 1) := by decide +kernel
theorem d_Bp_late_20 : decode prog_1_method_29_code 20 = .ok (.ireturn, 1) := by decide +kernel
theorem d_Bp_late_21 : decode prog_1_method_29_code 21 = .ok (.iload_n 1, 1) := by decide +kernel
theorem d_Bp_late_22 : decode prog_1_method_29_code 22 = .ok (.iconst (-1), 1) := by decide +kernel
theorem d_Bp_late_23 : decode prog_1_method_29_code 23 = .ok (.if_icmp .ne 13, 3) := by decide +kernel
theorem d_Bp_late_26 : decode prog_1_method_29_code 26 = .ok (.aload_n 0, 1) := by decide +kernel
theorem d_Bp_late_27 : decode prog_1_method_29_code 27 = .ok (.getfield 80, 3) := by decide +kernel
theorem d_Bp_late_30 : decode prog_1_method_29_code 30 = .ok (.invokevirtual 298, 3) := by decide +kernel
theorem d_Bp_late_33 : decode prog_1_method_29_code 33 = .ok (.goto 4, 3) := by decide +kernel
theorem d_Bp_late_36 : decode prog_1_method_29_code 36 = .ok (.iload_n 1, 1) := by decide +kernel
theorem d_Bp_late_37 : decode prog_1_method_29_code 37 = .ok (.istore_n 3, 1) := by decide +kernel
theorem d_Bp_late_38 : decode prog_1_method_29_code 38 = .ok (.iload_n 2, 1) := by decide +kernel
theorem d_Bp_late_39 : decode prog_1_method_29_code 39 = .ok (.ifCond .ne 14, 3) := by decide +kernel
theorem d_Bp_late_42 : decode prog_1_method_29_code 42 = .ok (.aload_n 0, 1) := by decide +kernel
theorem d_Bp_late_43 : decode prog_1_method_29_code 43 = .ok (.getfield 80, 3) := by decide +kernel
theorem d_Bp_late_46 : decode prog_1_method_29_code 46 = .ok (.iload_n 3, 1) := by decide +kernel
theorem d_Bp_late_47 : decode prog_1_method_29_code 47 = .ok (.invokevirtual 301, 3) := by decide +kernel
theorem d_Bp_late_50 : decode prog_1_method_29_code 50 = .ok (.goto 4, 3) := by decide +kernel
theorem d_Bp_late_53 : decode prog_1_method_29_code 53 = .ok (.iload_n 3, 1) := by decide +kernel
theorem d_Bp_late_54 : decode prog_1_method_29_code 54 = .ok (.ireturn, 1) := by decide +kernel
abbrev S_Bp_late : Type := Nat × Nat × Int32 × Int32 × Int32 × AM
noncomputable def T_Bp_late_0 (v0R : Nat) (v1I : Int32) (v2I : Int32) (σ : AM) : S_Bp_late ⊕ Option (Int32 × AM) :=
  if v1I < ((-1) : Int32) then (.inl (1, 0, 0, 0, 0, σ)) else (if (5 : Int32) < v1I then (.inl (1, 0, 0, 0, 0, σ)) else (if v2I < 0 then (.inl (1, 0, 0, 0, 0, σ)) else (if (1 : Int32) < v2I then (.inl (1, 0, 0, 0, 0, σ)) else (if v1I = ((-1) : Int32) then (gdT (okO σ v0R 11) <| gdT (okO σ (aR σ v0R 8) 9) <| bndT (M_Db_bestLag (aR σ v0R 8) σ) fun r3 σ4 => .inl (2, v0R, 0, v2I, r3, σ4)) else (.inl (2, v0R, 0, v2I, v1I, σ))))))
noncomputable def T_Bp_late_1  (σ : AM) : S_Bp_late ⊕ Option (Int32 × AM) :=
  .inr (some (((-1) : Int32), σ))
noncomputable def T_Bp_late_2 (v0R : Nat) (v2I : Int32) (s0I : Int32) (σ : AM) : S_Bp_late ⊕ Option (Int32 × AM) :=
  if v2I = 0 then (gdT (okO σ v0R 11) <| gdT (okO σ (aR σ v0R 8) 9) <| bndT (M_Db_weightsIfLate (aR σ v0R 8) s0I σ) fun r3 σ4 => .inl (3, 0, 0, 0, r3, σ4)) else (.inl (3, 0, 0, 0, s0I, σ))
noncomputable def T_Bp_late_3 (s0I : Int32) (σ : AM) : S_Bp_late ⊕ Option (Int32 × AM) :=
  .inr (some (s0I, σ))
noncomputable def F_Bp_late : S_Bp_late → S_Bp_late ⊕ Option (Int32 × AM) := fun s => match s.1 with
  | 0 => T_Bp_late_0 (s.2.1) (s.2.2.1) (s.2.2.2.1) (s.2.2.2.2.2)
  | 1 => T_Bp_late_1  (s.2.2.2.2.2)
  | 2 => T_Bp_late_2 (s.2.1) (s.2.2.2.1) (s.2.2.2.2.1) (s.2.2.2.2.2)
  | _ => T_Bp_late_3 (s.2.2.2.2.1) (s.2.2.2.2.2)
noncomputable def L_Bp_late_0 (v0R : Nat) (v1I : Int32) (v2I : Int32) (σ : AM) : Option (Int32 × AM) := lp F_Bp_late (0, v0R, v1I, v2I, 0, σ)
noncomputable def L_Bp_late_1  (σ : AM) : Option (Int32 × AM) := lp F_Bp_late (1, 0, 0, 0, 0, σ)
noncomputable def L_Bp_late_2 (v0R : Nat) (v2I : Int32) (s0I : Int32) (σ : AM) : Option (Int32 × AM) := lp F_Bp_late (2, v0R, 0, v2I, s0I, σ)
noncomputable def L_Bp_late_3 (s0I : Int32) (σ : AM) : Option (Int32 × AM) := lp F_Bp_late (3, 0, 0, 0, s0I, σ)
set_option maxRecDepth 20000 in
theorem E_Bp_late_0 (v0R : Nat) (v1I : Int32) (v2I : Int32) (σ : AM) : L_Bp_late_0 v0R v1I v2I σ = (if v1I < ((-1) : Int32) then (L_Bp_late_1 σ) else (if (5 : Int32) < v1I then (L_Bp_late_1 σ) else (if v2I < 0 then (L_Bp_late_1 σ) else (if (1 : Int32) < v2I then (L_Bp_late_1 σ) else (if v1I = ((-1) : Int32) then (gd (okO σ v0R 11) <| gd (okO σ (aR σ v0R 8) 9) <| bnd (M_Db_bestLag (aR σ v0R 8) σ) fun r3 σ4 => L_Bp_late_2 v0R v2I r3 σ4) else (L_Bp_late_2 v0R v2I v1I σ)))))) := by
  unfold L_Bp_late_0
  rw [lp_eq]
  show lpK (lp F_Bp_late) (T_Bp_late_0 v0R v1I v2I σ) = _
  unfold T_Bp_late_0
  simp only [lpK_ite, lq_inl, lq_inr, lpK_bnd, lpK_gd, lq_let]
  try rfl
set_option maxRecDepth 20000 in
theorem E_Bp_late_1  (σ : AM) : L_Bp_late_1  σ = ((some (((-1) : Int32), σ))) := by
  unfold L_Bp_late_1
  rw [lp_eq]
  show lpK (lp F_Bp_late) (T_Bp_late_1  σ) = _
  unfold T_Bp_late_1
  simp only [lpK_ite, lq_inl, lq_inr, lpK_bnd, lpK_gd, lq_let]
  try rfl
set_option maxRecDepth 20000 in
theorem E_Bp_late_2 (v0R : Nat) (v2I : Int32) (s0I : Int32) (σ : AM) : L_Bp_late_2 v0R v2I s0I σ = (if v2I = 0 then (gd (okO σ v0R 11) <| gd (okO σ (aR σ v0R 8) 9) <| bnd (M_Db_weightsIfLate (aR σ v0R 8) s0I σ) fun r3 σ4 => L_Bp_late_3 r3 σ4) else (L_Bp_late_3 s0I σ)) := by
  unfold L_Bp_late_2
  rw [lp_eq]
  show lpK (lp F_Bp_late) (T_Bp_late_2 v0R v2I s0I σ) = _
  unfold T_Bp_late_2
  simp only [lpK_ite, lq_inl, lq_inr, lpK_bnd, lpK_gd, lq_let]
  try rfl
set_option maxRecDepth 20000 in
theorem E_Bp_late_3 (s0I : Int32) (σ : AM) : L_Bp_late_3 s0I σ = ((some (s0I, σ))) := by
  unfold L_Bp_late_3
  rw [lp_eq]
  show lpK (lp F_Bp_late) (T_Bp_late_3 s0I σ) = _
  unfold T_Bp_late_3
  simp only [lpK_ite, lq_inl, lq_inr, lpK_bnd, lpK_gd, lq_let]
  try rfl
noncomputable def M_Bp_late (v0R : Nat) (v1I : Int32) (v2I : Int32) (σ : AM) : Option (Int32 × AM) := mw σ (L_Bp_late_0 v0R v1I v2I σ)
def I_Bp_late (G : GX) (p : Program) (l : Launch) (e : Env) (s : State) (m : MethodId) (args : Array Value) (below : List Frame) (meth : Method) (c : Code) (z0 u0 n : Nat) : Prop :=
  (∀ (v0R : Nat) (v1I : Int32) (v2I : Int32) (σ : AM), VX (QM eI G args s below z0 u0) G p l e s m args below meth c 3 z0 u0 4 (lpn F_Bp_late n (0, v0R, v1I, v2I, 0, σ)) 0 [(0, .ref v0R), (1, .int v1I), (2, .int v2I)] [] σ) ∧
  (∀ (σ : AM), VX (QM eI G args s below z0 u0) G p l e s m args below meth c 3 z0 u0 4 (lpn F_Bp_late n (1, 0, 0, 0, 0, σ)) 19 [] [] σ) ∧
  (∀ (v0R : Nat) (v2I : Int32) (s0I : Int32) (σ : AM), VX (QM eI G args s below z0 u0) G p l e s m args below meth c 3 z0 u0 4 (lpn F_Bp_late n (2, v0R, 0, v2I, s0I, σ)) 37 [(0, .ref v0R), (2, .int v2I)] [.int s0I] σ) ∧
  (∀ (s0I : Int32) (σ : AM), VX (QM eI G args s below z0 u0) G p l e s m args below meth c 3 z0 u0 4 (lpn F_Bp_late n (3, 0, 0, 0, s0I, σ)) 54 [] [.int s0I] σ)
set_option maxRecDepth 20000 in
theorem s_Bp_late_0 {G : GX} {p : Program} {l : Launch} {e : Env} {s : State} {m : MethodId} {args : Array Value} {below : List Frame} {meth : Method} {c : Code} {z0 u0 n : Nat} (C : Cx G p s m args meth c prog_1_method_29_code 4 "BellPlate" ((some FieldType.int))) (IH : I_Bp_late G p l e s m args below meth c z0 u0 n) (v0R : Nat) (v1I : Int32) (v2I : Int32) (σ : AM) : VX (QM eI G args s below z0 u0) G p l e s m args below meth c 3 z0 u0 4 (lpK (lpn F_Bp_late n) (T_Bp_late_0 v0R v1I v2I σ)) 0 [(0, .ref v0R), (1, .int v1I), (2, .int v2I)] [] σ := by
  unfold T_Bp_late_0
  refine x_iload_n C d_Bp_late_0 1 rfl ?_
  refine x_iconst (v := ((-1) : Int32)) C d_Bp_late_1 (by decide) ?_
  refine x_icmp_lt (tgt := 19) C d_Bp_late_2 (by decide) (fun _ => ?_) (fun _ => ?_)
  · refine x_lv [] rfl ?_
    exact IH.2.1  (σ)
  · refine x_iload_n C d_Bp_late_5 1 rfl ?_
    refine x_iconst (v := (5 : Int32)) C d_Bp_late_6 (by decide) ?_
    refine x_icmp_gt (tgt := 19) C d_Bp_late_7 (by decide) (fun _ => ?_) (fun _ => ?_)
    · refine x_lv [] rfl ?_
      exact IH.2.1  (σ)
    · refine x_iload_n C d_Bp_late_10 2 rfl ?_
      refine x_if_lt (tgt := 19) C d_Bp_late_11 (by decide) (fun _ => ?_) (fun _ => ?_)
      · refine x_lv [] rfl ?_
        exact IH.2.1  (σ)
      · refine x_iload_n C d_Bp_late_14 2 rfl ?_
        refine x_iconst (v := (1 : Int32)) C d_Bp_late_15 (by decide) ?_
        refine x_icmp_le (tgt := 21) C d_Bp_late_16 (by decide) (fun _ => ?_) (fun _ => ?_)
        · refine x_lv [] rfl ?_
          exact IH.2.1  (σ)
        · refine x_iload_n C d_Bp_late_21 1 rfl ?_
          refine x_iconst (v := ((-1) : Int32)) C d_Bp_late_22 (by decide) ?_
          refine x_icmp_ne (tgt := 36) C d_Bp_late_23 (by decide) (fun _ => ?_) (fun _ => ?_)
          · refine x_aload_n C d_Bp_late_26 0 rfl ?_
            refine x_gd (fun h1 => ?_)
            refine x_gd (fun h2 => ?_)
            refine x_getR (k := 8) (kv := 9) C (okO_iff.mp h1) rfl j10_ok (by decide) rfl (okO_iff.mp h2) (by decide) w698 d_Bp_late_27 ?_
            refine x_callVI (As := []) C (c_Db_bestLag G l (aR σ v0R 8)  σ) (okO_iff.mp h2) rfl w1507 w1508 w1506 w1509 w130 k_Db_bestLag rfl (by decide) (by decide) rfl (Nat.le_of_ble_eq_true rfl) d_Bp_late_30 (fun r3 σ4 => ?_)
            refine x_goto (tgt := 37) C d_Bp_late_33 (by decide) ?_
            refine x_lv [0, 2] rfl ?_
            exact IH.2.2.1 v0R v2I r3 (σ4)
          · refine x_iload_n C d_Bp_late_36 1 rfl ?_
            refine x_lv [0, 2] rfl ?_
            exact IH.2.2.1 v0R v2I v1I (σ)
set_option maxRecDepth 20000 in
theorem s_Bp_late_1 {G : GX} {p : Program} {l : Launch} {e : Env} {s : State} {m : MethodId} {args : Array Value} {below : List Frame} {meth : Method} {c : Code} {z0 u0 n : Nat} (C : Cx G p s m args meth c prog_1_method_29_code 4 "BellPlate" ((some FieldType.int))) (IH : I_Bp_late G p l e s m args below meth c z0 u0 n)  (σ : AM) : VX (QM eI G args s below z0 u0) G p l e s m args below meth c 3 z0 u0 4 (lpK (lpn F_Bp_late n) (T_Bp_late_1  σ)) 19 [] [] σ := by
  unfold T_Bp_late_1
  refine x_iconst (v := ((-1) : Int32)) C d_Bp_late_19 (by decide) ?_
  exact x_iret C d_Bp_late_20
set_option maxRecDepth 20000 in
theorem s_Bp_late_2 {G : GX} {p : Program} {l : Launch} {e : Env} {s : State} {m : MethodId} {args : Array Value} {below : List Frame} {meth : Method} {c : Code} {z0 u0 n : Nat} (C : Cx G p s m args meth c prog_1_method_29_code 4 "BellPlate" ((some FieldType.int))) (IH : I_Bp_late G p l e s m args below meth c z0 u0 n) (v0R : Nat) (v2I : Int32) (s0I : Int32) (σ : AM) : VX (QM eI G args s below z0 u0) G p l e s m args below meth c 3 z0 u0 4 (lpK (lpn F_Bp_late n) (T_Bp_late_2 v0R v2I s0I σ)) 37 [(0, .ref v0R), (2, .int v2I)] [.int s0I] σ := by
  unfold T_Bp_late_2
  refine x_istore_n (lv' := [(3, .int s0I), (0, .ref v0R), (2, .int v2I)]) C d_Bp_late_37 (by decide) rfl rfl ?_
  refine x_iload_n C d_Bp_late_38 2 rfl ?_
  refine x_if_ne (tgt := 53) C d_Bp_late_39 (by decide) (fun _ => ?_) (fun _ => ?_)
  · refine x_aload_n C d_Bp_late_42 1 rfl ?_
    refine x_gd (fun h1 => ?_)
    refine x_gd (fun h2 => ?_)
    refine x_getR (k := 8) (kv := 9) C (okO_iff.mp h1) rfl j10_ok (by decide) rfl (okO_iff.mp h2) (by decide) w698 d_Bp_late_43 ?_
    refine x_iload_n C d_Bp_late_46 0 rfl ?_
    refine x_callVI (As := [.int s0I]) C (c_Db_weightsIfLate G l (aR σ v0R 8) s0I σ) (okO_iff.mp h2) rfl w1511 w1512 w1519 w1513 w130 k_Db_weightsIfLate rfl (by decide) (by decide) rfl (Nat.le_of_ble_eq_true rfl) d_Bp_late_47 (fun r3 σ4 => ?_)
    refine x_goto (tgt := 54) C d_Bp_late_50 (by decide) ?_
    refine x_lv [] rfl ?_
    exact IH.2.2.2 r3 (σ4)
  · refine x_iload_n C d_Bp_late_53 0 rfl ?_
    refine x_lv [] rfl ?_
    exact IH.2.2.2 s0I (σ)
set_option maxRecDepth 20000 in
theorem s_Bp_late_3 {G : GX} {p : Program} {l : Launch} {e : Env} {s : State} {m : MethodId} {args : Array Value} {below : List Frame} {meth : Method} {c : Code} {z0 u0 n : Nat} (C : Cx G p s m args meth c prog_1_method_29_code 4 "BellPlate" ((some FieldType.int))) (IH : I_Bp_late G p l e s m args below meth c z0 u0 n) (s0I : Int32) (σ : AM) : VX (QM eI G args s below z0 u0) G p l e s m args below meth c 3 z0 u0 4 (lpK (lpn F_Bp_late n) (T_Bp_late_3 s0I σ)) 54 [] [.int s0I] σ := by
  unfold T_Bp_late_3
  exact x_iret C d_Bp_late_54
theorem i_Bp_late {G : GX} {p : Program} {l : Launch} {e : Env} {s : State} {m : MethodId} {args : Array Value} {below : List Frame} {meth : Method} {c : Code} {z0 u0 : Nat} (C : Cx G p s m args meth c prog_1_method_29_code 4 "BellPlate" ((some FieldType.int))) (n : Nat) : I_Bp_late G p l e s m args below meth c z0 u0 n := by
  induction n with
  | zero => exact ⟨fun _ _ _ _ => x_none, fun _ => x_none, fun _ _ _ _ => x_none, fun _ _ => x_none⟩
  | succ n IH => exact ⟨fun v0R v1I v2I σ => s_Bp_late_0 C IH v0R v1I v2I σ, fun σ => s_Bp_late_1 C IH σ, fun v0R v2I s0I σ => s_Bp_late_2 C IH v0R v2I s0I σ, fun s0I σ => s_Bp_late_3 C IH s0I σ⟩
theorem c_Bp_late (G : GX) (l : Launch) (v0R : Nat) (v1I : Int32) (v2I : Int32) (σ : AM) : CT eI G l 3 y_Bp_late prog_1_method_29_code 4 ((some FieldType.int)) [.ref v0R, .int v1I, .int v2I] σ (M_Bp_late v0R v1I v2I σ) := by
  refine ct_of (by decide +kernel) (Nat.le_of_ble_eq_true rfl) (fun p e s m args below meth c C hin => ?_)
  refine x_lve (lv' := [(0, .ref v0R), (1, .int v1I), (2, .int v2I)]) rfl ?_
  intro r σ' h
  obtain ⟨n, hn⟩ := (lp_iff _ _ _).mp h
  exact (i_Bp_late C n).1 v0R v1I v2I σ r σ' hn
/-! BellPlate.often(I)I -/
abbrev y_Bp_often : MethodName := ⟨"BellPlate", "often", "(I)I"⟩
theorem k_Bp_often : y_Bp_often.cls ≠ "java/lang/invoke/MethodHandle" ∧ y_Bp_often.cls ≠ "java/lang/invoke/VarHandle" ∧ (parseMethodDescriptor y_Bp_often.desc).map (fun d => d.parameters.length) = some 1 := by decide +kernel
theorem d_Bp_often_0 : decode prog_1_method_30_code 0 = .ok (.aload_n 0, 1) := by decide +kernel
theorem d_Bp_often_1 : decode prog_1_method_30_code 1 = .ok (.getfield 44, 3) := by decide +kernel
theorem d_Bp_often_4 : decode prog_1_method_30_code 4 = .ok (.invokevirtual 159, 3) := by decide +kernel
theorem d_Bp_often_7 : decode prog_1_method_30_code 7 = .ok (.iload_n 1, 1) := by decide +kernel
theorem d_Bp_often_8 : decode prog_1_method_30_code 8 = .ok (.ifCond .lt 18, 3) := by decide +kernel
theorem d_Bp_often_11 : decode prog_1_method_30_code 11 = .ok (.iload_n 1, 1) := by decide +kernel
theorem d_Bp_often_12 : decode prog_1_method_30_code 12 = .ok (.iconst 1, 1) := by decide +kernel
theorem d_Bp_often_13 : decode prog_1_method_30_code 13 = .ok (.if_icmp .gt 13, 3) := by decide +kernel
theorem d_Bp_often_16 : decode prog_1_method_30_code 16 = .ok (.aload_n 0, 1) := by decide +kernel
theorem d_Bp_often_17 : decode prog_1_method_30_code 17 = .ok (.getfield 44, 3) := by decide +kernel
theorem d_Bp_often_20 : decode prog_1_method_30_code 20 = .ok (.invokevirtual 165, 3) := by decide +kernel
theorem d_Bp_often_23 : decode prog_1_method_30_code 23 = .ok (.ifCond .ne 5, 3) := by decide +kernel
theorem d_Bp_often_26 : decode prog_1_method_30_code 26 = .ok (.iconst (-1), 1) := by decide +kernel
theorem d_Bp_often_27 : decode prog_1_method_30_code 27 = .ok (.ireturn, 1) := by decide +kernel
theorem d_Bp_often_28 : decode prog_1_method_30_code 28 = .ok (.iload_n 1, 1) := by decide +kernel
theorem d_Bp_often_29 : decode prog_1_method_30_code 29 = .ok (.ifCond .ne 13, 3) := by decide +kernel
theorem d_Bp_often_32 : decode prog_1_method_30_code 32 = .ok (.aload_n 0, 1) := by decide +kernel
theorem d_Bp_often_33 : decode prog_1_method_30_code 33 = .ok (.getfield 44, 3) := by decide +kernel
theorem d_Bp_often_36 : decode prog_1_method_30_code 36 = .ok (.invokevirtual 304, 3) := by decide +kernel
theorem d_Bp_often_39 : decode prog_1_method_30_code 39 = .ok (.goto 10, 3) := by decide +kernel
theorem d_Bp_often_42 : decode prog_1_method_30_code 42 = .ok (.aload_n 0, 1) := by decide +kernel
theorem d_Bp_often_43 : decode prog_1_method_30_code 43 = .ok (.getfield 44, 3) := by decide +kernel
theorem d_Bp_often_46 : decode prog_1_method_30_code 46 = .ok (.invokevirtual 307, 3) := by decide +kernel
theorem d_Bp_often_49 : decode prog_1_method_30_code 49 = .ok (.ireturn, 1) := by decide +kernel
abbrev S_Bp_often : Type := Nat × Nat × Int32 × Int32 × AM
noncomputable def T_Bp_often_0 (v0R : Nat) (v1I : Int32) (σ : AM) : S_Bp_often ⊕ Option (Int32 × AM) :=
  gdT (okO σ v0R 11) <| gdT (okO σ (aR σ v0R 4) 5) <| bndT (M_Rs_refresh (aR σ v0R 4) σ) fun _ σ4 => if v1I < 0 then (.inl (1, 0, 0, 0, σ4)) else (if (1 : Int32) < v1I then (.inl (1, 0, 0, 0, σ4)) else (gdT (okO σ4 v0R 11) <| gdT (okO σ4 (aR σ4 v0R 4) 5) <| bndT (M_Rs_size (aR σ4 v0R 4) σ4) fun r7 σ8 => if r7 = 0 then (.inl (1, 0, 0, 0, σ8)) else (if v1I = 0 then (gdT (okO σ8 v0R 11) <| gdT (okO σ8 (aR σ8 v0R 4) 5) <| bndT (M_Rs_fewestRinging (aR σ8 v0R 4) σ8) fun r11 σ12 => .inl (2, 0, 0, r11, σ12)) else (gdT (okO σ8 v0R 11) <| gdT (okO σ8 (aR σ8 v0R 4) 5) <| bndT (M_Rs_mostRinging (aR σ8 v0R 4) σ8) fun r15 σ16 => .inl (2, 0, 0, r15, σ16)))))
noncomputable def T_Bp_often_1  (σ : AM) : S_Bp_often ⊕ Option (Int32 × AM) :=
  .inr (some (((-1) : Int32), σ))
noncomputable def T_Bp_often_2 (s0I : Int32) (σ : AM) : S_Bp_often ⊕ Option (Int32 × AM) :=
  .inr (some (s0I, σ))
noncomputable def F_Bp_often : S_Bp_often → S_Bp_often ⊕ Option (Int32 × AM) := fun s => match s.1 with
  | 0 => T_Bp_often_0 (s.2.1) (s.2.2.1) (s.2.2.2.2)
  | 1 => T_Bp_often_1  (s.2.2.2.2)
  | _ => T_Bp_often_2 (s.2.2.2.1) (s.2.2.2.2)
noncomputable def L_Bp_often_0 (v0R : Nat) (v1I : Int32) (σ : AM) : Option (Int32 × AM) := lp F_Bp_often (0, v0R, v1I, 0, σ)
noncomputable def L_Bp_often_1  (σ : AM) : Option (Int32 × AM) := lp F_Bp_often (1, 0, 0, 0, σ)
noncomputable def L_Bp_often_2 (s0I : Int32) (σ : AM) : Option (Int32 × AM) := lp F_Bp_often (2, 0, 0, s0I, σ)
set_option maxRecDepth 20000 in
theorem E_Bp_often_0 (v0R : Nat) (v1I : Int32) (σ : AM) : L_Bp_often_0 v0R v1I σ = (gd (okO σ v0R 11) <| gd (okO σ (aR σ v0R 4) 5) <| bnd (M_Rs_refresh (aR σ v0R 4) σ) fun _ σ4 => if v1I < 0 then (L_Bp_often_1 σ4) else (if (1 : Int32) < v1I then (L_Bp_often_1 σ4) else (gd (okO σ4 v0R 11) <| gd (okO σ4 (aR σ4 v0R 4) 5) <| bnd (M_Rs_size (aR σ4 v0R 4) σ4) fun r7 σ8 => if r7 = 0 then (L_Bp_often_1 σ8) else (if v1I = 0 then (gd (okO σ8 v0R 11) <| gd (okO σ8 (aR σ8 v0R 4) 5) <| bnd (M_Rs_fewestRinging (aR σ8 v0R 4) σ8) fun r11 σ12 => L_Bp_often_2 r11 σ12) else (gd (okO σ8 v0R 11) <| gd (okO σ8 (aR σ8 v0R 4) 5) <| bnd (M_Rs_mostRinging (aR σ8 v0R 4) σ8) fun r15 σ16 => L_Bp_often_2 r15 σ16))))) := by
  unfold L_Bp_often_0
  rw [lp_eq]
  show lpK (lp F_Bp_often) (T_Bp_often_0 v0R v1I σ) = _
  unfold T_Bp_often_0
  simp only [lpK_ite, lq_inl, lq_inr, lpK_bnd, lpK_gd, lq_let]
  try rfl
set_option maxRecDepth 20000 in
theorem E_Bp_often_1  (σ : AM) : L_Bp_often_1  σ = ((some (((-1) : Int32), σ))) := by
  unfold L_Bp_often_1
  rw [lp_eq]
  show lpK (lp F_Bp_often) (T_Bp_often_1  σ) = _
  unfold T_Bp_often_1
  simp only [lpK_ite, lq_inl, lq_inr, lpK_bnd, lpK_gd, lq_let]
  try rfl
set_option maxRecDepth 20000 in
theorem E_Bp_often_2 (s0I : Int32) (σ : AM) : L_Bp_often_2 s0I σ = ((some (s0I, σ))) := by
  unfold L_Bp_often_2
  rw [lp_eq]
  show lpK (lp F_Bp_often) (T_Bp_often_2 s0I σ) = _
  unfold T_Bp_often_2
  simp only [lpK_ite, lq_inl, lq_inr, lpK_bnd, lpK_gd, lq_let]
  try rfl
noncomputable def M_Bp_often (v0R : Nat) (v1I : Int32) (σ : AM) : Option (Int32 × AM) := mw σ (L_Bp_often_0 v0R v1I σ)
def I_Bp_often (G : GX) (p : Program) (l : Launch) (e : Env) (s : State) (m : MethodId) (args : Array Value) (below : List Frame) (meth : Method) (c : Code) (z0 u0 n : Nat) : Prop :=
  (∀ (v0R : Nat) (v1I : Int32) (σ : AM), VX (QM eI G args s below z0 u0) G p l e s m args below meth c 3 z0 u0 2 (lpn F_Bp_often n (0, v0R, v1I, 0, σ)) 0 [(0, .ref v0R), (1, .int v1I)] [] σ) ∧
  (∀ (σ : AM), VX (QM eI G args s below z0 u0) G p l e s m args below meth c 3 z0 u0 2 (lpn F_Bp_often n (1, 0, 0, 0, σ)) 26 [] [] σ) ∧
  (∀ (s0I : Int32) (σ : AM), VX (QM eI G args s below z0 u0) G p l e s m args below meth c 3 z0 u0 2 (lpn F_Bp_often n (2, 0, 0, s0I, σ)) 49 [] [.int s0I] σ)
set_option maxRecDepth 20000 in
theorem s_Bp_often_0 {G : GX} {p : Program} {l : Launch} {e : Env} {s : State} {m : MethodId} {args : Array Value} {below : List Frame} {meth : Method} {c : Code} {z0 u0 n : Nat} (C : Cx G p s m args meth c prog_1_method_30_code 2 "BellPlate" ((some FieldType.int))) (IH : I_Bp_often G p l e s m args below meth c z0 u0 n) (v0R : Nat) (v1I : Int32) (σ : AM) : VX (QM eI G args s below z0 u0) G p l e s m args below meth c 3 z0 u0 2 (lpK (lpn F_Bp_often n) (T_Bp_often_0 v0R v1I σ)) 0 [(0, .ref v0R), (1, .int v1I)] [] σ := by
  unfold T_Bp_often_0
  refine x_aload_n C d_Bp_often_0 0 rfl ?_
  refine x_gd (fun h1 => ?_)
  refine x_gd (fun h2 => ?_)
  refine x_getR (k := 4) (kv := 5) C (okO_iff.mp h1) rfl j10_ok (by decide) rfl (okO_iff.mp h2) (by decide) w694 d_Bp_often_1 ?_
  refine x_callVV (As := []) C (c_Rs_refresh G l (aR σ v0R 4)  σ) (okO_iff.mp h2) rfl w1035 w1036 w1034 w1037 w125 k_Rs_refresh rfl (by decide) (by decide) rfl (Nat.le_of_ble_eq_true rfl) d_Bp_often_4 (fun r3 σ4 => ?_)
  refine x_iload_n C d_Bp_often_7 1 rfl ?_
  refine x_if_lt (tgt := 26) C d_Bp_often_8 (by decide) (fun _ => ?_) (fun _ => ?_)
  · refine x_lv [] rfl ?_
    exact IH.2.1  (σ4)
  · refine x_iload_n C d_Bp_often_11 1 rfl ?_
    refine x_iconst (v := (1 : Int32)) C d_Bp_often_12 (by decide) ?_
    refine x_icmp_gt (tgt := 26) C d_Bp_often_13 (by decide) (fun _ => ?_) (fun _ => ?_)
    · refine x_lv [] rfl ?_
      exact IH.2.1  (σ4)
    · refine x_aload_n C d_Bp_often_16 0 rfl ?_
      refine x_gd (fun h5 => ?_)
      refine x_gd (fun h6 => ?_)
      refine x_getR (k := 4) (kv := 5) C (okO_iff.mp h5) rfl j10_ok (by decide) rfl (okO_iff.mp h6) (by decide) w694 d_Bp_often_17 ?_
      refine x_callVI (As := []) C (c_Rs_size G l (aR σ4 v0R 4)  σ4) (okO_iff.mp h6) rfl w1084 w1085 w1083 w1086 w125 k_Rs_size rfl (by decide) (by decide) rfl (Nat.le_of_ble_eq_true rfl) d_Bp_often_20 (fun r7 σ8 => ?_)
      refine x_if_ne (tgt := 28) C d_Bp_often_23 (by decide) (fun _ => ?_) (fun _ => ?_)
      · refine x_lv [] rfl ?_
        exact IH.2.1  (σ8)
      · refine x_iload_n C d_Bp_often_28 1 rfl ?_
        refine x_if_ne (tgt := 42) C d_Bp_often_29 (by decide) (fun _ => ?_) (fun _ => ?_)
        · refine x_aload_n C d_Bp_often_32 0 rfl ?_
          refine x_gd (fun h9 => ?_)
          refine x_gd (fun h10 => ?_)
          refine x_getR (k := 4) (kv := 5) C (okO_iff.mp h9) rfl j10_ok (by decide) rfl (okO_iff.mp h10) (by decide) w694 d_Bp_often_33 ?_
          refine x_callVI (As := []) C (c_Rs_fewestRinging G l (aR σ8 v0R 4)  σ8) (okO_iff.mp h10) rfl w1525 w1526 w1524 w1527 w125 k_Rs_fewestRinging rfl (by decide) (by decide) rfl (Nat.le_of_ble_eq_true rfl) d_Bp_often_36 (fun r11 σ12 => ?_)
          refine x_goto (tgt := 49) C d_Bp_often_39 (by decide) ?_
          refine x_lv [] rfl ?_
          exact IH.2.2 r11 (σ12)
        · refine x_aload_n C d_Bp_often_42 0 rfl ?_
          refine x_gd (fun h13 => ?_)
          refine x_gd (fun h14 => ?_)
          refine x_getR (k := 4) (kv := 5) C (okO_iff.mp h13) rfl j10_ok (by decide) rfl (okO_iff.mp h14) (by decide) w694 d_Bp_often_43 ?_
          refine x_callVI (As := []) C (c_Rs_mostRinging G l (aR σ8 v0R 4)  σ8) (okO_iff.mp h14) rfl w1532 w1533 w1531 w1534 w125 k_Rs_mostRinging rfl (by decide) (by decide) rfl (Nat.le_of_ble_eq_true rfl) d_Bp_often_46 (fun r15 σ16 => ?_)
          refine x_lv [] rfl ?_
          exact IH.2.2 r15 (σ16)
set_option maxRecDepth 20000 in
theorem s_Bp_often_1 {G : GX} {p : Program} {l : Launch} {e : Env} {s : State} {m : MethodId} {args : Array Value} {below : List Frame} {meth : Method} {c : Code} {z0 u0 n : Nat} (C : Cx G p s m args meth c prog_1_method_30_code 2 "BellPlate" ((some FieldType.int))) (IH : I_Bp_often G p l e s m args below meth c z0 u0 n)  (σ : AM) : VX (QM eI G args s below z0 u0) G p l e s m args below meth c 3 z0 u0 2 (lpK (lpn F_Bp_often n) (T_Bp_often_1  σ)) 26 [] [] σ := by
  unfold T_Bp_often_1
  refine x_iconst (v := ((-1) : Int32)) C d_Bp_often_26 (by decide) ?_
  exact x_iret C d_Bp_often_27
set_option maxRecDepth 20000 in
theorem s_Bp_often_2 {G : GX} {p : Program} {l : Launch} {e : Env} {s : State} {m : MethodId} {args : Array Value} {below : List Frame} {meth : Method} {c : Code} {z0 u0 n : Nat} (C : Cx G p s m args meth c prog_1_method_30_code 2 "BellPlate" ((some FieldType.int))) (IH : I_Bp_often G p l e s m args below meth c z0 u0 n) (s0I : Int32) (σ : AM) : VX (QM eI G args s below z0 u0) G p l e s m args below meth c 3 z0 u0 2 (lpK (lpn F_Bp_often n) (T_Bp_often_2 s0I σ)) 49 [] [.int s0I] σ := by
  unfold T_Bp_often_2
  exact x_iret C d_Bp_often_49
theorem i_Bp_often {G : GX} {p : Program} {l : Launch} {e : Env} {s : State} {m : MethodId} {args : Array Value} {below : List Frame} {meth : Method} {c : Code} {z0 u0 : Nat} (C : Cx G p s m args meth c prog_1_method_30_code 2 "BellPlate" ((some FieldType.int))) (n : Nat) : I_Bp_often G p l e s m args below meth c z0 u0 n := by
  induction n with
  | zero => exact ⟨fun _ _ _ => x_none, fun _ => x_none, fun _ _ => x_none⟩
  | succ n IH => exact ⟨fun v0R v1I σ => s_Bp_often_0 C IH v0R v1I σ, fun σ => s_Bp_often_1 C IH σ, fun s0I σ => s_Bp_often_2 C IH s0I σ⟩
theorem c_Bp_often (G : GX) (l : Launch) (v0R : Nat) (v1I : Int32) (σ : AM) : CT eI G l 3 y_Bp_often prog_1_method_30_code 2 ((some FieldType.int)) [.ref v0R, .int v1I] σ (M_Bp_often v0R v1I σ) := by
  refine ct_of (by decide +kernel) (Nat.le_of_ble_eq_true rfl) (fun p e s m args below meth c C hin => ?_)
  refine x_lve (lv' := [(0, .ref v0R), (1, .int v1I)]) rfl ?_
  intro r σ' h
  obtain ⟨n, hn⟩ := (lp_iff _ _ _).mp h
  exact (i_Bp_often C n).1 v0R v1I σ r σ' hn
/-! BellPlate.rings(I)I -/
abbrev y_Bp_rings : MethodName := ⟨"BellPlate", "rings", "(I)I"⟩
theorem k_Bp_rings : y_Bp_rings.cls ≠ "java/lang/invoke/MethodHandle" ∧ y_Bp_rings.cls ≠ "java/lang/invoke/VarHandle" ∧ (parseMethodDescriptor y_Bp_rings.desc).map (fun d => d.parameters.length) = some 1 := by decide +kernel
theorem d_Bp_rings_0 : decode prog_1_method_31_code 0 = .ok (.iload_n 1, 1) := by decide +kernel
theorem d_Bp_rings_1 : decode prog_1_method_31_code 1 = .ok (.ifCond .lt 9, 3) := by decide +kernel
theorem d_Bp_rings_4 : decode prog_1_method_31_code 4 = .ok (.iload_n 1, 1) := by decide +kernel
theorem d_Bp_rings_5 : decode prog_1_method_31_code 5 = .ok (.bipush 64, 2) := by decide +kernel
theorem d_Bp_rings_7 : decode prog_1_method_31_code 7 = .ok (.if_icmp .le 5, 3) := by decide +kernel
theorem d_Bp_rings_10 : decode prog_1_method_31_code 10 = .ok (.iconst (-1), 1) := by decide +kernel
theorem d_Bp_rings_11 : decode prog_1_method_31_code 11 = .ok (.ireturn, 1) := by decide +kernel
theorem d_Bp_rings_12 : decode prog_1_method_31_code 12 = .ok (.aload_n 0, 1) := by decide +kernel
theorem d_Bp_rings_13 : decode prog_1_method_31_code 13 = .ok (.getfield 44, 3) := by decide +kernel
theorem d_Bp_rings_16 : decode prog_1_method_31_code 16 = .ok (.invokevirtual 159, 3) := by decide +kernel
theorem d_Bp_rings_19 : decode prog_1_method_31_code 19 = .ok (.aload_n 0, 1) := by decide +kernel
theorem d_Bp_rings_20 : decode prog_1_method_31_code 20 = .ok (.getfield 44, 3) := by decide +kernel
theorem d_Bp_rings_23 : decode prog_1_method_31_code 23 = .ok (.iload_n 1, 1) := by decide +kernel
theorem d_Bp_rings_24 : decode prog_1_method_31_code 24 = .ok (.invokevirtual 310, 3) := by decide +kernel
theorem d_Bp_rings_27 : decode prog_1_method_31_code 27 = .ok (.ireturn, 1) := by decide +kernel
abbrev S_Bp_rings : Type := Nat × Nat × Int32 × AM
noncomputable def T_Bp_rings_0 (v0R : Nat) (v1I : Int32) (σ : AM) : S_Bp_rings ⊕ Option (Int32 × AM) :=
  if v1I < 0 then (.inl (1, 0, 0, σ)) else (if (64 : Int32) < v1I then (.inl (1, 0, 0, σ)) else (gdT (okO σ v0R 11) <| gdT (okO σ (aR σ v0R 4) 5) <| bndT (M_Rs_refresh (aR σ v0R 4) σ) fun _ σ4 => gdT (okO σ4 v0R 11) <| gdT (okO σ4 (aR σ4 v0R 4) 5) <| bndT (M_Rs_listsRinging (aR σ4 v0R 4) v1I σ4) fun r7 σ8 => .inr (some (r7, σ8))))
noncomputable def T_Bp_rings_1  (σ : AM) : S_Bp_rings ⊕ Option (Int32 × AM) :=
  .inr (some (((-1) : Int32), σ))
noncomputable def F_Bp_rings : S_Bp_rings → S_Bp_rings ⊕ Option (Int32 × AM) := fun s => match s.1 with
  | 0 => T_Bp_rings_0 (s.2.1) (s.2.2.1) (s.2.2.2)
  | _ => T_Bp_rings_1  (s.2.2.2)
noncomputable def L_Bp_rings_0 (v0R : Nat) (v1I : Int32) (σ : AM) : Option (Int32 × AM) := lp F_Bp_rings (0, v0R, v1I, σ)
noncomputable def L_Bp_rings_1  (σ : AM) : Option (Int32 × AM) := lp F_Bp_rings (1, 0, 0, σ)
set_option maxRecDepth 20000 in
theorem E_Bp_rings_0 (v0R : Nat) (v1I : Int32) (σ : AM) : L_Bp_rings_0 v0R v1I σ = (if v1I < 0 then (L_Bp_rings_1 σ) else (if (64 : Int32) < v1I then (L_Bp_rings_1 σ) else (gd (okO σ v0R 11) <| gd (okO σ (aR σ v0R 4) 5) <| bnd (M_Rs_refresh (aR σ v0R 4) σ) fun _ σ4 => gd (okO σ4 v0R 11) <| gd (okO σ4 (aR σ4 v0R 4) 5) <| bnd (M_Rs_listsRinging (aR σ4 v0R 4) v1I σ4) fun r7 σ8 => (some (r7, σ8))))) := by
  unfold L_Bp_rings_0
  rw [lp_eq]
  show lpK (lp F_Bp_rings) (T_Bp_rings_0 v0R v1I σ) = _
  unfold T_Bp_rings_0
  simp only [lpK_ite, lq_inl, lq_inr, lpK_bnd, lpK_gd, lq_let]
  try rfl
set_option maxRecDepth 20000 in
theorem E_Bp_rings_1  (σ : AM) : L_Bp_rings_1  σ = ((some (((-1) : Int32), σ))) := by
  unfold L_Bp_rings_1
  rw [lp_eq]
  show lpK (lp F_Bp_rings) (T_Bp_rings_1  σ) = _
  unfold T_Bp_rings_1
  simp only [lpK_ite, lq_inl, lq_inr, lpK_bnd, lpK_gd, lq_let]
  try rfl
noncomputable def M_Bp_rings (v0R : Nat) (v1I : Int32) (σ : AM) : Option (Int32 × AM) := mw σ (L_Bp_rings_0 v0R v1I σ)
def I_Bp_rings (G : GX) (p : Program) (l : Launch) (e : Env) (s : State) (m : MethodId) (args : Array Value) (below : List Frame) (meth : Method) (c : Code) (z0 u0 n : Nat) : Prop :=
  (∀ (v0R : Nat) (v1I : Int32) (σ : AM), VX (QM eI G args s below z0 u0) G p l e s m args below meth c 3 z0 u0 2 (lpn F_Bp_rings n (0, v0R, v1I, σ)) 0 [(0, .ref v0R), (1, .int v1I)] [] σ) ∧
  (∀ (σ : AM), VX (QM eI G args s below z0 u0) G p l e s m args below meth c 3 z0 u0 2 (lpn F_Bp_rings n (1, 0, 0, σ)) 10 [] [] σ)
set_option maxRecDepth 20000 in
theorem s_Bp_rings_0 {G : GX} {p : Program} {l : Launch} {e : Env} {s : State} {m : MethodId} {args : Array Value} {below : List Frame} {meth : Method} {c : Code} {z0 u0 n : Nat} (C : Cx G p s m args meth c prog_1_method_31_code 2 "BellPlate" ((some FieldType.int))) (IH : I_Bp_rings G p l e s m args below meth c z0 u0 n) (v0R : Nat) (v1I : Int32) (σ : AM) : VX (QM eI G args s below z0 u0) G p l e s m args below meth c 3 z0 u0 2 (lpK (lpn F_Bp_rings n) (T_Bp_rings_0 v0R v1I σ)) 0 [(0, .ref v0R), (1, .int v1I)] [] σ := by
  unfold T_Bp_rings_0
  refine x_iload_n C d_Bp_rings_0 1 rfl ?_
  refine x_if_lt (tgt := 10) C d_Bp_rings_1 (by decide) (fun _ => ?_) (fun _ => ?_)
  · refine x_lv [] rfl ?_
    exact IH.2  (σ)
  · refine x_iload_n C d_Bp_rings_4 1 rfl ?_
    refine x_bipush (v := (64 : Int32)) C d_Bp_rings_5 (by decide) ?_
    refine x_icmp_le (tgt := 12) C d_Bp_rings_7 (by decide) (fun _ => ?_) (fun _ => ?_)
    · refine x_lv [] rfl ?_
      exact IH.2  (σ)
    · refine x_aload_n C d_Bp_rings_12 0 rfl ?_
      refine x_gd (fun h1 => ?_)
      refine x_gd (fun h2 => ?_)
      refine x_getR (k := 4) (kv := 5) C (okO_iff.mp h1) rfl j10_ok (by decide) rfl (okO_iff.mp h2) (by decide) w694 d_Bp_rings_13 ?_
      refine x_callVV (As := []) C (c_Rs_refresh G l (aR σ v0R 4)  σ) (okO_iff.mp h2) rfl w1035 w1036 w1034 w1037 w125 k_Rs_refresh rfl (by decide) (by decide) rfl (Nat.le_of_ble_eq_true rfl) d_Bp_rings_16 (fun r3 σ4 => ?_)
      refine x_aload_n C d_Bp_rings_19 0 rfl ?_
      refine x_gd (fun h5 => ?_)
      refine x_gd (fun h6 => ?_)
      refine x_getR (k := 4) (kv := 5) C (okO_iff.mp h5) rfl j10_ok (by decide) rfl (okO_iff.mp h6) (by decide) w694 d_Bp_rings_20 ?_
      refine x_iload_n C d_Bp_rings_23 1 rfl ?_
      refine x_callVI (As := [.int v1I]) C (c_Rs_listsRinging G l (aR σ4 v0R 4) v1I σ4) (okO_iff.mp h6) rfl w1541 w1542 w1540 w1543 w125 k_Rs_listsRinging rfl (by decide) (by decide) rfl (Nat.le_of_ble_eq_true rfl) d_Bp_rings_24 (fun r7 σ8 => ?_)
      exact x_iret C d_Bp_rings_27
set_option maxRecDepth 20000 in
theorem s_Bp_rings_1 {G : GX} {p : Program} {l : Launch} {e : Env} {s : State} {m : MethodId} {args : Array Value} {below : List Frame} {meth : Method} {c : Code} {z0 u0 n : Nat} (C : Cx G p s m args meth c prog_1_method_31_code 2 "BellPlate" ((some FieldType.int))) (IH : I_Bp_rings G p l e s m args below meth c z0 u0 n)  (σ : AM) : VX (QM eI G args s below z0 u0) G p l e s m args below meth c 3 z0 u0 2 (lpK (lpn F_Bp_rings n) (T_Bp_rings_1  σ)) 10 [] [] σ := by
  unfold T_Bp_rings_1
  refine x_iconst (v := ((-1) : Int32)) C d_Bp_rings_10 (by decide) ?_
  exact x_iret C d_Bp_rings_11
theorem i_Bp_rings {G : GX} {p : Program} {l : Launch} {e : Env} {s : State} {m : MethodId} {args : Array Value} {below : List Frame} {meth : Method} {c : Code} {z0 u0 : Nat} (C : Cx G p s m args meth c prog_1_method_31_code 2 "BellPlate" ((some FieldType.int))) (n : Nat) : I_Bp_rings G p l e s m args below meth c z0 u0 n := by
  induction n with
  | zero => exact ⟨fun _ _ _ => x_none, fun _ => x_none⟩
  | succ n IH => exact ⟨fun v0R v1I σ => s_Bp_rings_0 C IH v0R v1I σ, fun σ => s_Bp_rings_1 C IH σ⟩
theorem c_Bp_rings (G : GX) (l : Launch) (v0R : Nat) (v1I : Int32) (σ : AM) : CT eI G l 3 y_Bp_rings prog_1_method_31_code 2 ((some FieldType.int)) [.ref v0R, .int v1I] σ (M_Bp_rings v0R v1I σ) := by
  refine ct_of (by decide +kernel) (Nat.le_of_ble_eq_true rfl) (fun p e s m args below meth c C hin => ?_)
  refine x_lve (lv' := [(0, .ref v0R), (1, .int v1I)]) rfl ?_
  intro r σ' h
  obtain ⟨n, hn⟩ := (lp_iff _ _ _).mp h
  exact (i_Bp_rings C n).1 v0R v1I σ r σ' hn
/-! BellPlate.vote(III)I -/
abbrev y_Bp_vote : MethodName := ⟨"BellPlate", "vote", "(III)I"⟩
theorem k_Bp_vote : y_Bp_vote.cls ≠ "java/lang/invoke/MethodHandle" ∧ y_Bp_vote.cls ≠ "java/lang/invoke/VarHandle" ∧ (parseMethodDescriptor y_Bp_vote.desc).map (fun d => d.parameters.length) = some 3 := by decide +kernel
theorem d_Bp_vote_0 : decode prog_1_method_32_code 0 = .ok (.aload_n 0, 1) := by decide +kernel
theorem d_Bp_vote_1 : decode prog_1_method_32_code 1 = .ok (.getfield 19, 3) := by decide +kernel
theorem d_Bp_vote_4 : decode prog_1_method_32_code 4 = .ok (.iload_n 1, 1) := by decide +kernel
theorem d_Bp_vote_5 : decode prog_1_method_32_code 5 = .ok (.invokevirtual 128, 3) := by decide +kernel
theorem d_Bp_vote_8 : decode prog_1_method_32_code 8 = .ok (.ifCond .eq 23, 3) := by decide +kernel
theorem d_Bp_vote_11 : decode prog_1_method_32_code 11 = .ok (.aload_n 0, 1) := by decide +kernel
theorem d_Bp_vote_12 : decode prog_1_method_32_code 12 = .ok (.getfield 19, 3) := by decide +kernel
theorem d_Bp_vote_15 : decode prog_1_method_32_code 15 = .ok (.iload_n 2, 1) := by decide +kernel
theorem d_Bp_vote_16 : decode prog_1_method_32_code 16 = .ok (.invokevirtual 180, 3) := by decide +kernel
theorem d_Bp_vote_19 : decode prog_1_method_32_code 19 = .ok (.ifCond .eq 12, 3) := by decide +kernel
theorem d_Bp_vote_22 : decode prog_1_method_32_code 22 = .ok (.iload_n 3, 1) := by decide +kernel
theorem d_Bp_vote_23 : decode prog_1_method_32_code 23 = .ok (.ifCond .lt 8, 3) := by decide +kernel
theorem d_Bp_vote_26 : decode prog_1_method_32_code 26 = .ok (.iload_n 3, 1) := by decide +kernel
theorem d_Bp_vote_27 : decode prog_1_method_32_code 27 = .ok (.iconst 1, 1) := by decide +kernel
theorem d_Bp_vote_28 : decode prog_1_method_32_code 28 = .ok (.if_icmp .le 5, 3) := by decide +kernel
theorem d_Bp_vote_31 : decode prog_1_method_32_code 31 = .ok (.iconst (-1), 1) := by decide +kernel
theorem d_Bp_vote_32 : decode prog_1_method_32_code 32 = .ok (.ireturn, 1) := by decide +kernel
theorem d_Bp_vote_33 : decode prog_1_method_32_code 33 = .ok (.aload_n 0, 1) := by decide +kernel
theorem d_Bp_vote_34 : decode prog_1_method_32_code 34 = .ok (.getfield 89, 3) := by decide +kernel
theorem d_Bp_vote_37 : decode prog_1_method_32_code 37 = .ok (.iload_n 1, 1) := by decide +kernel
theorem d_Bp_vote_38 : decode prog_1_method_32_code 38 = .ok (.iload_n 2, 1) := by decide +kernel
theorem d_Bp_vote_39 : decode prog_1_method_32_code 39 = .ok (.invokevirtual 313, 3) := by decide +kernel
theorem d_Bp_vote_42 : decode prog_1_method_32_code 42 = .ok (.aload_n 0, 1) := by decide +kernel
theorem d_Bp_vote_43 : decode prog_1_method_32_code 43 = .ok (.getfield 89, 3) := by decide +kernel
theorem d_Bp_vote_46 : decode prog_1_method_32_code 46 = .ok (.invokevirtual 316, 3) := by decide +kernel
theorem d_Bp_vote_49 : decode prog_1_method_32_code 49 = .ok (.iload_n 3, 1) := by decide +kernel
theorem d_Bp_vote_50 : decode prog_1_method_32_code 50 = .ok (.invokestatic 253, 3) := by decide +kernel
theorem d_Bp_vote_53 : decode prog_1_method_32_code 53 = .ok (.ireturn, 1) := by decide +kernel
abbrev S_Bp_vote : Type := Nat × Nat × Int32 × Int32 × Int32 × AM
noncomputable def T_Bp_vote_0 (v0R : Nat) (v1I : Int32) (v2I : Int32) (v3I : Int32) (σ : AM) : S_Bp_vote ⊕ Option (Int32 × AM) :=
  gdT (okO σ v0R 11) <| gdT (okO σ (aR σ v0R 1) 1) <| bndT (M_Tw_hasWeights (aR σ v0R 1) v1I σ) fun r3 σ4 => if r3 = 0 then (.inl (1, 0, 0, 0, 0, σ4)) else (gdT (okO σ4 v0R 11) <| gdT (okO σ4 (aR σ4 v0R 1) 1) <| bndT (M_Tw_hasThing (aR σ4 v0R 1) v2I σ4) fun r7 σ8 => if r7 = 0 then (.inl (1, 0, 0, 0, 0, σ8)) else (if v3I < 0 then (.inl (1, 0, 0, 0, 0, σ8)) else (if (1 : Int32) < v3I then (.inl (1, 0, 0, 0, 0, σ8)) else (gdT (okO σ8 v0R 11) <| gdT (okO σ8 (aR σ8 v0R 9) 10) <| bndT (M_Pw_ordersDecided (aR σ8 v0R 9) v1I v2I σ8) fun r11 σ12 => gdT (okO σ12 v0R 11) <| gdT (okO σ12 (aR σ12 v0R 9) 10) <| bndT (M_Pw_orders (aR σ12 v0R 9) σ12) fun r15 σ16 => bndT (M_St_lowest r11 r15 v3I σ16) fun r17 σ18 => .inr (some (r17, σ18))))))
noncomputable def T_Bp_vote_1  (σ : AM) : S_Bp_vote ⊕ Option (Int32 × AM) :=
  .inr (some (((-1) : Int32), σ))
noncomputable def F_Bp_vote : S_Bp_vote → S_Bp_vote ⊕ Option (Int32 × AM) := fun s => match s.1 with
  | 0 => T_Bp_vote_0 (s.2.1) (s.2.2.1) (s.2.2.2.1) (s.2.2.2.2.1) (s.2.2.2.2.2)
  | _ => T_Bp_vote_1  (s.2.2.2.2.2)
noncomputable def L_Bp_vote_0 (v0R : Nat) (v1I : Int32) (v2I : Int32) (v3I : Int32) (σ : AM) : Option (Int32 × AM) := lp F_Bp_vote (0, v0R, v1I, v2I, v3I, σ)
noncomputable def L_Bp_vote_1  (σ : AM) : Option (Int32 × AM) := lp F_Bp_vote (1, 0, 0, 0, 0, σ)
set_option maxRecDepth 20000 in
theorem E_Bp_vote_0 (v0R : Nat) (v1I : Int32) (v2I : Int32) (v3I : Int32) (σ : AM) : L_Bp_vote_0 v0R v1I v2I v3I σ = (gd (okO σ v0R 11) <| gd (okO σ (aR σ v0R 1) 1) <| bnd (M_Tw_hasWeights (aR σ v0R 1) v1I σ) fun r3 σ4 => if r3 = 0 then (L_Bp_vote_1 σ4) else (gd (okO σ4 v0R 11) <| gd (okO σ4 (aR σ4 v0R 1) 1) <| bnd (M_Tw_hasThing (aR σ4 v0R 1) v2I σ4) fun r7 σ8 => if r7 = 0 then (L_Bp_vote_1 σ8) else (if v3I < 0 then (L_Bp_vote_1 σ8) else (if (1 : Int32) < v3I then (L_Bp_vote_1 σ8) else (gd (okO σ8 v0R 11) <| gd (okO σ8 (aR σ8 v0R 9) 10) <| bnd (M_Pw_ordersDecided (aR σ8 v0R 9) v1I v2I σ8) fun r11 σ12 => gd (okO σ12 v0R 11) <| gd (okO σ12 (aR σ12 v0R 9) 10) <| bnd (M_Pw_orders (aR σ12 v0R 9) σ12) fun r15 σ16 => bnd (M_St_lowest r11 r15 v3I σ16) fun r17 σ18 => (some (r17, σ18))))))) := by
  unfold L_Bp_vote_0
  rw [lp_eq]
  show lpK (lp F_Bp_vote) (T_Bp_vote_0 v0R v1I v2I v3I σ) = _
  unfold T_Bp_vote_0
  simp only [lpK_ite, lq_inl, lq_inr, lpK_bnd, lpK_gd, lq_let]
  try rfl
set_option maxRecDepth 20000 in
theorem E_Bp_vote_1  (σ : AM) : L_Bp_vote_1  σ = ((some (((-1) : Int32), σ))) := by
  unfold L_Bp_vote_1
  rw [lp_eq]
  show lpK (lp F_Bp_vote) (T_Bp_vote_1  σ) = _
  unfold T_Bp_vote_1
  simp only [lpK_ite, lq_inl, lq_inr, lpK_bnd, lpK_gd, lq_let]
  try rfl
noncomputable def M_Bp_vote (v0R : Nat) (v1I : Int32) (v2I : Int32) (v3I : Int32) (σ : AM) : Option (Int32 × AM) := mw σ (L_Bp_vote_0 v0R v1I v2I v3I σ)
def I_Bp_vote (G : GX) (p : Program) (l : Launch) (e : Env) (s : State) (m : MethodId) (args : Array Value) (below : List Frame) (meth : Method) (c : Code) (z0 u0 n : Nat) : Prop :=
  (∀ (v0R : Nat) (v1I : Int32) (v2I : Int32) (v3I : Int32) (σ : AM), VX (QM eI G args s below z0 u0) G p l e s m args below meth c 5 z0 u0 4 (lpn F_Bp_vote n (0, v0R, v1I, v2I, v3I, σ)) 0 [(0, .ref v0R), (1, .int v1I), (2, .int v2I), (3, .int v3I)] [] σ) ∧
  (∀ (σ : AM), VX (QM eI G args s below z0 u0) G p l e s m args below meth c 5 z0 u0 4 (lpn F_Bp_vote n (1, 0, 0, 0, 0, σ)) 31 [] [] σ)
set_option maxRecDepth 20000 in
theorem s_Bp_vote_0 {G : GX} {p : Program} {l : Launch} {e : Env} {s : State} {m : MethodId} {args : Array Value} {below : List Frame} {meth : Method} {c : Code} {z0 u0 n : Nat} (C : Cx G p s m args meth c prog_1_method_32_code 4 "BellPlate" ((some FieldType.int))) (IH : I_Bp_vote G p l e s m args below meth c z0 u0 n) (v0R : Nat) (v1I : Int32) (v2I : Int32) (v3I : Int32) (σ : AM) : VX (QM eI G args s below z0 u0) G p l e s m args below meth c 5 z0 u0 4 (lpK (lpn F_Bp_vote n) (T_Bp_vote_0 v0R v1I v2I v3I σ)) 0 [(0, .ref v0R), (1, .int v1I), (2, .int v2I), (3, .int v3I)] [] σ := by
  unfold T_Bp_vote_0
  refine x_aload_n C d_Bp_vote_0 0 rfl ?_
  refine x_gd (fun h1 => ?_)
  refine x_gd (fun h2 => ?_)
  refine x_getR (k := 1) (kv := 1) C (okO_iff.mp h1) rfl j10_ok (by decide) rfl (okO_iff.mp h2) (by decide) w691 d_Bp_vote_1 ?_
  refine x_iload_n C d_Bp_vote_4 1 rfl ?_
  refine x_callVI (As := [.int v1I]) C (c_Tw_hasWeights G l (aR σ v0R 1) v1I σ) (okO_iff.mp h2) rfl w978 w979 w977 w980 w122 k_Tw_hasWeights rfl (by decide) (by decide) rfl (Nat.le_of_ble_eq_true rfl) d_Bp_vote_5 (fun r3 σ4 => ?_)
  refine x_if_eq (tgt := 31) C d_Bp_vote_8 (by decide) (fun _ => ?_) (fun _ => ?_)
  · refine x_lv [] rfl ?_
    exact IH.2  (σ4)
  · refine x_aload_n C d_Bp_vote_11 0 rfl ?_
    refine x_gd (fun h5 => ?_)
    refine x_gd (fun h6 => ?_)
    refine x_getR (k := 1) (kv := 1) C (okO_iff.mp h5) rfl j10_ok (by decide) rfl (okO_iff.mp h6) (by decide) w691 d_Bp_vote_12 ?_
    refine x_iload_n C d_Bp_vote_15 2 rfl ?_
    refine x_callVI (As := [.int v2I]) C (c_Tw_hasThing G l (aR σ4 v0R 1) v2I σ4) (okO_iff.mp h6) rfl w1112 w1113 w1111 w1114 w122 k_Tw_hasThing rfl (by decide) (by decide) rfl (Nat.le_of_ble_eq_true rfl) d_Bp_vote_16 (fun r7 σ8 => ?_)
    refine x_if_eq (tgt := 31) C d_Bp_vote_19 (by decide) (fun _ => ?_) (fun _ => ?_)
    · refine x_lv [] rfl ?_
      exact IH.2  (σ8)
    · refine x_iload_n C d_Bp_vote_22 3 rfl ?_
      refine x_if_lt (tgt := 31) C d_Bp_vote_23 (by decide) (fun _ => ?_) (fun _ => ?_)
      · refine x_lv [] rfl ?_
        exact IH.2  (σ8)
      · refine x_iload_n C d_Bp_vote_26 3 rfl ?_
        refine x_iconst (v := (1 : Int32)) C d_Bp_vote_27 (by decide) ?_
        refine x_icmp_le (tgt := 33) C d_Bp_vote_28 (by decide) (fun _ => ?_) (fun _ => ?_)
        · refine x_lv [] rfl ?_
          exact IH.2  (σ8)
        · refine x_aload_n C d_Bp_vote_33 0 rfl ?_
          refine x_gd (fun h9 => ?_)
          refine x_gd (fun h10 => ?_)
          refine x_getR (k := 9) (kv := 10) C (okO_iff.mp h9) rfl j10_ok (by decide) rfl (okO_iff.mp h10) (by decide) w699 d_Bp_vote_34 ?_
          refine x_iload_n C d_Bp_vote_37 1 rfl ?_
          refine x_iload_n C d_Bp_vote_38 2 rfl ?_
          refine x_callVI (As := [.int v1I, .int v2I]) C (c_Pw_ordersDecided G l (aR σ8 v0R 9) v1I v2I σ8) (okO_iff.mp h10) rfl w1549 w1550 w1548 w1551 w131 k_Pw_ordersDecided rfl (by decide) (by decide) rfl (Nat.le_of_ble_eq_true rfl) d_Bp_vote_39 (fun r11 σ12 => ?_)
          refine x_aload_n C d_Bp_vote_42 0 rfl ?_
          refine x_gd (fun h13 => ?_)
          refine x_gd (fun h14 => ?_)
          refine x_getR (k := 9) (kv := 10) C (okO_iff.mp h13) rfl j10_ok (by decide) rfl (okO_iff.mp h14) (by decide) w699 d_Bp_vote_43 ?_
          refine x_callVI (As := []) C (c_Pw_orders G l (aR σ12 v0R 9)  σ12) (okO_iff.mp h14) rfl w1563 w1564 w1562 w1565 w131 k_Pw_orders rfl (by decide) (by decide) rfl (Nat.le_of_ble_eq_true rfl) d_Bp_vote_46 (fun r15 σ16 => ?_)
          refine x_iload_n C d_Bp_vote_49 3 rfl ?_
          refine x_callSI (As := [.int r11, .int r15, .int v3I]) C (c_St_lowest G l r11 r15 v3I σ16) w1315 w1314 w1316 w141 k_St_lowest rfl (by decide) (by decide) rfl (Nat.le_of_ble_eq_true rfl) d_Bp_vote_50 (fun r17 σ18 => ?_)
          exact x_iret C d_Bp_vote_53
set_option maxRecDepth 20000 in
theorem s_Bp_vote_1 {G : GX} {p : Program} {l : Launch} {e : Env} {s : State} {m : MethodId} {args : Array Value} {below : List Frame} {meth : Method} {c : Code} {z0 u0 n : Nat} (C : Cx G p s m args meth c prog_1_method_32_code 4 "BellPlate" ((some FieldType.int))) (IH : I_Bp_vote G p l e s m args below meth c z0 u0 n)  (σ : AM) : VX (QM eI G args s below z0 u0) G p l e s m args below meth c 5 z0 u0 4 (lpK (lpn F_Bp_vote n) (T_Bp_vote_1  σ)) 31 [] [] σ := by
  unfold T_Bp_vote_1
  refine x_iconst (v := ((-1) : Int32)) C d_Bp_vote_31 (by decide) ?_
  exact x_iret C d_Bp_vote_32
theorem i_Bp_vote {G : GX} {p : Program} {l : Launch} {e : Env} {s : State} {m : MethodId} {args : Array Value} {below : List Frame} {meth : Method} {c : Code} {z0 u0 : Nat} (C : Cx G p s m args meth c prog_1_method_32_code 4 "BellPlate" ((some FieldType.int))) (n : Nat) : I_Bp_vote G p l e s m args below meth c z0 u0 n := by
  induction n with
  | zero => exact ⟨fun _ _ _ _ _ => x_none, fun _ => x_none⟩
  | succ n IH => exact ⟨fun v0R v1I v2I v3I σ => s_Bp_vote_0 C IH v0R v1I v2I v3I σ, fun σ => s_Bp_vote_1 C IH σ⟩
theorem c_Bp_vote (G : GX) (l : Launch) (v0R : Nat) (v1I : Int32) (v2I : Int32) (v3I : Int32) (σ : AM) : CT eI G l 5 y_Bp_vote prog_1_method_32_code 4 ((some FieldType.int)) [.ref v0R, .int v1I, .int v2I, .int v3I] σ (M_Bp_vote v0R v1I v2I v3I σ) := by
  refine ct_of (by decide +kernel) (Nat.le_of_ble_eq_true rfl) (fun p e s m args below meth c C hin => ?_)
  refine x_lve (lv' := [(0, .ref v0R), (1, .int v1I), (2, .int v2I), (3, .int v3I)]) rfl ?_
  intro r σ' h
  obtain ⟨n, hn⟩ := (lp_iff _ _ _).mp h
  exact (i_Bp_vote C n).1 v0R v1I v2I v3I σ r σ' hn
/-! BellPlate.swings(II)I -/
abbrev y_Bp_swings : MethodName := ⟨"BellPlate", "swings", "(II)I"⟩
theorem k_Bp_swings : y_Bp_swings.cls ≠ "java/lang/invoke/MethodHandle" ∧ y_Bp_swings.cls ≠ "java/lang/invoke/VarHandle" ∧ (parseMethodDescriptor y_Bp_swings.desc).map (fun d => d.parameters.length) = some 2 := by decide +kernel
theorem d_Bp_swings_0 : decode prog_1_method_33_code 0 = .ok (.aload_n 0, 1) := by decide +kernel
theorem d_Bp_swings_1 : decode prog_1_method_33_code 1 = .ok (.getfield 19, 3) := by decide +kernel
theorem d_Bp_swings_4 : decode prog_1_method_33_code 4 = .ok (.iload_n 1, 1) := by decide +kernel
theorem d_Bp_swings_5 : decode prog_1_method_33_code 5 = .ok (.invokevirtual 128, 3) := by decide +kernel
theorem d_Bp_swings_8 : decode prog_1_method_33_code 8 = .ok (.ifCond .eq 14, 3) := by decide +kernel
theorem d_Bp_swings_11 : decode prog_1_method_33_code 11 = .ok (.aload_n 0, 1) := by decide +kernel
theorem d_Bp_swings_12 : decode prog_1_method_33_code 12 = .ok (.getfield 19, 3) := by decide +kernel
theorem d_Bp_swings_15 : decode prog_1_method_33_code 15 = .ok (.iload_n 2, 1) := by decide +kernel
theorem d_Bp_swings_16 : decode prog_1_method_33_code 16 = .ok (.invokevirtual 180, 3) := by decide +kernel
theorem d_Bp_swings_19 : decode prog_1_method_33_code 19 = .ok (.ifCond .ne 5, 3) := by decide +kernel
theorem d_Bp_swings_22 : decode prog_1_method_33_code 22 = .ok (.iconst (-1), 1) := by decide +kernel
theorem d_Bp_swings_23 : decode prog_1_method_33_code 23 = .ok (.ireturn, 1) := by decide +kernel
theorem d_Bp_swings_24 : decode prog_1_method_33_code 24 = .ok (.aload_n 0, 1) := by decide +kernel
theorem d_Bp_swings_25 : decode prog_1_method_33_code 25 = .ok (.getfield 28, 3) := by decide +kernel
theorem d_Bp_swings_28 : decode prog_1_method_33_code 28 = .ok (.iload_n 1, 1) := by decide +kernel
theorem d_Bp_swings_29 : decode prog_1_method_33_code 29 = .ok (.invokevirtual 136, 3) := by decide +kernel
theorem d_Bp_swings_32 : decode prog_1_method_33_code 32 = .ok (.iload_n 2, 1) := by decide +kernel
theorem d_Bp_swings_33 : decode prog_1_method_33_code 33 = .ok (.invokestatic 319, 3) := by decide +kernel
theorem d_Bp_swings_36 : decode prog_1_method_33_code 36 = .ok (.invokestatic 323, 3) := by decide +kernel
theorem d_Bp_swings_39 : decode prog_1_method_33_code 39 = .ok (.ireturn, 1) := by decide +kernel
abbrev S_Bp_swings : Type := Nat × Nat × Int32 × Int32 × AM
noncomputable def T_Bp_swings_0 (v0R : Nat) (v1I : Int32) (v2I : Int32) (σ : AM) : S_Bp_swings ⊕ Option (Int32 × AM) :=
  gdT (okO σ v0R 11) <| gdT (okO σ (aR σ v0R 1) 1) <| bndT (M_Tw_hasWeights (aR σ v0R 1) v1I σ) fun r3 σ4 => if r3 = 0 then (.inl (1, 0, 0, 0, σ4)) else (gdT (okO σ4 v0R 11) <| gdT (okO σ4 (aR σ4 v0R 1) 1) <| bndT (M_Tw_hasThing (aR σ4 v0R 1) v2I σ4) fun r7 σ8 => if r7 = 0 then (.inl (1, 0, 0, 0, σ8)) else (gdT (okO σ8 v0R 11) <| gdT (okO σ8 (aR σ8 v0R 2) 3) <| bndT (M_Ls_listOf (aR σ8 v0R 2) v1I σ8) fun r11 σ12 => bndT (M_St_swung r11 v2I σ12) fun r13 σ14 => bndT (M_JLong_bitCount r13 σ14) fun r15 σ16 => .inr (some (r15, σ16))))
noncomputable def T_Bp_swings_1  (σ : AM) : S_Bp_swings ⊕ Option (Int32 × AM) :=
  .inr (some (((-1) : Int32), σ))
noncomputable def F_Bp_swings : S_Bp_swings → S_Bp_swings ⊕ Option (Int32 × AM) := fun s => match s.1 with
  | 0 => T_Bp_swings_0 (s.2.1) (s.2.2.1) (s.2.2.2.1) (s.2.2.2.2)
  | _ => T_Bp_swings_1  (s.2.2.2.2)
noncomputable def L_Bp_swings_0 (v0R : Nat) (v1I : Int32) (v2I : Int32) (σ : AM) : Option (Int32 × AM) := lp F_Bp_swings (0, v0R, v1I, v2I, σ)
noncomputable def L_Bp_swings_1  (σ : AM) : Option (Int32 × AM) := lp F_Bp_swings (1, 0, 0, 0, σ)
set_option maxRecDepth 20000 in
theorem E_Bp_swings_0 (v0R : Nat) (v1I : Int32) (v2I : Int32) (σ : AM) : L_Bp_swings_0 v0R v1I v2I σ = (gd (okO σ v0R 11) <| gd (okO σ (aR σ v0R 1) 1) <| bnd (M_Tw_hasWeights (aR σ v0R 1) v1I σ) fun r3 σ4 => if r3 = 0 then (L_Bp_swings_1 σ4) else (gd (okO σ4 v0R 11) <| gd (okO σ4 (aR σ4 v0R 1) 1) <| bnd (M_Tw_hasThing (aR σ4 v0R 1) v2I σ4) fun r7 σ8 => if r7 = 0 then (L_Bp_swings_1 σ8) else (gd (okO σ8 v0R 11) <| gd (okO σ8 (aR σ8 v0R 2) 3) <| bnd (M_Ls_listOf (aR σ8 v0R 2) v1I σ8) fun r11 σ12 => bnd (M_St_swung r11 v2I σ12) fun r13 σ14 => bnd (M_JLong_bitCount r13 σ14) fun r15 σ16 => (some (r15, σ16))))) := by
  unfold L_Bp_swings_0
  rw [lp_eq]
  show lpK (lp F_Bp_swings) (T_Bp_swings_0 v0R v1I v2I σ) = _
  unfold T_Bp_swings_0
  simp only [lpK_ite, lq_inl, lq_inr, lpK_bnd, lpK_gd, lq_let]
  try rfl
set_option maxRecDepth 20000 in
theorem E_Bp_swings_1  (σ : AM) : L_Bp_swings_1  σ = ((some (((-1) : Int32), σ))) := by
  unfold L_Bp_swings_1
  rw [lp_eq]
  show lpK (lp F_Bp_swings) (T_Bp_swings_1  σ) = _
  unfold T_Bp_swings_1
  simp only [lpK_ite, lq_inl, lq_inr, lpK_bnd, lpK_gd, lq_let]
  try rfl
noncomputable def M_Bp_swings (v0R : Nat) (v1I : Int32) (v2I : Int32) (σ : AM) : Option (Int32 × AM) := mw σ (L_Bp_swings_0 v0R v1I v2I σ)
def I_Bp_swings (G : GX) (p : Program) (l : Launch) (e : Env) (s : State) (m : MethodId) (args : Array Value) (below : List Frame) (meth : Method) (c : Code) (z0 u0 n : Nat) : Prop :=
  (∀ (v0R : Nat) (v1I : Int32) (v2I : Int32) (σ : AM), VX (QM eI G args s below z0 u0) G p l e s m args below meth c 4 z0 u0 3 (lpn F_Bp_swings n (0, v0R, v1I, v2I, σ)) 0 [(0, .ref v0R), (1, .int v1I), (2, .int v2I)] [] σ) ∧
  (∀ (σ : AM), VX (QM eI G args s below z0 u0) G p l e s m args below meth c 4 z0 u0 3 (lpn F_Bp_swings n (1, 0, 0, 0, σ)) 22 [] [] σ)
set_option maxRecDepth 20000 in
theorem s_Bp_swings_0 {G : GX} {p : Program} {l : Launch} {e : Env} {s : State} {m : MethodId} {args : Array Value} {below : List Frame} {meth : Method} {c : Code} {z0 u0 n : Nat} (C : Cx G p s m args meth c prog_1_method_33_code 3 "BellPlate" ((some FieldType.int))) (IH : I_Bp_swings G p l e s m args below meth c z0 u0 n) (v0R : Nat) (v1I : Int32) (v2I : Int32) (σ : AM) : VX (QM eI G args s below z0 u0) G p l e s m args below meth c 4 z0 u0 3 (lpK (lpn F_Bp_swings n) (T_Bp_swings_0 v0R v1I v2I σ)) 0 [(0, .ref v0R), (1, .int v1I), (2, .int v2I)] [] σ := by
  unfold T_Bp_swings_0
  refine x_aload_n C d_Bp_swings_0 0 rfl ?_
  refine x_gd (fun h1 => ?_)
  refine x_gd (fun h2 => ?_)
  refine x_getR (k := 1) (kv := 1) C (okO_iff.mp h1) rfl j10_ok (by decide) rfl (okO_iff.mp h2) (by decide) w691 d_Bp_swings_1 ?_
  refine x_iload_n C d_Bp_swings_4 1 rfl ?_
  refine x_callVI (As := [.int v1I]) C (c_Tw_hasWeights G l (aR σ v0R 1) v1I σ) (okO_iff.mp h2) rfl w978 w979 w977 w980 w122 k_Tw_hasWeights rfl (by decide) (by decide) rfl (Nat.le_of_ble_eq_true rfl) d_Bp_swings_5 (fun r3 σ4 => ?_)
  refine x_if_eq (tgt := 22) C d_Bp_swings_8 (by decide) (fun _ => ?_) (fun _ => ?_)
  · refine x_lv [] rfl ?_
    exact IH.2  (σ4)
  · refine x_aload_n C d_Bp_swings_11 0 rfl ?_
    refine x_gd (fun h5 => ?_)
    refine x_gd (fun h6 => ?_)
    refine x_getR (k := 1) (kv := 1) C (okO_iff.mp h5) rfl j10_ok (by decide) rfl (okO_iff.mp h6) (by decide) w691 d_Bp_swings_12 ?_
    refine x_iload_n C d_Bp_swings_15 2 rfl ?_
    refine x_callVI (As := [.int v2I]) C (c_Tw_hasThing G l (aR σ4 v0R 1) v2I σ4) (okO_iff.mp h6) rfl w1112 w1113 w1111 w1114 w122 k_Tw_hasThing rfl (by decide) (by decide) rfl (Nat.le_of_ble_eq_true rfl) d_Bp_swings_16 (fun r7 σ8 => ?_)
    refine x_if_ne (tgt := 24) C d_Bp_swings_19 (by decide) (fun _ => ?_) (fun _ => ?_)
    · refine x_lv [] rfl ?_
      exact IH.2  (σ8)
    · refine x_aload_n C d_Bp_swings_24 0 rfl ?_
      refine x_gd (fun h9 => ?_)
      refine x_gd (fun h10 => ?_)
      refine x_getR (k := 2) (kv := 3) C (okO_iff.mp h9) rfl j10_ok (by decide) rfl (okO_iff.mp h10) (by decide) w692 d_Bp_swings_25 ?_
      refine x_iload_n C d_Bp_swings_28 1 rfl ?_
      refine x_callVJ (As := [.int v1I]) C (c_Ls_listOf G l (aR σ8 v0R 2) v1I σ8) (okO_iff.mp h10) rfl w991 w992 w990 w993 w123 k_Ls_listOf rfl (by decide) (by decide) rfl (Nat.le_of_ble_eq_true rfl) d_Bp_swings_29 (fun r11 σ12 => ?_)
      refine x_iload_n C d_Bp_swings_32 2 rfl ?_
      refine x_callSJ (As := [.long r11, .int v2I]) C (c_St_swung G l r11 v2I σ12) w1128 w1570 w1129 w141 k_St_swung rfl (by decide) (by decide) rfl (Nat.le_of_ble_eq_true rfl) d_Bp_swings_33 (fun r13 σ14 => ?_)
      refine x_callSI (As := [.long r13]) C (c_JLong_bitCount G l r13 σ14) w1066 w1571 w1067 w142 k_JLong_bitCount rfl (by decide) (by decide) rfl (Nat.le_of_ble_eq_true rfl) d_Bp_swings_36 (fun r15 σ16 => ?_)
      exact x_iret C d_Bp_swings_39
set_option maxRecDepth 20000 in
theorem s_Bp_swings_1 {G : GX} {p : Program} {l : Launch} {e : Env} {s : State} {m : MethodId} {args : Array Value} {below : List Frame} {meth : Method} {c : Code} {z0 u0 n : Nat} (C : Cx G p s m args meth c prog_1_method_33_code 3 "BellPlate" ((some FieldType.int))) (IH : I_Bp_swings G p l e s m args below meth c z0 u0 n)  (σ : AM) : VX (QM eI G args s below z0 u0) G p l e s m args below meth c 4 z0 u0 3 (lpK (lpn F_Bp_swings n) (T_Bp_swings_1  σ)) 22 [] [] σ := by
  unfold T_Bp_swings_1
  refine x_iconst (v := ((-1) : Int32)) C d_Bp_swings_22 (by decide) ?_
  exact x_iret C d_Bp_swings_23
theorem i_Bp_swings {G : GX} {p : Program} {l : Launch} {e : Env} {s : State} {m : MethodId} {args : Array Value} {below : List Frame} {meth : Method} {c : Code} {z0 u0 : Nat} (C : Cx G p s m args meth c prog_1_method_33_code 3 "BellPlate" ((some FieldType.int))) (n : Nat) : I_Bp_swings G p l e s m args below meth c z0 u0 n := by
  induction n with
  | zero => exact ⟨fun _ _ _ _ => x_none, fun _ => x_none⟩
  | succ n IH => exact ⟨fun v0R v1I v2I σ => s_Bp_swings_0 C IH v0R v1I v2I σ, fun σ => s_Bp_swings_1 C IH σ⟩
theorem c_Bp_swings (G : GX) (l : Launch) (v0R : Nat) (v1I : Int32) (v2I : Int32) (σ : AM) : CT eI G l 4 y_Bp_swings prog_1_method_33_code 3 ((some FieldType.int)) [.ref v0R, .int v1I, .int v2I] σ (M_Bp_swings v0R v1I v2I σ) := by
  refine ct_of (by decide +kernel) (Nat.le_of_ble_eq_true rfl) (fun p e s m args below meth c C hin => ?_)
  refine x_lve (lv' := [(0, .ref v0R), (1, .int v1I), (2, .int v2I)]) rfl ?_
  intro r σ' h
  obtain ⟨n, hn⟩ := (lp_iff _ _ _).mp h
  exact (i_Bp_swings C n).1 v0R v1I v2I σ r σ' hn
/-! BellPlate.heavy(IZI)I -/
abbrev y_Bp_heavy : MethodName := ⟨"BellPlate", "heavy", "(IZI)I"⟩
theorem k_Bp_heavy : y_Bp_heavy.cls ≠ "java/lang/invoke/MethodHandle" ∧ y_Bp_heavy.cls ≠ "java/lang/invoke/VarHandle" ∧ (parseMethodDescriptor y_Bp_heavy.desc).map (fun d => d.parameters.length) = some 3 := by decide +kernel
theorem d_Bp_heavy_0 : decode prog_1_method_34_code 0 = .ok (.aload_n 0, 1) := by decide +kernel
theorem d_Bp_heavy_1 : decode prog_1_method_34_code 1 = .ok (.getfield 19, 3) := by decide +kernel
theorem d_Bp_heavy_4 : decode prog_1_method_34_code 4 = .ok (.iload_n 1, 1) := by decide +kernel
theorem d_Bp_heavy_5 : decode prog_1_method_34_code 5 = .ok (.invokevirtual 128, 3) := by decide +kernel
theorem d_Bp_heavy_8 : decode prog_1_method_34_code 8 = .ok (.ifCond .eq 12, 3) := by decide +kernel
theorem d_Bp_heavy_11 : decode prog_1_method_34_code 11 = .ok (.iload_n 3, 1) := by decide +kernel
theorem d_Bp_heavy_12 : decode prog_1_method_34_code 12 = .ok (.ifCond .lt 8, 3) := by decide +kernel
theorem d_Bp_heavy_15 : decode prog_1_method_34_code 15 = .ok (.iload_n 3, 1) := by decide +kernel
theorem d_Bp_heavy_16 : decode prog_1_method_34_code 16 = .ok (.iconst 1, 1) := by decide +kernel
theorem d_Bp_heavy_17 : decode prog_1_method_34_code 17 = .ok (.if_icmp .le 5, 3) := by decide +kernel
theorem d_Bp_heavy_20 : decode prog_1_method_34_code 20 = .ok (.iconst (-1), 1) := by decide +kernel
theorem d_Bp_heavy_21 : decode prog_1_method_34_code 21 = .ok (.ireturn, 1) := by decide +kernel
theorem d_Bp_heavy_22 : decode prog_1_method_34_code 22 = .ok (.aload_n 0, 1) := by decide +kernel
theorem d_Bp_heavy_23 : decode prog_1_method_34_code 23 = .ok (.getfield 89, 3) := by decide +kernel
theorem d_Bp_heavy_26 : decode prog_1_method_34_code 26 = .ok (.iload_n 1, 1) := by decide +kernel
theorem d_Bp_heavy_27 : decode prog_1_method_34_code 27 = .ok (.iload_n 2, 1) := by decide +kernel
theorem d_Bp_heavy_28 : decode prog_1_method_34_code 28 = .ok (.invokevirtual 329, 3) := by decide +kernel
theorem d_Bp_heavy_31 : decode prog_1_method_34_code 31 = .ok (.istore 4, 2) := by decide +kernel
theorem d_Bp_heavy_33 : decode prog_1_method_34_code 33 = .ok (.iload 4, 2) := by decide +kernel
theorem d_Bp_heavy_35 : decode prog_1_method_34_code 35 = .ok (.iconst (-1), 1) := by decide +kernel
theorem d_Bp_heavy_36 : decode prog_1_method_34_code 36 = .ok (.if_icmp .eq 7, 3) := by decide +kernel
theorem d_Bp_heavy_39 : decode prog_1_method_34_code 39 = .ok (.iload_n 3, 1) := by decide +kernel
theorem d_Bp_heavy_40 : decode prog_1_method_34_code 40 = .ok (.ifCond .ne 6, 3) := by decide +kernel
theorem d_Bp_heavy_43 : decode prog_1_method_34_code 43 = .ok (.iload 4, 2) := by decide +kernel
theorem d_Bp_heavy_45 : decode prog_1_method_34_code 45 = .ok (.ireturn, 1) := by decide +kernel
theorem d_Bp_heavy_46 : decode prog_1_method_34_code 46 = .ok (.aload_n 0, 1) := by decide +kernel
theorem d_Bp_heavy_47 : decode prog_1_method_34_code 47 = .ok (.getfield 89, 3) := by decide +kernel
theorem d_Bp_heavy_50 : decode prog_1_method_34_code 50 = .ok (.iload 4, 2) := by decide +kernel
theorem d_Bp_heavy_52 : decode prog_1_method_34_code 52 = .ok (.invokevirtual 332, 3) := by decide +kernel
theorem d_Bp_heavy_55 : decode prog_1_method_34_code 55 = .ok (.ireturn, 1) := by decide +kernel
abbrev S_Bp_heavy : Type := Nat × Nat × Int32 × Int32 × Int32 × Int32 × AM
noncomputable def T_Bp_heavy_0 (v0R : Nat) (v1I : Int32) (v2I : Int32) (v3I : Int32) (σ : AM) : S_Bp_heavy ⊕ Option (Int32 × AM) :=
  gdT (okO σ v0R 11) <| gdT (okO σ (aR σ v0R 1) 1) <| bndT (M_Tw_hasWeights (aR σ v0R 1) v1I σ) fun r3 σ4 => if r3 = 0 then (.inl (1, 0, 0, 0, 0, 0, σ4)) else (if v3I < 0 then (.inl (1, 0, 0, 0, 0, 0, σ4)) else (if (1 : Int32) < v3I then (.inl (1, 0, 0, 0, 0, 0, σ4)) else (gdT (okO σ4 v0R 11) <| gdT (okO σ4 (aR σ4 v0R 9) 10) <| bndT (M_Pw_nearest (aR σ4 v0R 9) v1I v2I σ4) fun r7 σ8 => if r7 = ((-1) : Int32) then (.inl (2, 0, 0, 0, 0, r7, σ8)) else (if v3I = 0 then (.inl (2, 0, 0, 0, 0, r7, σ8)) else (gdT (okO σ8 v0R 11) <| gdT (okO σ8 (aR σ8 v0R 9) 10) <| bndT (M_Pw_weightOf (aR σ8 v0R 9) r7 σ8) fun r11 σ12 => .inr (some (r11, σ12)))))))
noncomputable def T_Bp_heavy_1  (σ : AM) : S_Bp_heavy ⊕ Option (Int32 × AM) :=
  .inr (some (((-1) : Int32), σ))
noncomputable def T_Bp_heavy_2 (v4I : Int32) (σ : AM) : S_Bp_heavy ⊕ Option (Int32 × AM) :=
  .inr (some (v4I, σ))
noncomputable def F_Bp_heavy : S_Bp_heavy → S_Bp_heavy ⊕ Option (Int32 × AM) := fun s => match s.1 with
  | 0 => T_Bp_heavy_0 (s.2.1) (s.2.2.1) (s.2.2.2.1) (s.2.2.2.2.1) (s.2.2.2.2.2.2)
  | 1 => T_Bp_heavy_1  (s.2.2.2.2.2.2)
  | _ => T_Bp_heavy_2 (s.2.2.2.2.2.1) (s.2.2.2.2.2.2)
noncomputable def L_Bp_heavy_0 (v0R : Nat) (v1I : Int32) (v2I : Int32) (v3I : Int32) (σ : AM) : Option (Int32 × AM) := lp F_Bp_heavy (0, v0R, v1I, v2I, v3I, 0, σ)
noncomputable def L_Bp_heavy_1  (σ : AM) : Option (Int32 × AM) := lp F_Bp_heavy (1, 0, 0, 0, 0, 0, σ)
noncomputable def L_Bp_heavy_2 (v4I : Int32) (σ : AM) : Option (Int32 × AM) := lp F_Bp_heavy (2, 0, 0, 0, 0, v4I, σ)
set_option maxRecDepth 20000 in
theorem E_Bp_heavy_0 (v0R : Nat) (v1I : Int32) (v2I : Int32) (v3I : Int32) (σ : AM) : L_Bp_heavy_0 v0R v1I v2I v3I σ = (gd (okO σ v0R 11) <| gd (okO σ (aR σ v0R 1) 1) <| bnd (M_Tw_hasWeights (aR σ v0R 1) v1I σ) fun r3 σ4 => if r3 = 0 then (L_Bp_heavy_1 σ4) else (if v3I < 0 then (L_Bp_heavy_1 σ4) else (if (1 : Int32) < v3I then (L_Bp_heavy_1 σ4) else (gd (okO σ4 v0R 11) <| gd (okO σ4 (aR σ4 v0R 9) 10) <| bnd (M_Pw_nearest (aR σ4 v0R 9) v1I v2I σ4) fun r7 σ8 => if r7 = ((-1) : Int32) then (L_Bp_heavy_2 r7 σ8) else (if v3I = 0 then (L_Bp_heavy_2 r7 σ8) else (gd (okO σ8 v0R 11) <| gd (okO σ8 (aR σ8 v0R 9) 10) <| bnd (M_Pw_weightOf (aR σ8 v0R 9) r7 σ8) fun r11 σ12 => (some (r11, σ12)))))))) := by
  unfold L_Bp_heavy_0
  rw [lp_eq]
  show lpK (lp F_Bp_heavy) (T_Bp_heavy_0 v0R v1I v2I v3I σ) = _
  unfold T_Bp_heavy_0
  simp only [lpK_ite, lq_inl, lq_inr, lpK_bnd, lpK_gd, lq_let]
  try rfl
set_option maxRecDepth 20000 in
theorem E_Bp_heavy_1  (σ : AM) : L_Bp_heavy_1  σ = ((some (((-1) : Int32), σ))) := by
  unfold L_Bp_heavy_1
  rw [lp_eq]
  show lpK (lp F_Bp_heavy) (T_Bp_heavy_1  σ) = _
  unfold T_Bp_heavy_1
  simp only [lpK_ite, lq_inl, lq_inr, lpK_bnd, lpK_gd, lq_let]
  try rfl
set_option maxRecDepth 20000 in
theorem E_Bp_heavy_2 (v4I : Int32) (σ : AM) : L_Bp_heavy_2 v4I σ = ((some (v4I, σ))) := by
  unfold L_Bp_heavy_2
  rw [lp_eq]
  show lpK (lp F_Bp_heavy) (T_Bp_heavy_2 v4I σ) = _
  unfold T_Bp_heavy_2
  simp only [lpK_ite, lq_inl, lq_inr, lpK_bnd, lpK_gd, lq_let]
  try rfl
noncomputable def M_Bp_heavy (v0R : Nat) (v1I : Int32) (v2I : Int32) (v3I : Int32) (σ : AM) : Option (Int32 × AM) := mw σ (L_Bp_heavy_0 v0R v1I v2I v3I σ)
def I_Bp_heavy (G : GX) (p : Program) (l : Launch) (e : Env) (s : State) (m : MethodId) (args : Array Value) (below : List Frame) (meth : Method) (c : Code) (z0 u0 n : Nat) : Prop :=
  (∀ (v0R : Nat) (v1I : Int32) (v2I : Int32) (v3I : Int32) (σ : AM), VX (QM eI G args s below z0 u0) G p l e s m args below meth c 4 z0 u0 5 (lpn F_Bp_heavy n (0, v0R, v1I, v2I, v3I, 0, σ)) 0 [(0, .ref v0R), (1, .int v1I), (2, .int v2I), (3, .int v3I)] [] σ) ∧
  (∀ (σ : AM), VX (QM eI G args s below z0 u0) G p l e s m args below meth c 4 z0 u0 5 (lpn F_Bp_heavy n (1, 0, 0, 0, 0, 0, σ)) 20 [] [] σ) ∧
  (∀ (v4I : Int32) (σ : AM), VX (QM eI G args s below z0 u0) G p l e s m args below meth c 4 z0 u0 5 (lpn F_Bp_heavy n (2, 0, 0, 0, 0, v4I, σ)) 43 [(4, .int v4I)] [] σ)
set_option maxRecDepth 20000 in
theorem s_Bp_heavy_0 {G : GX} {p : Program} {l : Launch} {e : Env} {s : State} {m : MethodId} {args : Array Value} {below : List Frame} {meth : Method} {c : Code} {z0 u0 n : Nat} (C : Cx G p s m args meth c prog_1_method_34_code 5 "BellPlate" ((some FieldType.int))) (IH : I_Bp_heavy G p l e s m args below meth c z0 u0 n) (v0R : Nat) (v1I : Int32) (v2I : Int32) (v3I : Int32) (σ : AM) : VX (QM eI G args s below z0 u0) G p l e s m args below meth c 4 z0 u0 5 (lpK (lpn F_Bp_heavy n) (T_Bp_heavy_0 v0R v1I v2I v3I σ)) 0 [(0, .ref v0R), (1, .int v1I), (2, .int v2I), (3, .int v3I)] [] σ := by
  unfold T_Bp_heavy_0
  refine x_aload_n C d_Bp_heavy_0 0 rfl ?_
  refine x_gd (fun h1 => ?_)
  refine x_gd (fun h2 => ?_)
  refine x_getR (k := 1) (kv := 1) C (okO_iff.mp h1) rfl j10_ok (by decide) rfl (okO_iff.mp h2) (by decide) w691 d_Bp_heavy_1 ?_
  refine x_iload_n C d_Bp_heavy_4 1 rfl ?_
  refine x_callVI (As := [.int v1I]) C (c_Tw_hasWeights G l (aR σ v0R 1) v1I σ) (okO_iff.mp h2) rfl w978 w979 w977 w980 w122 k_Tw_hasWeights rfl (by decide) (by decide) rfl (Nat.le_of_ble_eq_true rfl) d_Bp_heavy_5 (fun r3 σ4 => ?_)
  refine x_if_eq (tgt := 20) C d_Bp_heavy_8 (by decide) (fun _ => ?_) (fun _ => ?_)
  · refine x_lv [] rfl ?_
    exact IH.2.1  (σ4)
  · refine x_iload_n C d_Bp_heavy_11 3 rfl ?_
    refine x_if_lt (tgt := 20) C d_Bp_heavy_12 (by decide) (fun _ => ?_) (fun _ => ?_)
    · refine x_lv [] rfl ?_
      exact IH.2.1  (σ4)
    · refine x_iload_n C d_Bp_heavy_15 3 rfl ?_
      refine x_iconst (v := (1 : Int32)) C d_Bp_heavy_16 (by decide) ?_
      refine x_icmp_le (tgt := 22) C d_Bp_heavy_17 (by decide) (fun _ => ?_) (fun _ => ?_)
      · refine x_lv [] rfl ?_
        exact IH.2.1  (σ4)
      · refine x_aload_n C d_Bp_heavy_22 0 rfl ?_
        refine x_gd (fun h5 => ?_)
        refine x_gd (fun h6 => ?_)
        refine x_getR (k := 9) (kv := 10) C (okO_iff.mp h5) rfl j10_ok (by decide) rfl (okO_iff.mp h6) (by decide) w699 d_Bp_heavy_23 ?_
        refine x_iload_n C d_Bp_heavy_26 1 rfl ?_
        refine x_iload_n C d_Bp_heavy_27 2 rfl ?_
        refine x_callVI (As := [.int v1I, .int v2I]) C (c_Pw_nearest G l (aR σ4 v0R 9) v1I v2I σ4) (okO_iff.mp h6) rfl w1577 w1578 w1576 w1579 w131 k_Pw_nearest rfl (by decide) (by decide) rfl (Nat.le_of_ble_eq_true rfl) d_Bp_heavy_28 (fun r7 σ8 => ?_)
        refine x_istore (lv' := [(4, .int r7), (0, .ref v0R), (1, .int v1I), (2, .int v2I), (3, .int v3I)]) C d_Bp_heavy_31 (by decide) rfl ?_
        refine x_iload C d_Bp_heavy_33 0 rfl ?_
        refine x_iconst (v := ((-1) : Int32)) C d_Bp_heavy_35 (by decide) ?_
        refine x_icmp_eq (tgt := 43) C d_Bp_heavy_36 (by decide) (fun _ => ?_) (fun _ => ?_)
        · refine x_lv [0] rfl ?_
          exact IH.2.2 r7 (σ8)
        · refine x_iload_n C d_Bp_heavy_39 4 rfl ?_
          refine x_if_ne (tgt := 46) C d_Bp_heavy_40 (by decide) (fun _ => ?_) (fun _ => ?_)
          · refine x_lv [0] rfl ?_
            exact IH.2.2 r7 (σ8)
          · refine x_aload_n C d_Bp_heavy_46 1 rfl ?_
            refine x_gd (fun h9 => ?_)
            refine x_gd (fun h10 => ?_)
            refine x_getR (k := 9) (kv := 10) C (okO_iff.mp h9) rfl j10_ok (by decide) rfl (okO_iff.mp h10) (by decide) w699 d_Bp_heavy_47 ?_
            refine x_iload C d_Bp_heavy_50 0 rfl ?_
            refine x_callVI (As := [.int r7]) C (c_Pw_weightOf G l (aR σ8 v0R 9) r7 σ8) (okO_iff.mp h10) rfl w1593 w1594 w1592 w1595 w131 k_Pw_weightOf rfl (by decide) (by decide) rfl (Nat.le_of_ble_eq_true rfl) d_Bp_heavy_52 (fun r11 σ12 => ?_)
            exact x_iret C d_Bp_heavy_55
set_option maxRecDepth 20000 in
theorem s_Bp_heavy_1 {G : GX} {p : Program} {l : Launch} {e : Env} {s : State} {m : MethodId} {args : Array Value} {below : List Frame} {meth : Method} {c : Code} {z0 u0 n : Nat} (C : Cx G p s m args meth c prog_1_method_34_code 5 "BellPlate" ((some FieldType.int))) (IH : I_Bp_heavy G p l e s m args below meth c z0 u0 n)  (σ : AM) : VX (QM eI G args s below z0 u0) G p l e s m args below meth c 4 z0 u0 5 (lpK (lpn F_Bp_heavy n) (T_Bp_heavy_1  σ)) 20 [] [] σ := by
  unfold T_Bp_heavy_1
  refine x_iconst (v := ((-1) : Int32)) C d_Bp_heavy_20 (by decide) ?_
  exact x_iret C d_Bp_heavy_21
set_option maxRecDepth 20000 in
theorem s_Bp_heavy_2 {G : GX} {p : Program} {l : Launch} {e : Env} {s : State} {m : MethodId} {args : Array Value} {below : List Frame} {meth : Method} {c : Code} {z0 u0 n : Nat} (C : Cx G p s m args meth c prog_1_method_34_code 5 "BellPlate" ((some FieldType.int))) (IH : I_Bp_heavy G p l e s m args below meth c z0 u0 n) (v4I : Int32) (σ : AM) : VX (QM eI G args s below z0 u0) G p l e s m args below meth c 4 z0 u0 5 (lpK (lpn F_Bp_heavy n) (T_Bp_heavy_2 v4I σ)) 43 [(4, .int v4I)] [] σ := by
  unfold T_Bp_heavy_2
  refine x_iload C d_Bp_heavy_43 0 rfl ?_
  exact x_iret C d_Bp_heavy_45
theorem i_Bp_heavy {G : GX} {p : Program} {l : Launch} {e : Env} {s : State} {m : MethodId} {args : Array Value} {below : List Frame} {meth : Method} {c : Code} {z0 u0 : Nat} (C : Cx G p s m args meth c prog_1_method_34_code 5 "BellPlate" ((some FieldType.int))) (n : Nat) : I_Bp_heavy G p l e s m args below meth c z0 u0 n := by
  induction n with
  | zero => exact ⟨fun _ _ _ _ _ => x_none, fun _ => x_none, fun _ _ => x_none⟩
  | succ n IH => exact ⟨fun v0R v1I v2I v3I σ => s_Bp_heavy_0 C IH v0R v1I v2I v3I σ, fun σ => s_Bp_heavy_1 C IH σ, fun v4I σ => s_Bp_heavy_2 C IH v4I σ⟩
theorem c_Bp_heavy (G : GX) (l : Launch) (v0R : Nat) (v1I : Int32) (v2I : Int32) (v3I : Int32) (σ : AM) : CT eI G l 4 y_Bp_heavy prog_1_method_34_code 5 ((some FieldType.int)) [.ref v0R, .int v1I, .int v2I, .int v3I] σ (M_Bp_heavy v0R v1I v2I v3I σ) := by
  refine ct_of (by decide +kernel) (Nat.le_of_ble_eq_true rfl) (fun p e s m args below meth c C hin => ?_)
  refine x_lve (lv' := [(0, .ref v0R), (1, .int v1I), (2, .int v2I), (3, .int v3I)]) rfl ?_
  intro r σ' h
  obtain ⟨n, hn⟩ := (lp_iff _ _ _).mp h
  exact (i_Bp_heavy C n).1 v0R v1I v2I v3I σ r σ' hn
/-! BellPlate.leastSet(II)I -/
abbrev y_Bp_leastSet : MethodName := ⟨"BellPlate", "leastSet", "(II)I"⟩
theorem k_Bp_leastSet : y_Bp_leastSet.cls ≠ "java/lang/invoke/MethodHandle" ∧ y_Bp_leastSet.cls ≠ "java/lang/invoke/VarHandle" ∧ (parseMethodDescriptor y_Bp_leastSet.desc).map (fun d => d.parameters.length) = some 2 := by decide +kernel
theorem d_Bp_leastSet_0 : decode prog_1_method_35_code 0 = .ok (.aload_n 0, 1) := by decide +kernel
theorem d_Bp_leastSet_1 : decode prog_1_method_35_code 1 = .ok (.getfield 19, 3) := by decide +kernel
theorem d_Bp_leastSet_4 : decode prog_1_method_35_code 4 = .ok (.iload_n 1, 1) := by decide +kernel
theorem d_Bp_leastSet_5 : decode prog_1_method_35_code 5 = .ok (.invokevirtual 128, 3) := by decide +kernel
theorem d_Bp_leastSet_8 : decode prog_1_method_35_code 8 = .ok (.ifCond .ne 5, 3) := by decide +kernel
theorem d_Bp_leastSet_11 : decode prog_1_method_35_code 11 = .ok (.iconst (-1), 1) := by decide +kernel
theorem d_Bp_leastSet_12 : decode prog_1_method_35_code 12 = .ok (.ireturn, 1) := by decide +kernel
theorem d_Bp_leastSet_13 : decode prog_1_method_35_code 13 = .ok (.aload_n 0, 1) := by decide +kernel
theorem d_Bp_leastSet_14 : decode prog_1_method_35_code 14 = .ok (.getfield 28, 3) := by decide +kernel
theorem d_Bp_leastSet_17 : decode prog_1_method_35_code 17 = .ok (.iload_n 1, 1) := by decide +kernel
theorem d_Bp_leastSet_18 : decode prog_1_method_35_code 18 = .ok (.invokevirtual 136, 3) := by decide +kernel
theorem d_Bp_leastSet_21 : decode prog_1_method_35_code 21 = .ok (.invokestatic 335, 3) := by decide +kernel
theorem d_Bp_leastSet_24 : decode prog_1_method_35_code 24 = .ok (.lstore_n 3, 1) := by decide +kernel
theorem d_Bp_leastSet_25 : decode prog_1_method_35_code 25 = .ok (.iload_n 2, 1) := by decide +kernel
theorem d_Bp_leastSet_26 : decode prog_1_method_35_code 26 = .ok (.iconst (-1), 1) := by decide +kernel
theorem d_Bp_leastSet_27 : decode prog_1_method_35_code 27 = .ok (.if_icmp .ne 10, 3) := by decide +kernel
theorem d_Bp_leastSet_30 : decode prog_1_method_35_code 30 = .ok (.lload_n 3, 1) := by decide +kernel
theorem d_Bp_leastSet_31 : decode prog_1_method_35_code 31 = .ok (.invokestatic 323, 3) := by decide +kernel
theorem d_Bp_leastSet_34 : decode prog_1_method_35_code 34 = .ok (.goto 8, 3) := by decide +kernel
theorem d_Bp_leastSet_37 : decode prog_1_method_35_code 37 = .ok (.lload_n 3, 1) := by decide +kernel
theorem d_Bp_leastSet_38 : decode prog_1_method_35_code 38 = .ok (.iload_n 2, 1) := by decide +kernel
theorem d_Bp_leastSet_39 : decode prog_1_method_35_code 39 = .ok (.invokestatic 339, 3) := by decide +kernel
theorem d_Bp_leastSet_42 : decode prog_1_method_35_code 42 = .ok (.ireturn, 1) := by decide +kernel
abbrev S_Bp_leastSet : Type := Nat × Nat × Int32 × Int32 × Int32 × AM
noncomputable def T_Bp_leastSet_0 (v0R : Nat) (v1I : Int32) (v2I : Int32) (σ : AM) : S_Bp_leastSet ⊕ Option (Int32 × AM) :=
  gdT (okO σ v0R 11) <| gdT (okO σ (aR σ v0R 1) 1) <| bndT (M_Tw_hasWeights (aR σ v0R 1) v1I σ) fun r3 σ4 => if r3 = 0 then (.inr (some (((-1) : Int32), σ4))) else (gdT (okO σ4 v0R 11) <| gdT (okO σ4 (aR σ4 v0R 2) 3) <| bndT (M_Ls_listOf (aR σ4 v0R 2) v1I σ4) fun r7 σ8 => bndT (M_St_leastOf r7 σ8) fun r9 σ10 => if v2I = ((-1) : Int32) then (bndT (M_JLong_bitCount r9 σ10) fun r11 σ12 => .inl (1, 0, 0, 0, r11, σ12)) else (bndT (M_St_ith r9 v2I σ10) fun r13 σ14 => .inl (1, 0, 0, 0, r13, σ14)))
noncomputable def T_Bp_leastSet_1 (s0I : Int32) (σ : AM) : S_Bp_leastSet ⊕ Option (Int32 × AM) :=
  .inr (some (s0I, σ))
noncomputable def F_Bp_leastSet : S_Bp_leastSet → S_Bp_leastSet ⊕ Option (Int32 × AM) := fun s => match s.1 with
  | 0 => T_Bp_leastSet_0 (s.2.1) (s.2.2.1) (s.2.2.2.1) (s.2.2.2.2.2)
  | _ => T_Bp_leastSet_1 (s.2.2.2.2.1) (s.2.2.2.2.2)
noncomputable def L_Bp_leastSet_0 (v0R : Nat) (v1I : Int32) (v2I : Int32) (σ : AM) : Option (Int32 × AM) := lp F_Bp_leastSet (0, v0R, v1I, v2I, 0, σ)
noncomputable def L_Bp_leastSet_1 (s0I : Int32) (σ : AM) : Option (Int32 × AM) := lp F_Bp_leastSet (1, 0, 0, 0, s0I, σ)
set_option maxRecDepth 20000 in
theorem E_Bp_leastSet_0 (v0R : Nat) (v1I : Int32) (v2I : Int32) (σ : AM) : L_Bp_leastSet_0 v0R v1I v2I σ = (gd (okO σ v0R 11) <| gd (okO σ (aR σ v0R 1) 1) <| bnd (M_Tw_hasWeights (aR σ v0R 1) v1I σ) fun r3 σ4 => if r3 = 0 then ((some (((-1) : Int32), σ4))) else (gd (okO σ4 v0R 11) <| gd (okO σ4 (aR σ4 v0R 2) 3) <| bnd (M_Ls_listOf (aR σ4 v0R 2) v1I σ4) fun r7 σ8 => bnd (M_St_leastOf r7 σ8) fun r9 σ10 => if v2I = ((-1) : Int32) then (bnd (M_JLong_bitCount r9 σ10) fun r11 σ12 => L_Bp_leastSet_1 r11 σ12) else (bnd (M_St_ith r9 v2I σ10) fun r13 σ14 => L_Bp_leastSet_1 r13 σ14))) := by
  unfold L_Bp_leastSet_0
  rw [lp_eq]
  show lpK (lp F_Bp_leastSet) (T_Bp_leastSet_0 v0R v1I v2I σ) = _
  unfold T_Bp_leastSet_0
  simp only [lpK_ite, lq_inl, lq_inr, lpK_bnd, lpK_gd, lq_let]
  try rfl
set_option maxRecDepth 20000 in
theorem E_Bp_leastSet_1 (s0I : Int32) (σ : AM) : L_Bp_leastSet_1 s0I σ = ((some (s0I, σ))) := by
  unfold L_Bp_leastSet_1
  rw [lp_eq]
  show lpK (lp F_Bp_leastSet) (T_Bp_leastSet_1 s0I σ) = _
  unfold T_Bp_leastSet_1
  simp only [lpK_ite, lq_inl, lq_inr, lpK_bnd, lpK_gd, lq_let]
  try rfl
noncomputable def M_Bp_leastSet (v0R : Nat) (v1I : Int32) (v2I : Int32) (σ : AM) : Option (Int32 × AM) := mw σ (L_Bp_leastSet_0 v0R v1I v2I σ)
def I_Bp_leastSet (G : GX) (p : Program) (l : Launch) (e : Env) (s : State) (m : MethodId) (args : Array Value) (below : List Frame) (meth : Method) (c : Code) (z0 u0 n : Nat) : Prop :=
  (∀ (v0R : Nat) (v1I : Int32) (v2I : Int32) (σ : AM), VX (QM eI G args s below z0 u0) G p l e s m args below meth c 4 z0 u0 5 (lpn F_Bp_leastSet n (0, v0R, v1I, v2I, 0, σ)) 0 [(0, .ref v0R), (1, .int v1I), (2, .int v2I)] [] σ) ∧
  (∀ (s0I : Int32) (σ : AM), VX (QM eI G args s below z0 u0) G p l e s m args below meth c 4 z0 u0 5 (lpn F_Bp_leastSet n (1, 0, 0, 0, s0I, σ)) 42 [] [.int s0I] σ)
set_option maxRecDepth 20000 in
theorem s_Bp_leastSet_0 {G : GX} {p : Program} {l : Launch} {e : Env} {s : State} {m : MethodId} {args : Array Value} {below : List Frame} {meth : Method} {c : Code} {z0 u0 n : Nat} (C : Cx G p s m args meth c prog_1_method_35_code 5 "BellPlate" ((some FieldType.int))) (IH : I_Bp_leastSet G p l e s m args below meth c z0 u0 n) (v0R : Nat) (v1I : Int32) (v2I : Int32) (σ : AM) : VX (QM eI G args s below z0 u0) G p l e s m args below meth c 4 z0 u0 5 (lpK (lpn F_Bp_leastSet n) (T_Bp_leastSet_0 v0R v1I v2I σ)) 0 [(0, .ref v0R), (1, .int v1I), (2, .int v2I)] [] σ := by
  unfold T_Bp_leastSet_0
  refine x_aload_n C d_Bp_leastSet_0 0 rfl ?_
  refine x_gd (fun h1 => ?_)
  refine x_gd (fun h2 => ?_)
  refine x_getR (k := 1) (kv := 1) C (okO_iff.mp h1) rfl j10_ok (by decide) rfl (okO_iff.mp h2) (by decide) w691 d_Bp_leastSet_1 ?_
  refine x_iload_n C d_Bp_leastSet_4 1 rfl ?_
  refine x_callVI (As := [.int v1I]) C (c_Tw_hasWeights G l (aR σ v0R 1) v1I σ) (okO_iff.mp h2) rfl w978 w979 w977 w980 w122 k_Tw_hasWeights rfl (by decide) (by decide) rfl (Nat.le_of_ble_eq_true rfl) d_Bp_leastSet_5 (fun r3 σ4 => ?_)
  refine x_if_ne (tgt := 13) C d_Bp_leastSet_8 (by decide) (fun _ => ?_) (fun _ => ?_)
  · refine x_iconst (v := ((-1) : Int32)) C d_Bp_leastSet_11 (by decide) ?_
    exact x_iret C d_Bp_leastSet_12
  · refine x_aload_n C d_Bp_leastSet_13 0 rfl ?_
    refine x_gd (fun h5 => ?_)
    refine x_gd (fun h6 => ?_)
    refine x_getR (k := 2) (kv := 3) C (okO_iff.mp h5) rfl j10_ok (by decide) rfl (okO_iff.mp h6) (by decide) w692 d_Bp_leastSet_14 ?_
    refine x_iload_n C d_Bp_leastSet_17 1 rfl ?_
    refine x_callVJ (As := [.int v1I]) C (c_Ls_listOf G l (aR σ4 v0R 2) v1I σ4) (okO_iff.mp h6) rfl w991 w992 w990 w993 w123 k_Ls_listOf rfl (by decide) (by decide) rfl (Nat.le_of_ble_eq_true rfl) d_Bp_leastSet_18 (fun r7 σ8 => ?_)
    refine x_callSJ (As := [.long r7]) C (c_St_leastOf G l r7 σ8) w1327 w1600 w1328 w141 k_St_leastOf rfl (by decide) (by decide) rfl (Nat.le_of_ble_eq_true rfl) d_Bp_leastSet_21 (fun r9 σ10 => ?_)
    refine x_lstore_n (lv' := [(3, .long r9), (0, .ref v0R), (1, .int v1I), (2, .int v2I)]) C d_Bp_leastSet_24 (by decide) rfl rfl ?_
    refine x_iload_n C d_Bp_leastSet_25 3 rfl ?_
    refine x_iconst (v := ((-1) : Int32)) C d_Bp_leastSet_26 (by decide) ?_
    refine x_icmp_ne (tgt := 37) C d_Bp_leastSet_27 (by decide) (fun _ => ?_) (fun _ => ?_)
    · refine x_lload_n C d_Bp_leastSet_30 0 rfl ?_
      refine x_callSI (As := [.long r9]) C (c_JLong_bitCount G l r9 σ10) w1066 w1571 w1067 w142 k_JLong_bitCount rfl (by decide) (by decide) rfl (Nat.le_of_ble_eq_true rfl) d_Bp_leastSet_31 (fun r11 σ12 => ?_)
      refine x_goto (tgt := 42) C d_Bp_leastSet_34 (by decide) ?_
      refine x_lv [] rfl ?_
      exact IH.2 r11 (σ12)
    · refine x_lload_n C d_Bp_leastSet_37 0 rfl ?_
      refine x_iload_n C d_Bp_leastSet_38 3 rfl ?_
      refine x_callSI (As := [.long r9, .int v2I]) C (c_St_ith G l r9 v2I σ10) w1602 w1601 w1603 w141 k_St_ith rfl (by decide) (by decide) rfl (Nat.le_of_ble_eq_true rfl) d_Bp_leastSet_39 (fun r13 σ14 => ?_)
      refine x_lv [] rfl ?_
      exact IH.2 r13 (σ14)
set_option maxRecDepth 20000 in
theorem s_Bp_leastSet_1 {G : GX} {p : Program} {l : Launch} {e : Env} {s : State} {m : MethodId} {args : Array Value} {below : List Frame} {meth : Method} {c : Code} {z0 u0 n : Nat} (C : Cx G p s m args meth c prog_1_method_35_code 5 "BellPlate" ((some FieldType.int))) (IH : I_Bp_leastSet G p l e s m args below meth c z0 u0 n) (s0I : Int32) (σ : AM) : VX (QM eI G args s below z0 u0) G p l e s m args below meth c 4 z0 u0 5 (lpK (lpn F_Bp_leastSet n) (T_Bp_leastSet_1 s0I σ)) 42 [] [.int s0I] σ := by
  unfold T_Bp_leastSet_1
  exact x_iret C d_Bp_leastSet_42
theorem i_Bp_leastSet {G : GX} {p : Program} {l : Launch} {e : Env} {s : State} {m : MethodId} {args : Array Value} {below : List Frame} {meth : Method} {c : Code} {z0 u0 : Nat} (C : Cx G p s m args meth c prog_1_method_35_code 5 "BellPlate" ((some FieldType.int))) (n : Nat) : I_Bp_leastSet G p l e s m args below meth c z0 u0 n := by
  induction n with
  | zero => exact ⟨fun _ _ _ _ => x_none, fun _ _ => x_none⟩
  | succ n IH => exact ⟨fun v0R v1I v2I σ => s_Bp_leastSet_0 C IH v0R v1I v2I σ, fun s0I σ => s_Bp_leastSet_1 C IH s0I σ⟩
theorem c_Bp_leastSet (G : GX) (l : Launch) (v0R : Nat) (v1I : Int32) (v2I : Int32) (σ : AM) : CT eI G l 4 y_Bp_leastSet prog_1_method_35_code 5 ((some FieldType.int)) [.ref v0R, .int v1I, .int v2I] σ (M_Bp_leastSet v0R v1I v2I σ) := by
  refine ct_of (by decide +kernel) (Nat.le_of_ble_eq_true rfl) (fun p e s m args below meth c C hin => ?_)
  refine x_lve (lv' := [(0, .ref v0R), (1, .int v1I), (2, .int v2I)]) rfl ?_
  intro r σ' h
  obtain ⟨n, hn⟩ := (lp_iff _ _ _).mp h
  exact (i_Bp_leastSet C n).1 v0R v1I v2I σ r σ' hn
/-! BellPlate.vetoes(I)I -/
abbrev y_Bp_vetoes : MethodName := ⟨"BellPlate", "vetoes", "(I)I"⟩
theorem k_Bp_vetoes : y_Bp_vetoes.cls ≠ "java/lang/invoke/MethodHandle" ∧ y_Bp_vetoes.cls ≠ "java/lang/invoke/VarHandle" ∧ (parseMethodDescriptor y_Bp_vetoes.desc).map (fun d => d.parameters.length) = some 1 := by decide +kernel
theorem d_Bp_vetoes_0 : decode prog_1_method_36_code 0 = .ok (.aload_n 0, 1) := by decide +kernel
theorem d_Bp_vetoes_1 : decode prog_1_method_36_code 1 = .ok (.getfield 19, 3) := by decide +kernel
theorem d_Bp_vetoes_4 : decode prog_1_method_36_code 4 = .ok (.iload_n 1, 1) := by decide +kernel
theorem d_Bp_vetoes_5 : decode prog_1_method_36_code 5 = .ok (.invokevirtual 128, 3) := by decide +kernel
theorem d_Bp_vetoes_8 : decode prog_1_method_36_code 8 = .ok (.ifCond .eq 14, 3) := by decide +kernel
theorem d_Bp_vetoes_11 : decode prog_1_method_36_code 11 = .ok (.aload_n 0, 1) := by decide +kernel
theorem d_Bp_vetoes_12 : decode prog_1_method_36_code 12 = .ok (.getfield 89, 3) := by decide +kernel
theorem d_Bp_vetoes_15 : decode prog_1_method_36_code 15 = .ok (.iload_n 1, 1) := by decide +kernel
theorem d_Bp_vetoes_16 : decode prog_1_method_36_code 16 = .ok (.invokevirtual 343, 3) := by decide +kernel
theorem d_Bp_vetoes_19 : decode prog_1_method_36_code 19 = .ok (.goto 4, 3) := by decide +kernel
theorem d_Bp_vetoes_22 : decode prog_1_method_36_code 22 = .ok (.iconst (-1), 1) := by decide +kernel
theorem d_Bp_vetoes_23 : decode prog_1_method_36_code 23 = .ok (.ireturn, 1) := by decide +kernel
abbrev S_Bp_vetoes : Type := Nat × Nat × Int32 × Int32 × AM
noncomputable def T_Bp_vetoes_0 (v0R : Nat) (v1I : Int32) (σ : AM) : S_Bp_vetoes ⊕ Option (Int32 × AM) :=
  gdT (okO σ v0R 11) <| gdT (okO σ (aR σ v0R 1) 1) <| bndT (M_Tw_hasWeights (aR σ v0R 1) v1I σ) fun r3 σ4 => if r3 = 0 then (.inl (1, 0, 0, ((-1) : Int32), σ4)) else (gdT (okO σ4 v0R 11) <| gdT (okO σ4 (aR σ4 v0R 9) 10) <| bndT (M_Pw_inAllThatRing (aR σ4 v0R 9) v1I σ4) fun r7 σ8 => .inl (1, 0, 0, r7, σ8))
noncomputable def T_Bp_vetoes_1 (s0I : Int32) (σ : AM) : S_Bp_vetoes ⊕ Option (Int32 × AM) :=
  .inr (some (s0I, σ))
noncomputable def F_Bp_vetoes : S_Bp_vetoes → S_Bp_vetoes ⊕ Option (Int32 × AM) := fun s => match s.1 with
  | 0 => T_Bp_vetoes_0 (s.2.1) (s.2.2.1) (s.2.2.2.2)
  | _ => T_Bp_vetoes_1 (s.2.2.2.1) (s.2.2.2.2)
noncomputable def L_Bp_vetoes_0 (v0R : Nat) (v1I : Int32) (σ : AM) : Option (Int32 × AM) := lp F_Bp_vetoes (0, v0R, v1I, 0, σ)
noncomputable def L_Bp_vetoes_1 (s0I : Int32) (σ : AM) : Option (Int32 × AM) := lp F_Bp_vetoes (1, 0, 0, s0I, σ)
set_option maxRecDepth 20000 in
theorem E_Bp_vetoes_0 (v0R : Nat) (v1I : Int32) (σ : AM) : L_Bp_vetoes_0 v0R v1I σ = (gd (okO σ v0R 11) <| gd (okO σ (aR σ v0R 1) 1) <| bnd (M_Tw_hasWeights (aR σ v0R 1) v1I σ) fun r3 σ4 => if r3 = 0 then (L_Bp_vetoes_1 (((-1) : Int32)) σ4) else (gd (okO σ4 v0R 11) <| gd (okO σ4 (aR σ4 v0R 9) 10) <| bnd (M_Pw_inAllThatRing (aR σ4 v0R 9) v1I σ4) fun r7 σ8 => L_Bp_vetoes_1 r7 σ8)) := by
  unfold L_Bp_vetoes_0
  rw [lp_eq]
  show lpK (lp F_Bp_vetoes) (T_Bp_vetoes_0 v0R v1I σ) = _
  unfold T_Bp_vetoes_0
  simp only [lpK_ite, lq_inl, lq_inr, lpK_bnd, lpK_gd, lq_let]
  try rfl
set_option maxRecDepth 20000 in
theorem E_Bp_vetoes_1 (s0I : Int32) (σ : AM) : L_Bp_vetoes_1 s0I σ = ((some (s0I, σ))) := by
  unfold L_Bp_vetoes_1
  rw [lp_eq]
  show lpK (lp F_Bp_vetoes) (T_Bp_vetoes_1 s0I σ) = _
  unfold T_Bp_vetoes_1
  simp only [lpK_ite, lq_inl, lq_inr, lpK_bnd, lpK_gd, lq_let]
  try rfl
noncomputable def M_Bp_vetoes (v0R : Nat) (v1I : Int32) (σ : AM) : Option (Int32 × AM) := mw σ (L_Bp_vetoes_0 v0R v1I σ)
def I_Bp_vetoes (G : GX) (p : Program) (l : Launch) (e : Env) (s : State) (m : MethodId) (args : Array Value) (below : List Frame) (meth : Method) (c : Code) (z0 u0 n : Nat) : Prop :=
  (∀ (v0R : Nat) (v1I : Int32) (σ : AM), VX (QM eI G args s below z0 u0) G p l e s m args below meth c 5 z0 u0 2 (lpn F_Bp_vetoes n (0, v0R, v1I, 0, σ)) 0 [(0, .ref v0R), (1, .int v1I)] [] σ) ∧
  (∀ (s0I : Int32) (σ : AM), VX (QM eI G args s below z0 u0) G p l e s m args below meth c 5 z0 u0 2 (lpn F_Bp_vetoes n (1, 0, 0, s0I, σ)) 23 [] [.int s0I] σ)
set_option maxRecDepth 20000 in
theorem s_Bp_vetoes_0 {G : GX} {p : Program} {l : Launch} {e : Env} {s : State} {m : MethodId} {args : Array Value} {below : List Frame} {meth : Method} {c : Code} {z0 u0 n : Nat} (C : Cx G p s m args meth c prog_1_method_36_code 2 "BellPlate" ((some FieldType.int))) (IH : I_Bp_vetoes G p l e s m args below meth c z0 u0 n) (v0R : Nat) (v1I : Int32) (σ : AM) : VX (QM eI G args s below z0 u0) G p l e s m args below meth c 5 z0 u0 2 (lpK (lpn F_Bp_vetoes n) (T_Bp_vetoes_0 v0R v1I σ)) 0 [(0, .ref v0R), (1, .int v1I)] [] σ := by
  unfold T_Bp_vetoes_0
  refine x_aload_n C d_Bp_vetoes_0 0 rfl ?_
  refine x_gd (fun h1 => ?_)
  refine x_gd (fun h2 => ?_)
  refine x_getR (k := 1) (kv := 1) C (okO_iff.mp h1) rfl j10_ok (by decide) rfl (okO_iff.mp h2) (by decide) w691 d_Bp_vetoes_1 ?_
  refine x_iload_n C d_Bp_vetoes_4 1 rfl ?_
  refine x_callVI (As := [.int v1I]) C (c_Tw_hasWeights G l (aR σ v0R 1) v1I σ) (okO_iff.mp h2) rfl w978 w979 w977 w980 w122 k_Tw_hasWeights rfl (by decide) (by decide) rfl (Nat.le_of_ble_eq_true rfl) d_Bp_vetoes_5 (fun r3 σ4 => ?_)
  refine x_if_eq (tgt := 22) C d_Bp_vetoes_8 (by decide) (fun _ => ?_) (fun _ => ?_)
  · refine x_iconst (v := ((-1) : Int32)) C d_Bp_vetoes_22 (by decide) ?_
    refine x_lv [] rfl ?_
    exact IH.2 (((-1) : Int32)) (σ4)
  · refine x_aload_n C d_Bp_vetoes_11 0 rfl ?_
    refine x_gd (fun h5 => ?_)
    refine x_gd (fun h6 => ?_)
    refine x_getR (k := 9) (kv := 10) C (okO_iff.mp h5) rfl j10_ok (by decide) rfl (okO_iff.mp h6) (by decide) w699 d_Bp_vetoes_12 ?_
    refine x_iload_n C d_Bp_vetoes_15 1 rfl ?_
    refine x_callVI (As := [.int v1I]) C (c_Pw_inAllThatRing G l (aR σ4 v0R 9) v1I σ4) (okO_iff.mp h6) rfl w1609 w1610 w1608 w1611 w131 k_Pw_inAllThatRing rfl (by decide) (by decide) rfl (Nat.le_of_ble_eq_true rfl) d_Bp_vetoes_16 (fun r7 σ8 => ?_)
    refine x_goto (tgt := 23) C d_Bp_vetoes_19 (by decide) ?_
    refine x_lv [] rfl ?_
    exact IH.2 r7 (σ8)
set_option maxRecDepth 20000 in
theorem s_Bp_vetoes_1 {G : GX} {p : Program} {l : Launch} {e : Env} {s : State} {m : MethodId} {args : Array Value} {below : List Frame} {meth : Method} {c : Code} {z0 u0 n : Nat} (C : Cx G p s m args meth c prog_1_method_36_code 2 "BellPlate" ((some FieldType.int))) (IH : I_Bp_vetoes G p l e s m args below meth c z0 u0 n) (s0I : Int32) (σ : AM) : VX (QM eI G args s below z0 u0) G p l e s m args below meth c 5 z0 u0 2 (lpK (lpn F_Bp_vetoes n) (T_Bp_vetoes_1 s0I σ)) 23 [] [.int s0I] σ := by
  unfold T_Bp_vetoes_1
  exact x_iret C d_Bp_vetoes_23
theorem i_Bp_vetoes {G : GX} {p : Program} {l : Launch} {e : Env} {s : State} {m : MethodId} {args : Array Value} {below : List Frame} {meth : Method} {c : Code} {z0 u0 : Nat} (C : Cx G p s m args meth c prog_1_method_36_code 2 "BellPlate" ((some FieldType.int))) (n : Nat) : I_Bp_vetoes G p l e s m args below meth c z0 u0 n := by
  induction n with
  | zero => exact ⟨fun _ _ _ => x_none, fun _ _ => x_none⟩
  | succ n IH => exact ⟨fun v0R v1I σ => s_Bp_vetoes_0 C IH v0R v1I σ, fun s0I σ => s_Bp_vetoes_1 C IH s0I σ⟩
theorem c_Bp_vetoes (G : GX) (l : Launch) (v0R : Nat) (v1I : Int32) (σ : AM) : CT eI G l 5 y_Bp_vetoes prog_1_method_36_code 2 ((some FieldType.int)) [.ref v0R, .int v1I] σ (M_Bp_vetoes v0R v1I σ) := by
  refine ct_of (by decide +kernel) (Nat.le_of_ble_eq_true rfl) (fun p e s m args below meth c C hin => ?_)
  refine x_lve (lv' := [(0, .ref v0R), (1, .int v1I)]) rfl ?_
  intro r σ' h
  obtain ⟨n, hn⟩ := (lp_iff _ _ _).mp h
  exact (i_Bp_vetoes C n).1 v0R v1I σ r σ' hn
/-! BellPlate.same(II)I -/
abbrev y_Bp_same : MethodName := ⟨"BellPlate", "same", "(II)I"⟩
theorem k_Bp_same : y_Bp_same.cls ≠ "java/lang/invoke/MethodHandle" ∧ y_Bp_same.cls ≠ "java/lang/invoke/VarHandle" ∧ (parseMethodDescriptor y_Bp_same.desc).map (fun d => d.parameters.length) = some 2 := by decide +kernel
theorem d_Bp_same_0 : decode prog_1_method_37_code 0 = .ok (.aload_n 0, 1) := by decide +kernel
theorem d_Bp_same_1 : decode prog_1_method_37_code 1 = .ok (.getfield 19, 3) := by decide +kernel
theorem d_Bp_same_4 : decode prog_1_method_37_code 4 = .ok (.iload_n 1, 1) := by decide +kernel
theorem d_Bp_same_5 : decode prog_1_method_37_code 5 = .ok (.invokevirtual 128, 3) := by decide +kernel
theorem d_Bp_same_8 : decode prog_1_method_37_code 8 = .ok (.ifCond .eq 12, 3) := by decide +kernel
theorem d_Bp_same_11 : decode prog_1_method_37_code 11 = .ok (.iload_n 2, 1) := by decide +kernel
theorem d_Bp_same_12 : decode prog_1_method_37_code 12 = .ok (.ifCond .lt 8, 3) := by decide +kernel
theorem d_Bp_same_15 : decode prog_1_method_37_code 15 = .ok (.iload_n 2, 1) := by decide +kernel
theorem d_Bp_same_16 : decode prog_1_method_37_code 16 = .ok (.iconst 2, 1) := by decide +kernel
theorem d_Bp_same_17 : decode prog_1_method_37_code 17 = .ok (.if_icmp .le 5, 3) := by decide +kernel
theorem d_Bp_same_20 : decode prog_1_method_37_code 20 = .ok (.iconst (-1), 1) := by decide +kernel
theorem d_Bp_same_21 : decode prog_1_method_37_code 21 = .ok (.ireturn, 1) := by decide +kernel
theorem d_Bp_same_22 : decode prog_1_method_37_code 22 = .ok (.aload_n 0, 1) := by decide +kernel
theorem d_Bp_same_23 : decode prog_1_method_37_code 23 = .ok (.getfield 28, 3) := by decide +kernel
theorem d_Bp_same_26 : decode prog_1_method_37_code 26 = .ok (.iload_n 1, 1) := by decide +kernel
theorem d_Bp_same_27 : decode prog_1_method_37_code 27 = .ok (.invokevirtual 136, 3) := by decide +kernel
theorem d_Bp_same_30 : decode prog_1_method_37_code 30 = .ok (.lstore_n 3, 1) := by decide +kernel
theorem d_Bp_same_31 : decode prog_1_method_37_code 31 = .ok (.aload_n 0, 1) := by decide +kernel
theorem d_Bp_same_32 : decode prog_1_method_37_code 32 = .ok (.getfield 71, 3) := by decide +kernel
theorem d_Bp_same_35 : decode prog_1_method_37_code 35 = .ok (.lload_n 3, 1) := by decide +kernel
theorem d_Bp_same_36 : decode prog_1_method_37_code 36 = .ok (.aload_n 0, 1) := by decide +kernel
theorem d_Bp_same_37 : decode prog_1_method_37_code 37 = .ok (.getfield 19, 3) := by decide +kernel
theorem d_Bp_same_40 : decode prog_1_method_37_code 40 = .ok (.invokevirtual 346, 3) := by decide +kernel
theorem d_Bp_same_43 : decode prog_1_method_37_code 43 = .ok (.lload_n 3, 1) := by decide +kernel
theorem d_Bp_same_44 : decode prog_1_method_37_code 44 = .ok (.ldc2_w 349, 3) := by decide +kernel
theorem d_Bp_same_47 : decode prog_1_method_37_code 47 = .ok (.lxor, 1) := by decide +kernel
theorem d_Bp_same_48 : decode prog_1_method_37_code 48 = .ok (.land, 1) := by decide +kernel
theorem d_Bp_same_49 : decode prog_1_method_37_code 49 = .ok (.invokevirtual 260, 3) := by decide +kernel
theorem d_Bp_same_52 : decode prog_1_method_37_code 52 = .ok (.aload_n 0, 1) := by decide +kernel
theorem d_Bp_same_53 : decode prog_1_method_37_code 53 = .ok (.getfield 71, 3) := by decide +kernel
theorem d_Bp_same_56 : decode prog_1_method_37_code 56 = .ok (.iload_n 2, 1) := by decide +kernel
theorem d_Bp_same_57 : decode prog_1_method_37_code 57 = .ok (.invokevirtual 264, 3) := by decide +kernel
theorem d_Bp_same_60 : decode prog_1_method_37_code 60 = .ok (.ireturn, 1) := by decide +kernel
abbrev S_Bp_same : Type := Nat × Nat × Int32 × Int32 × AM
noncomputable def T_Bp_same_0 (v0R : Nat) (v1I : Int32) (v2I : Int32) (σ : AM) : S_Bp_same ⊕ Option (Int32 × AM) :=
  gdT (okO σ v0R 11) <| gdT (okO σ (aR σ v0R 1) 1) <| bndT (M_Tw_hasWeights (aR σ v0R 1) v1I σ) fun r3 σ4 => if r3 = 0 then (.inl (1, 0, 0, 0, σ4)) else (if v2I < 0 then (.inl (1, 0, 0, 0, σ4)) else (if (2 : Int32) < v2I then (.inl (1, 0, 0, 0, σ4)) else (gdT (okO σ4 v0R 11) <| gdT (okO σ4 (aR σ4 v0R 2) 3) <| bndT (M_Ls_listOf (aR σ4 v0R 2) v1I σ4) fun r7 σ8 => gdT (okO σ8 v0R 11) <| gdT (okO σ8 (aR σ8 v0R 7) 8) <| gdT (okO σ8 (aR σ8 v0R 1) 1) <| bndT (M_Tw_allSets (aR σ8 v0R 1) σ8) fun r12 σ13 => gdT (okO σ13 (aR σ8 v0R 7) 8) <| bndT (M_Ft_seek (aR σ8 v0R 7) r7 (r12 &&& (r7 ^^^ ((-1) : Int64))) σ13) fun _ σ15 => gdT (okO σ15 v0R 11) <| gdT (okO σ15 (aR σ15 v0R 7) 8) <| bndT (M_Ft_answer (aR σ15 v0R 7) v2I σ15) fun r19 σ20 => .inr (some (r19, σ20)))))
noncomputable def T_Bp_same_1  (σ : AM) : S_Bp_same ⊕ Option (Int32 × AM) :=
  .inr (some (((-1) : Int32), σ))
noncomputable def F_Bp_same : S_Bp_same → S_Bp_same ⊕ Option (Int32 × AM) := fun s => match s.1 with
  | 0 => T_Bp_same_0 (s.2.1) (s.2.2.1) (s.2.2.2.1) (s.2.2.2.2)
  | _ => T_Bp_same_1  (s.2.2.2.2)
noncomputable def L_Bp_same_0 (v0R : Nat) (v1I : Int32) (v2I : Int32) (σ : AM) : Option (Int32 × AM) := lp F_Bp_same (0, v0R, v1I, v2I, σ)
noncomputable def L_Bp_same_1  (σ : AM) : Option (Int32 × AM) := lp F_Bp_same (1, 0, 0, 0, σ)
set_option maxRecDepth 20000 in
theorem E_Bp_same_0 (v0R : Nat) (v1I : Int32) (v2I : Int32) (σ : AM) : L_Bp_same_0 v0R v1I v2I σ = (gd (okO σ v0R 11) <| gd (okO σ (aR σ v0R 1) 1) <| bnd (M_Tw_hasWeights (aR σ v0R 1) v1I σ) fun r3 σ4 => if r3 = 0 then (L_Bp_same_1 σ4) else (if v2I < 0 then (L_Bp_same_1 σ4) else (if (2 : Int32) < v2I then (L_Bp_same_1 σ4) else (gd (okO σ4 v0R 11) <| gd (okO σ4 (aR σ4 v0R 2) 3) <| bnd (M_Ls_listOf (aR σ4 v0R 2) v1I σ4) fun r7 σ8 => gd (okO σ8 v0R 11) <| gd (okO σ8 (aR σ8 v0R 7) 8) <| gd (okO σ8 (aR σ8 v0R 1) 1) <| bnd (M_Tw_allSets (aR σ8 v0R 1) σ8) fun r12 σ13 => gd (okO σ13 (aR σ8 v0R 7) 8) <| bnd (M_Ft_seek (aR σ8 v0R 7) r7 (r12 &&& (r7 ^^^ ((-1) : Int64))) σ13) fun _ σ15 => gd (okO σ15 v0R 11) <| gd (okO σ15 (aR σ15 v0R 7) 8) <| bnd (M_Ft_answer (aR σ15 v0R 7) v2I σ15) fun r19 σ20 => (some (r19, σ20)))))) := by
  unfold L_Bp_same_0
  rw [lp_eq]
  show lpK (lp F_Bp_same) (T_Bp_same_0 v0R v1I v2I σ) = _
  unfold T_Bp_same_0
  simp only [lpK_ite, lq_inl, lq_inr, lpK_bnd, lpK_gd, lq_let]
  try rfl
set_option maxRecDepth 20000 in
theorem E_Bp_same_1  (σ : AM) : L_Bp_same_1  σ = ((some (((-1) : Int32), σ))) := by
  unfold L_Bp_same_1
  rw [lp_eq]
  show lpK (lp F_Bp_same) (T_Bp_same_1  σ) = _
  unfold T_Bp_same_1
  simp only [lpK_ite, lq_inl, lq_inr, lpK_bnd, lpK_gd, lq_let]
  try rfl
noncomputable def M_Bp_same (v0R : Nat) (v1I : Int32) (v2I : Int32) (σ : AM) : Option (Int32 × AM) := mw σ (L_Bp_same_0 v0R v1I v2I σ)
def I_Bp_same (G : GX) (p : Program) (l : Launch) (e : Env) (s : State) (m : MethodId) (args : Array Value) (below : List Frame) (meth : Method) (c : Code) (z0 u0 n : Nat) : Prop :=
  (∀ (v0R : Nat) (v1I : Int32) (v2I : Int32) (σ : AM), VX (QM eI G args s below z0 u0) G p l e s m args below meth c 4 z0 u0 5 (lpn F_Bp_same n (0, v0R, v1I, v2I, σ)) 0 [(0, .ref v0R), (1, .int v1I), (2, .int v2I)] [] σ) ∧
  (∀ (σ : AM), VX (QM eI G args s below z0 u0) G p l e s m args below meth c 4 z0 u0 5 (lpn F_Bp_same n (1, 0, 0, 0, σ)) 20 [] [] σ)
set_option maxRecDepth 20000 in
theorem s_Bp_same_0 {G : GX} {p : Program} {l : Launch} {e : Env} {s : State} {m : MethodId} {args : Array Value} {below : List Frame} {meth : Method} {c : Code} {z0 u0 n : Nat} (C : Cx G p s m args meth c prog_1_method_37_code 5 "BellPlate" ((some FieldType.int))) (IH : I_Bp_same G p l e s m args below meth c z0 u0 n) (v0R : Nat) (v1I : Int32) (v2I : Int32) (σ : AM) : VX (QM eI G args s below z0 u0) G p l e s m args below meth c 4 z0 u0 5 (lpK (lpn F_Bp_same n) (T_Bp_same_0 v0R v1I v2I σ)) 0 [(0, .ref v0R), (1, .int v1I), (2, .int v2I)] [] σ := by
  unfold T_Bp_same_0
  refine x_aload_n C d_Bp_same_0 0 rfl ?_
  refine x_gd (fun h1 => ?_)
  refine x_gd (fun h2 => ?_)
  refine x_getR (k := 1) (kv := 1) C (okO_iff.mp h1) rfl j10_ok (by decide) rfl (okO_iff.mp h2) (by decide) w691 d_Bp_same_1 ?_
  refine x_iload_n C d_Bp_same_4 1 rfl ?_
  refine x_callVI (As := [.int v1I]) C (c_Tw_hasWeights G l (aR σ v0R 1) v1I σ) (okO_iff.mp h2) rfl w978 w979 w977 w980 w122 k_Tw_hasWeights rfl (by decide) (by decide) rfl (Nat.le_of_ble_eq_true rfl) d_Bp_same_5 (fun r3 σ4 => ?_)
  refine x_if_eq (tgt := 20) C d_Bp_same_8 (by decide) (fun _ => ?_) (fun _ => ?_)
  · refine x_lv [] rfl ?_
    exact IH.2  (σ4)
  · refine x_iload_n C d_Bp_same_11 2 rfl ?_
    refine x_if_lt (tgt := 20) C d_Bp_same_12 (by decide) (fun _ => ?_) (fun _ => ?_)
    · refine x_lv [] rfl ?_
      exact IH.2  (σ4)
    · refine x_iload_n C d_Bp_same_15 2 rfl ?_
      refine x_iconst (v := (2 : Int32)) C d_Bp_same_16 (by decide) ?_
      refine x_icmp_le (tgt := 22) C d_Bp_same_17 (by decide) (fun _ => ?_) (fun _ => ?_)
      · refine x_lv [] rfl ?_
        exact IH.2  (σ4)
      · refine x_aload_n C d_Bp_same_22 0 rfl ?_
        refine x_gd (fun h5 => ?_)
        refine x_gd (fun h6 => ?_)
        refine x_getR (k := 2) (kv := 3) C (okO_iff.mp h5) rfl j10_ok (by decide) rfl (okO_iff.mp h6) (by decide) w692 d_Bp_same_23 ?_
        refine x_iload_n C d_Bp_same_26 1 rfl ?_
        refine x_callVJ (As := [.int v1I]) C (c_Ls_listOf G l (aR σ4 v0R 2) v1I σ4) (okO_iff.mp h6) rfl w991 w992 w990 w993 w123 k_Ls_listOf rfl (by decide) (by decide) rfl (Nat.le_of_ble_eq_true rfl) d_Bp_same_27 (fun r7 σ8 => ?_)
        refine x_lstore_n (lv' := [(3, .long r7), (0, .ref v0R), (1, .int v1I), (2, .int v2I)]) C d_Bp_same_30 (by decide) rfl rfl ?_
        refine x_aload_n C d_Bp_same_31 1 rfl ?_
        refine x_gd (fun h9 => ?_)
        refine x_gd (fun h10 => ?_)
        refine x_getR (k := 7) (kv := 8) C (okO_iff.mp h9) rfl j10_ok (by decide) rfl (okO_iff.mp h10) (by decide) w697 d_Bp_same_32 ?_
        refine x_lload_n C d_Bp_same_35 0 rfl ?_
        refine x_aload_n C d_Bp_same_36 1 rfl ?_
        refine x_gd (fun h11 => ?_)
        refine x_getR (k := 1) (kv := 1) C (okO_iff.mp h9) rfl j10_ok (by decide) rfl (okO_iff.mp h11) (by decide) w691 d_Bp_same_37 ?_
        refine x_callVJ (As := []) C (c_Tw_allSets G l (aR σ8 v0R 1)  σ8) (okO_iff.mp h11) rfl w1618 w1619 w1617 w1620 w122 k_Tw_allSets rfl (by decide) (by decide) rfl (Nat.le_of_ble_eq_true rfl) d_Bp_same_40 (fun r12 σ13 => ?_)
        refine x_lload_n C d_Bp_same_43 0 rfl ?_
        refine x_ldc2 C d_Bp_same_44 w1622 ?_
        refine x_lxor C d_Bp_same_47 ?_
        refine x_land C d_Bp_same_48 ?_
        refine x_gd (fun h16 => ?_)
        refine x_callVV (As := [.long r7, .long (r12 &&& (r7 ^^^ ((-1) : Int64)))]) C (c_Ft_seek G l (aR σ8 v0R 7) r7 (r12 &&& (r7 ^^^ ((-1) : Int64))) σ13) (okO_iff.mp h16) rfl w1323 w1324 w1322 w1325 w129 k_Ft_seek rfl (by decide) (by decide) rfl (Nat.le_of_ble_eq_true rfl) d_Bp_same_49 (fun r14 σ15 => ?_)
        refine x_aload_n C d_Bp_same_52 1 rfl ?_
        refine x_gd (fun h17 => ?_)
        refine x_gd (fun h18 => ?_)
        refine x_getR (k := 7) (kv := 8) C (okO_iff.mp h17) rfl j10_ok (by decide) rfl (okO_iff.mp h18) (by decide) w697 d_Bp_same_53 ?_
        refine x_iload_n C d_Bp_same_56 3 rfl ?_
        refine x_callVI (As := [.int v2I]) C (c_Ft_answer G l (aR σ15 v0R 7) v2I σ15) (okO_iff.mp h18) rfl w1350 w1351 w1349 w1352 w129 k_Ft_answer rfl (by decide) (by decide) rfl (Nat.le_of_ble_eq_true rfl) d_Bp_same_57 (fun r19 σ20 => ?_)
        exact x_iret C d_Bp_same_60
set_option maxRecDepth 20000 in
theorem s_Bp_same_1 {G : GX} {p : Program} {l : Launch} {e : Env} {s : State} {m : MethodId} {args : Array Value} {below : List Frame} {meth : Method} {c : Code} {z0 u0 n : Nat} (C : Cx G p s m args meth c prog_1_method_37_code 5 "BellPlate" ((some FieldType.int))) (IH : I_Bp_same G p l e s m args below meth c z0 u0 n)  (σ : AM) : VX (QM eI G args s below z0 u0) G p l e s m args below meth c 4 z0 u0 5 (lpK (lpn F_Bp_same n) (T_Bp_same_1  σ)) 20 [] [] σ := by
  unfold T_Bp_same_1
  refine x_iconst (v := ((-1) : Int32)) C d_Bp_same_20 (by decide) ?_
  exact x_iret C d_Bp_same_21
theorem i_Bp_same {G : GX} {p : Program} {l : Launch} {e : Env} {s : State} {m : MethodId} {args : Array Value} {below : List Frame} {meth : Method} {c : Code} {z0 u0 : Nat} (C : Cx G p s m args meth c prog_1_method_37_code 5 "BellPlate" ((some FieldType.int))) (n : Nat) : I_Bp_same G p l e s m args below meth c z0 u0 n := by
  induction n with
  | zero => exact ⟨fun _ _ _ _ => x_none, fun _ => x_none⟩
  | succ n IH => exact ⟨fun v0R v1I v2I σ => s_Bp_same_0 C IH v0R v1I v2I σ, fun σ => s_Bp_same_1 C IH σ⟩
theorem c_Bp_same (G : GX) (l : Launch) (v0R : Nat) (v1I : Int32) (v2I : Int32) (σ : AM) : CT eI G l 4 y_Bp_same prog_1_method_37_code 5 ((some FieldType.int)) [.ref v0R, .int v1I, .int v2I] σ (M_Bp_same v0R v1I v2I σ) := by
  refine ct_of (by decide +kernel) (Nat.le_of_ble_eq_true rfl) (fun p e s m args below meth c C hin => ?_)
  refine x_lve (lv' := [(0, .ref v0R), (1, .int v1I), (2, .int v2I)]) rfl ?_
  intro r σ' h
  obtain ⟨n, hn⟩ := (lp_iff _ _ _).mp h
  exact (i_Bp_same C n).1 v0R v1I v2I σ r σ' hn
/-! BellPlate.lay(I)I -/
abbrev y_Bp_lay : MethodName := ⟨"BellPlate", "lay", "(I)I"⟩
theorem k_Bp_lay : y_Bp_lay.cls ≠ "java/lang/invoke/MethodHandle" ∧ y_Bp_lay.cls ≠ "java/lang/invoke/VarHandle" ∧ (parseMethodDescriptor y_Bp_lay.desc).map (fun d => d.parameters.length) = some 1 := by decide +kernel
theorem d_Bp_lay_0 : decode prog_1_method_38_code 0 = .ok (.aload_n 0, 1) := by decide +kernel
theorem d_Bp_lay_1 : decode prog_1_method_38_code 1 = .ok (.getfield 19, 3) := by decide +kernel
theorem d_Bp_lay_4 : decode prog_1_method_38_code 4 = .ok (.iload_n 1, 1) := by decide +kernel
theorem d_Bp_lay_5 : decode prog_1_method_38_code 5 = .ok (.invokevirtual 180, 3) := by decide +kernel
theorem d_Bp_lay_8 : decode prog_1_method_38_code 8 = .ok (.ifCond .eq 15, 3) := by decide +kernel
theorem d_Bp_lay_11 : decode prog_1_method_38_code 11 = .ok (.aload_n 0, 1) := by decide +kernel
theorem d_Bp_lay_12 : decode prog_1_method_38_code 12 = .ok (.getfield 97, 3) := by decide +kernel
theorem d_Bp_lay_15 : decode prog_1_method_38_code 15 = .ok (.aload_n 0, 1) := by decide +kernel
theorem d_Bp_lay_16 : decode prog_1_method_38_code 16 = .ok (.getfield 93, 3) := by decide +kernel
theorem d_Bp_lay_19 : decode prog_1_method_38_code 19 = .ok (.arraylength, 1) := by decide +kernel
theorem d_Bp_lay_20 : decode prog_1_method_38_code 20 = .ok (.if_icmp .lt 5, 3) := by decide +kernel
theorem d_Bp_lay_23 : decode prog_1_method_38_code 23 = .ok (.iconst (-1), 1) := by decide +kernel
theorem d_Bp_lay_24 : decode prog_1_method_38_code 24 = .ok (.ireturn, 1) := by decide +kernel
theorem d_Bp_lay_25 : decode prog_1_method_38_code 25 = .ok (.iconst 0, 1) := by decide +kernel
theorem d_Bp_lay_26 : decode prog_1_method_38_code 26 = .ok (.istore_n 2, 1) := by decide +kernel
theorem d_Bp_lay_27 : decode prog_1_method_38_code 27 = .ok (.iload_n 2, 1) := by decide +kernel
theorem d_Bp_lay_28 : decode prog_1_method_38_code 28 = .ok (.aload_n 0, 1) := by decide +kernel
theorem d_Bp_lay_29 : decode prog_1_method_38_code 29 = .ok (.getfield 97, 3) := by decide +kernel
theorem d_Bp_lay_32 : decode prog_1_method_38_code 32 = .ok (.if_icmp .ge 21, 3) := by decide +kernel
theorem d_Bp_lay_35 : decode prog_1_method_38_code 35 = .ok (.aload_n 0, 1) := by decide +kernel
theorem d_Bp_lay_36 : decode prog_1_method_38_code 36 = .ok (.getfield 93, 3) := by decide +kernel
theorem d_Bp_lay_39 : decode prog_1_method_38_code 39 = .ok (.iload_n 2, 1) := by decide +kernel
theorem d_Bp_lay_40 : decode prog_1_method_38_code 40 = .ok (.iaload, 1) := by decide +kernel
theorem d_Bp_lay_41 : decode prog_1_method_38_code 41 = .ok (.iload_n 1, 1) := by decide +kernel
theorem d_Bp_lay_42 : decode prog_1_method_38_code 42 = .ok (.if_icmp .ne 5, 3) := by decide +kernel
theorem d_Bp_lay_45 : decode prog_1_method_38_code 45 = .ok (.iconst (-1), 1) := by decide +kernel
theorem d_Bp_lay_46 : decode prog_1_method_38_code 46 = .ok (.ireturn, 1) := by decide +kernel
theorem d_Bp_lay_47 : decode prog_1_method_38_code 47 = .ok (.iinc 2 1, 3) := by decide +kernel
theorem d_Bp_lay_50 : decode prog_1_method_38_code 50 = .ok (.goto (-23), 3) := by decide +kernel
theorem d_Bp_lay_53 : decode prog_1_method_38_code 53 = .ok (.aload_n 0, 1) := by decide +kernel
theorem d_Bp_lay_54 : decode prog_1_method_38_code 54 = .ok (.getfield 93, 3) := by decide +kernel
theorem d_Bp_lay_57 : decode prog_1_method_38_code 57 = .ok (.aload_n 0, 1) := by decide +kernel
theorem d_Bp_lay_58 : decode prog_1_method_38_code 58 = .ok (.getfield 97, 3) := by decide +kernel
theorem d_Bp_lay_61 : decode prog_1_method_38_code 61 = .ok (.iload_n 1, 1) := by decide +kernel
theorem d_Bp_lay_62 : decode prog_1_method_38_code 62 = .ok (.iastore, 1) := by decide +kernel
theorem d_Bp_lay_63 : decode prog_1_method_38_code 63 = .ok (.aload_n 0, 1) := by decide +kernel
theorem d_Bp_lay_64 : decode prog_1_method_38_code 64 = .ok (.dup, 1) := by decide +kernel
theorem d_Bp_lay_65 : decode prog_1_method_38_code 65 = .ok (.getfield 97, 3) := by decide +kernel
theorem d_Bp_lay_68 : decode prog_1_method_38_code 68 = .ok (.iconst 1, 1) := by decide +kernel
theorem d_Bp_lay_69 : decode prog_1_method_38_code 69 = .ok (.iadd, 1) := by decide +kernel
theorem d_Bp_lay_70 : decode prog_1_method_38_code 70 = .ok (.putfield 97, 3) := by decide +kernel
theorem d_Bp_lay_73 : decode prog_1_method_38_code 73 = .ok (.aload_n 0, 1) := by decide +kernel
theorem d_Bp_lay_74 : decode prog_1_method_38_code 74 = .ok (.getfield 97, 3) := by decide +kernel
theorem d_Bp_lay_77 : decode prog_1_method_38_code 77 = .ok (.ireturn, 1) := by decide +kernel
abbrev S_Bp_lay : Type := Nat × Nat × Int32 × Int32 × AM
noncomputable def T_Bp_lay_0 (v0R : Nat) (v1I : Int32) (σ : AM) : S_Bp_lay ⊕ Option (Int32 × AM) :=
  gdT (okO σ v0R 11) <| gdT (okO σ (aR σ v0R 1) 1) <| bndT (M_Tw_hasThing (aR σ v0R 1) v1I σ) fun r3 σ4 => if r3 = 0 then (.inl (1, 0, 0, 0, σ4)) else (gdT (okO σ4 v0R 11) <| gdT (okO σ4 (aR σ4 v0R 10) 101) <| if (aI σ4 v0R 11) < (nI (aN σ4 (aR σ4 v0R 10))) then (.inl (2, v0R, v1I, (0 : Int32), σ4)) else (.inl (1, 0, 0, 0, σ4)))
noncomputable def T_Bp_lay_1  (σ : AM) : S_Bp_lay ⊕ Option (Int32 × AM) :=
  .inr (some (((-1) : Int32), σ))
noncomputable def T_Bp_lay_2 (v0R : Nat) (v1I : Int32) (v2I : Int32) (σ : AM) : S_Bp_lay ⊕ Option (Int32 × AM) :=
  gdT (okO σ v0R 11) <| if v2I < (aI σ v0R 11) then (gdT (okO σ (aR σ v0R 10) 101) <| gdT (inB v2I (aN σ (aR σ v0R 10))) <| if (aI σ (aR σ v0R 10) v2I.toNatClampNeg) = v1I then (.inr (some (((-1) : Int32), σ))) else (.inl (2, v0R, v1I, v2I + (1 : Int32), σ))) else (gdT (okO σ (aR σ v0R 10) 101) <| gdT (inB (aI σ v0R 11) (aN σ (aR σ v0R 10))) <| letT (sI σ (aR σ v0R 10) (aI σ v0R 11).toNatClampNeg v1I) fun σ6 => letT (sI σ6 v0R 11 ((aI σ6 v0R 11) + (1 : Int32))) fun σ8 => .inr (some ((aI σ8 v0R 11), σ8)))
noncomputable def F_Bp_lay : S_Bp_lay → S_Bp_lay ⊕ Option (Int32 × AM) := fun s => match s.1 with
  | 0 => T_Bp_lay_0 (s.2.1) (s.2.2.1) (s.2.2.2.2)
  | 1 => T_Bp_lay_1  (s.2.2.2.2)
  | _ => T_Bp_lay_2 (s.2.1) (s.2.2.1) (s.2.2.2.1) (s.2.2.2.2)
noncomputable def L_Bp_lay_0 (v0R : Nat) (v1I : Int32) (σ : AM) : Option (Int32 × AM) := lp F_Bp_lay (0, v0R, v1I, 0, σ)
noncomputable def L_Bp_lay_1  (σ : AM) : Option (Int32 × AM) := lp F_Bp_lay (1, 0, 0, 0, σ)
noncomputable def L_Bp_lay_2 (v0R : Nat) (v1I : Int32) (v2I : Int32) (σ : AM) : Option (Int32 × AM) := lp F_Bp_lay (2, v0R, v1I, v2I, σ)
set_option maxRecDepth 20000 in
theorem E_Bp_lay_0 (v0R : Nat) (v1I : Int32) (σ : AM) : L_Bp_lay_0 v0R v1I σ = (gd (okO σ v0R 11) <| gd (okO σ (aR σ v0R 1) 1) <| bnd (M_Tw_hasThing (aR σ v0R 1) v1I σ) fun r3 σ4 => if r3 = 0 then (L_Bp_lay_1 σ4) else (gd (okO σ4 v0R 11) <| gd (okO σ4 (aR σ4 v0R 10) 101) <| if (aI σ4 v0R 11) < (nI (aN σ4 (aR σ4 v0R 10))) then (L_Bp_lay_2 v0R v1I ((0 : Int32)) σ4) else (L_Bp_lay_1 σ4))) := by
  unfold L_Bp_lay_0
  rw [lp_eq]
  show lpK (lp F_Bp_lay) (T_Bp_lay_0 v0R v1I σ) = _
  unfold T_Bp_lay_0
  simp only [lpK_ite, lq_inl, lq_inr, lpK_bnd, lpK_gd, lq_let]
  try rfl
set_option maxRecDepth 20000 in
theorem E_Bp_lay_1  (σ : AM) : L_Bp_lay_1  σ = ((some (((-1) : Int32), σ))) := by
  unfold L_Bp_lay_1
  rw [lp_eq]
  show lpK (lp F_Bp_lay) (T_Bp_lay_1  σ) = _
  unfold T_Bp_lay_1
  simp only [lpK_ite, lq_inl, lq_inr, lpK_bnd, lpK_gd, lq_let]
  try rfl
set_option maxRecDepth 20000 in
theorem E_Bp_lay_2 (v0R : Nat) (v1I : Int32) (v2I : Int32) (σ : AM) : L_Bp_lay_2 v0R v1I v2I σ = (gd (okO σ v0R 11) <| if v2I < (aI σ v0R 11) then (gd (okO σ (aR σ v0R 10) 101) <| gd (inB v2I (aN σ (aR σ v0R 10))) <| if (aI σ (aR σ v0R 10) v2I.toNatClampNeg) = v1I then ((some (((-1) : Int32), σ))) else (L_Bp_lay_2 v0R v1I (v2I + (1 : Int32)) σ)) else (gd (okO σ (aR σ v0R 10) 101) <| gd (inB (aI σ v0R 11) (aN σ (aR σ v0R 10))) <| letT (sI σ (aR σ v0R 10) (aI σ v0R 11).toNatClampNeg v1I) fun σ6 => letT (sI σ6 v0R 11 ((aI σ6 v0R 11) + (1 : Int32))) fun σ8 => (some ((aI σ8 v0R 11), σ8)))) := by
  unfold L_Bp_lay_2
  rw [lp_eq]
  show lpK (lp F_Bp_lay) (T_Bp_lay_2 v0R v1I v2I σ) = _
  unfold T_Bp_lay_2
  simp only [lpK_ite, lq_inl, lq_inr, lpK_bnd, lpK_gd, lq_let]
  try rfl
noncomputable def M_Bp_lay (v0R : Nat) (v1I : Int32) (σ : AM) : Option (Int32 × AM) := mw σ (L_Bp_lay_0 v0R v1I σ)
def I_Bp_lay (G : GX) (p : Program) (l : Launch) (e : Env) (s : State) (m : MethodId) (args : Array Value) (below : List Frame) (meth : Method) (c : Code) (z0 u0 n : Nat) : Prop :=
  (∀ (v0R : Nat) (v1I : Int32) (σ : AM), VX (QM eI G args s below z0 u0) G p l e s m args below meth c 1 z0 u0 3 (lpn F_Bp_lay n (0, v0R, v1I, 0, σ)) 0 [(0, .ref v0R), (1, .int v1I)] [] σ) ∧
  (∀ (σ : AM), VX (QM eI G args s below z0 u0) G p l e s m args below meth c 1 z0 u0 3 (lpn F_Bp_lay n (1, 0, 0, 0, σ)) 23 [] [] σ) ∧
  (∀ (v0R : Nat) (v1I : Int32) (v2I : Int32) (σ : AM), VX (QM eI G args s below z0 u0) G p l e s m args below meth c 1 z0 u0 3 (lpn F_Bp_lay n (2, v0R, v1I, v2I, σ)) 27 [(0, .ref v0R), (1, .int v1I), (2, .int v2I)] [] σ)
set_option maxRecDepth 20000 in
theorem s_Bp_lay_0 {G : GX} {p : Program} {l : Launch} {e : Env} {s : State} {m : MethodId} {args : Array Value} {below : List Frame} {meth : Method} {c : Code} {z0 u0 n : Nat} (C : Cx G p s m args meth c prog_1_method_38_code 3 "BellPlate" ((some FieldType.int))) (IH : I_Bp_lay G p l e s m args below meth c z0 u0 n) (v0R : Nat) (v1I : Int32) (σ : AM) : VX (QM eI G args s below z0 u0) G p l e s m args below meth c 1 z0 u0 3 (lpK (lpn F_Bp_lay n) (T_Bp_lay_0 v0R v1I σ)) 0 [(0, .ref v0R), (1, .int v1I)] [] σ := by
  unfold T_Bp_lay_0
  refine x_aload_n C d_Bp_lay_0 0 rfl ?_
  refine x_gd (fun h1 => ?_)
  refine x_gd (fun h2 => ?_)
  refine x_getR (k := 1) (kv := 1) C (okO_iff.mp h1) rfl j10_ok (by decide) rfl (okO_iff.mp h2) (by decide) w691 d_Bp_lay_1 ?_
  refine x_iload_n C d_Bp_lay_4 1 rfl ?_
  refine x_callVI (As := [.int v1I]) C (c_Tw_hasThing G l (aR σ v0R 1) v1I σ) (okO_iff.mp h2) rfl w1112 w1113 w1111 w1114 w122 k_Tw_hasThing rfl (by decide) (by decide) rfl (Nat.le_of_ble_eq_true rfl) d_Bp_lay_5 (fun r3 σ4 => ?_)
  refine x_if_eq (tgt := 23) C d_Bp_lay_8 (by decide) (fun _ => ?_) (fun _ => ?_)
  · refine x_lv [] rfl ?_
    exact IH.2.1  (σ4)
  · refine x_aload_n C d_Bp_lay_11 0 rfl ?_
    refine x_gd (fun h5 => ?_)
    refine x_getI (k := 11) C (okO_iff.mp h5) rfl j10_ok (by decide) rfl w701 d_Bp_lay_12 ?_
    refine x_aload_n C d_Bp_lay_15 0 rfl ?_
    refine x_gd (fun h6 => ?_)
    refine x_getR (k := 10) (kv := 101) C (okO_iff.mp h5) rfl j10_ok (by decide) rfl (okO_iff.mp h6) (by decide) w700 d_Bp_lay_16 ?_
    refine x_alen (t := 0) C (okO_iff.mp h6) (by decide) d_Bp_lay_19 ?_
    refine x_icmp_lt (tgt := 25) C d_Bp_lay_20 (by decide) (fun _ => ?_) (fun _ => ?_)
    · refine x_iconst (v := (0 : Int32)) C d_Bp_lay_25 (by decide) ?_
      refine x_istore_n (lv' := [(2, .int (0 : Int32)), (0, .ref v0R), (1, .int v1I)]) C d_Bp_lay_26 (by decide) rfl rfl ?_
      refine x_lv [1, 2, 0] rfl ?_
      exact IH.2.2 v0R v1I ((0 : Int32)) (σ4)
    · refine x_lv [] rfl ?_
      exact IH.2.1  (σ4)
set_option maxRecDepth 20000 in
theorem s_Bp_lay_1 {G : GX} {p : Program} {l : Launch} {e : Env} {s : State} {m : MethodId} {args : Array Value} {below : List Frame} {meth : Method} {c : Code} {z0 u0 n : Nat} (C : Cx G p s m args meth c prog_1_method_38_code 3 "BellPlate" ((some FieldType.int))) (IH : I_Bp_lay G p l e s m args below meth c z0 u0 n)  (σ : AM) : VX (QM eI G args s below z0 u0) G p l e s m args below meth c 1 z0 u0 3 (lpK (lpn F_Bp_lay n) (T_Bp_lay_1  σ)) 23 [] [] σ := by
  unfold T_Bp_lay_1
  refine x_iconst (v := ((-1) : Int32)) C d_Bp_lay_23 (by decide) ?_
  exact x_iret C d_Bp_lay_24
set_option maxRecDepth 20000 in
theorem s_Bp_lay_2 {G : GX} {p : Program} {l : Launch} {e : Env} {s : State} {m : MethodId} {args : Array Value} {below : List Frame} {meth : Method} {c : Code} {z0 u0 n : Nat} (C : Cx G p s m args meth c prog_1_method_38_code 3 "BellPlate" ((some FieldType.int))) (IH : I_Bp_lay G p l e s m args below meth c z0 u0 n) (v0R : Nat) (v1I : Int32) (v2I : Int32) (σ : AM) : VX (QM eI G args s below z0 u0) G p l e s m args below meth c 1 z0 u0 3 (lpK (lpn F_Bp_lay n) (T_Bp_lay_2 v0R v1I v2I σ)) 27 [(0, .ref v0R), (1, .int v1I), (2, .int v2I)] [] σ := by
  unfold T_Bp_lay_2
  refine x_iload_n C d_Bp_lay_27 2 rfl ?_
  refine x_aload_n C d_Bp_lay_28 0 rfl ?_
  refine x_gd (fun h1 => ?_)
  refine x_getI (k := 11) C (okO_iff.mp h1) rfl j10_ok (by decide) rfl w701 d_Bp_lay_29 ?_
  refine x_icmp_ge (tgt := 53) C d_Bp_lay_32 (by decide) (fun _ => ?_) (fun _ => ?_)
  · refine x_aload_n C d_Bp_lay_35 0 rfl ?_
    refine x_gd (fun h2 => ?_)
    refine x_getR (k := 10) (kv := 101) C (okO_iff.mp h1) rfl j10_ok (by decide) rfl (okO_iff.mp h2) (by decide) w700 d_Bp_lay_36 ?_
    refine x_iload_n C d_Bp_lay_39 2 rfl ?_
    refine x_gd (fun h3 => ?_)
    refine x_aldI C (okO_iff.mp h2) (inB_iff.mp h3) d_Bp_lay_40 ?_
    refine x_iload_n C d_Bp_lay_41 1 rfl ?_
    refine x_icmp_ne (tgt := 47) C d_Bp_lay_42 (by decide) (fun _ => ?_) (fun _ => ?_)
    · refine x_iconst (v := ((-1) : Int32)) C d_Bp_lay_45 (by decide) ?_
      exact x_iret C d_Bp_lay_46
    · refine x_iinc (v := v2I + (1 : Int32)) (lv' := [(2, .int (v2I + (1 : Int32))), (0, .ref v0R), (1, .int v1I)]) C d_Bp_lay_47 2 rfl rfl (by decide) rfl ?_
      refine x_goto (tgt := 27) C d_Bp_lay_50 (by decide) ?_
      refine x_lv [1, 2, 0] rfl ?_
      exact IH.2.2 v0R v1I (v2I + (1 : Int32)) (σ)
  · refine x_aload_n C d_Bp_lay_53 0 rfl ?_
    refine x_gd (fun h4 => ?_)
    refine x_getR (k := 10) (kv := 101) C (okO_iff.mp h1) rfl j10_ok (by decide) rfl (okO_iff.mp h4) (by decide) w700 d_Bp_lay_54 ?_
    refine x_aload_n C d_Bp_lay_57 0 rfl ?_
    refine x_getI (k := 11) C (okO_iff.mp h1) rfl j10_ok (by decide) rfl w701 d_Bp_lay_58 ?_
    refine x_iload_n C d_Bp_lay_61 1 rfl ?_
    refine x_gd (fun h5 => ?_)
    refine x_astI C (okO_iff.mp h4) (inB_iff.mp h5) d_Bp_lay_62 ?_
    refine x_letS (fun σ6 e7 => ?_)
    refine x_aload_n C d_Bp_lay_63 0 rfl ?_
    refine x_dup C d_Bp_lay_64 rfl ?_
    refine x_getI (k := 11) C (by first | exact (okO_iff.mp h1) | (rw [e7]; exact (okO_iff.mp h1))) rfl j10_ok (by decide) rfl w701 d_Bp_lay_65 ?_
    refine x_iconst (v := (1 : Int32)) C d_Bp_lay_68 (by decide) ?_
    refine x_iadd C d_Bp_lay_69 ?_
    refine x_putI (k := 11) C (by first | exact (okO_iff.mp h1) | (rw [e7]; exact (okO_iff.mp h1))) rfl j10_ok y10_ok n10_ok (by decide) rfl rfl rfl rfl w701 d_Bp_lay_70 ?_
    refine x_letS (fun σ8 e9 => ?_)
    refine x_aload_n C d_Bp_lay_73 0 rfl ?_
    refine x_getI (k := 11) C (by first | exact (okO_iff.mp h1) | (rw [e9, e7]; exact (okO_iff.mp h1))) rfl j10_ok (by decide) rfl w701 d_Bp_lay_74 ?_
    exact x_iret C d_Bp_lay_77
theorem i_Bp_lay {G : GX} {p : Program} {l : Launch} {e : Env} {s : State} {m : MethodId} {args : Array Value} {below : List Frame} {meth : Method} {c : Code} {z0 u0 : Nat} (C : Cx G p s m args meth c prog_1_method_38_code 3 "BellPlate" ((some FieldType.int))) (n : Nat) : I_Bp_lay G p l e s m args below meth c z0 u0 n := by
  induction n with
  | zero => exact ⟨fun _ _ _ => x_none, fun _ => x_none, fun _ _ _ _ => x_none⟩
  | succ n IH => exact ⟨fun v0R v1I σ => s_Bp_lay_0 C IH v0R v1I σ, fun σ => s_Bp_lay_1 C IH σ, fun v0R v1I v2I σ => s_Bp_lay_2 C IH v0R v1I v2I σ⟩
theorem c_Bp_lay (G : GX) (l : Launch) (v0R : Nat) (v1I : Int32) (σ : AM) : CT eI G l 1 y_Bp_lay prog_1_method_38_code 3 ((some FieldType.int)) [.ref v0R, .int v1I] σ (M_Bp_lay v0R v1I σ) := by
  refine ct_of (by decide +kernel) (Nat.le_of_ble_eq_true rfl) (fun p e s m args below meth c C hin => ?_)
  refine x_lve (lv' := [(0, .ref v0R), (1, .int v1I)]) rfl ?_
  intro r σ' h
  obtain ⟨n, hn⟩ := (lp_iff _ _ _).mp h
  exact (i_Bp_lay C n).1 v0R v1I σ r σ' hn
/-! BellPlate.clear()Z -/
abbrev y_Bp_clear : MethodName := ⟨"BellPlate", "clear", "()Z"⟩
theorem k_Bp_clear : y_Bp_clear.cls ≠ "java/lang/invoke/MethodHandle" ∧ y_Bp_clear.cls ≠ "java/lang/invoke/VarHandle" ∧ (parseMethodDescriptor y_Bp_clear.desc).map (fun d => d.parameters.length) = some 0 := by decide +kernel
theorem d_Bp_clear_0 : decode prog_1_method_39_code 0 = .ok (.aload_n 0, 1) := by decide +kernel
theorem d_Bp_clear_1 : decode prog_1_method_39_code 1 = .ok (.iconst 0, 1) := by decide +kernel
theorem d_Bp_clear_2 : decode prog_1_method_39_code 2 = .ok (.putfield 97, 3) := by decide +kernel
theorem d_Bp_clear_5 : decode prog_1_method_39_code 5 = .ok (.iconst 1, 1) := by decide +kernel
theorem d_Bp_clear_6 : decode prog_1_method_39_code 6 = .ok (.ireturn, 1) := by decide +kernel
abbrev S_Bp_clear : Type := Nat × Nat × AM
noncomputable def T_Bp_clear_0 (v0R : Nat) (σ : AM) : S_Bp_clear ⊕ Option (Int32 × AM) :=
  gdT (okO σ v0R 11) <| letT (sI σ v0R 11 (0 : Int32)) fun σ2 => .inr (some ((1 : Int32), σ2))
noncomputable def F_Bp_clear : S_Bp_clear → S_Bp_clear ⊕ Option (Int32 × AM) := fun s => match s.1 with
  | _ => T_Bp_clear_0 (s.2.1) (s.2.2)
noncomputable def L_Bp_clear_0 (v0R : Nat) (σ : AM) : Option (Int32 × AM) := lp F_Bp_clear (0, v0R, σ)
set_option maxRecDepth 20000 in
theorem E_Bp_clear_0 (v0R : Nat) (σ : AM) : L_Bp_clear_0 v0R σ = (gd (okO σ v0R 11) <| letT (sI σ v0R 11 (0 : Int32)) fun σ2 => (some ((1 : Int32), σ2))) := by
  unfold L_Bp_clear_0
  rw [lp_eq]
  show lpK (lp F_Bp_clear) (T_Bp_clear_0 v0R σ) = _
  unfold T_Bp_clear_0
  simp only [lpK_ite, lq_inl, lq_inr, lpK_bnd, lpK_gd, lq_let]
  try rfl
noncomputable def M_Bp_clear (v0R : Nat) (σ : AM) : Option (Int32 × AM) := mw σ (L_Bp_clear_0 v0R σ)
def I_Bp_clear (G : GX) (p : Program) (l : Launch) (e : Env) (s : State) (m : MethodId) (args : Array Value) (below : List Frame) (meth : Method) (c : Code) (z0 u0 n : Nat) : Prop :=
  (∀ (v0R : Nat) (σ : AM), VX (QM eI G args s below z0 u0) G p l e s m args below meth c 0 z0 u0 1 (lpn F_Bp_clear n (0, v0R, σ)) 0 [(0, .ref v0R)] [] σ)
set_option maxRecDepth 20000 in
theorem s_Bp_clear_0 {G : GX} {p : Program} {l : Launch} {e : Env} {s : State} {m : MethodId} {args : Array Value} {below : List Frame} {meth : Method} {c : Code} {z0 u0 n : Nat} (C : Cx G p s m args meth c prog_1_method_39_code 1 "BellPlate" ((some FieldType.boolean))) (IH : I_Bp_clear G p l e s m args below meth c z0 u0 n) (v0R : Nat) (σ : AM) : VX (QM eI G args s below z0 u0) G p l e s m args below meth c 0 z0 u0 1 (lpK (lpn F_Bp_clear n) (T_Bp_clear_0 v0R σ)) 0 [(0, .ref v0R)] [] σ := by
  unfold T_Bp_clear_0
  refine x_aload_n C d_Bp_clear_0 0 rfl ?_
  refine x_iconst (v := (0 : Int32)) C d_Bp_clear_1 (by decide) ?_
  refine x_gd (fun h1 => ?_)
  refine x_putI (k := 11) C (okO_iff.mp h1) rfl j10_ok y10_ok n10_ok (by decide) rfl rfl rfl rfl w701 d_Bp_clear_2 ?_
  refine x_letS (fun σ2 e3 => ?_)
  refine x_iconst (v := (1 : Int32)) C d_Bp_clear_5 (by decide) ?_
  exact x_zret C (by decide) d_Bp_clear_6
theorem i_Bp_clear {G : GX} {p : Program} {l : Launch} {e : Env} {s : State} {m : MethodId} {args : Array Value} {below : List Frame} {meth : Method} {c : Code} {z0 u0 : Nat} (C : Cx G p s m args meth c prog_1_method_39_code 1 "BellPlate" ((some FieldType.boolean))) (n : Nat) : I_Bp_clear G p l e s m args below meth c z0 u0 n := by
  induction n with
  | zero => exact fun _ _ => x_none
  | succ n IH => exact fun v0R σ => s_Bp_clear_0 C IH v0R σ
theorem c_Bp_clear (G : GX) (l : Launch) (v0R : Nat) (σ : AM) : CT eI G l 0 y_Bp_clear prog_1_method_39_code 1 ((some FieldType.boolean)) [.ref v0R] σ (M_Bp_clear v0R σ) := by
  refine ct_of (by decide +kernel) (Nat.le_of_ble_eq_true rfl) (fun p e s m args below meth c C hin => ?_)
  refine x_lve (lv' := [(0, .ref v0R)]) rfl ?_
  intro r σ' h
  obtain ⟨n, hn⟩ := (lp_iff _ _ _).mp h
  exact (i_Bp_clear C n) v0R σ r σ' hn
/-! BellPlate.feather(I)I -/
abbrev y_Bp_feather : MethodName := ⟨"BellPlate", "feather", "(I)I"⟩
theorem k_Bp_feather : y_Bp_feather.cls ≠ "java/lang/invoke/MethodHandle" ∧ y_Bp_feather.cls ≠ "java/lang/invoke/VarHandle" ∧ (parseMethodDescriptor y_Bp_feather.desc).map (fun d => d.parameters.length) = some 1 := by decide +kernel
theorem d_Bp_feather_0 : decode prog_1_method_40_code 0 = .ok (.aload_n 0, 1) := by decide +kernel
theorem d_Bp_feather_1 : decode prog_1_method_40_code 1 = .ok (.getfield 19, 3) := by decide +kernel
theorem d_Bp_feather_4 : decode prog_1_method_40_code 4 = .ok (.iload_n 1, 1) := by decide +kernel
theorem d_Bp_feather_5 : decode prog_1_method_40_code 5 = .ok (.invokevirtual 128, 3) := by decide +kernel
theorem d_Bp_feather_8 : decode prog_1_method_40_code 8 = .ok (.ifCond .ne 5, 3) := by decide +kernel
theorem d_Bp_feather_11 : decode prog_1_method_40_code 11 = .ok (.iconst (-1), 1) := by decide +kernel
theorem d_Bp_feather_12 : decode prog_1_method_40_code 12 = .ok (.ireturn, 1) := by decide +kernel
theorem d_Bp_feather_13 : decode prog_1_method_40_code 13 = .ok (.aload_n 0, 1) := by decide +kernel
theorem d_Bp_feather_14 : decode prog_1_method_40_code 14 = .ok (.getfield 28, 3) := by decide +kernel
theorem d_Bp_feather_17 : decode prog_1_method_40_code 17 = .ok (.iload_n 1, 1) := by decide +kernel
theorem d_Bp_feather_18 : decode prog_1_method_40_code 18 = .ok (.invokevirtual 136, 3) := by decide +kernel
theorem d_Bp_feather_21 : decode prog_1_method_40_code 21 = .ok (.lstore_n 2, 1) := by decide +kernel
theorem d_Bp_feather_22 : decode prog_1_method_40_code 22 = .ok (.iconst 0, 1) := by decide +kernel
theorem d_Bp_feather_23 : decode prog_1_method_40_code 23 = .ok (.istore 4, 2) := by decide +kernel
theorem d_Bp_feather_25 : decode prog_1_method_40_code 25 = .ok (.iconst 0, 1) := by decide +kernel
theorem d_Bp_feather_26 : decode prog_1_method_40_code 26 = .ok (.istore 5, 2) := by decide +kernel
theorem d_Bp_feather_28 : decode prog_1_method_40_code 28 = .ok (.iload 5, 2) := by decide +kernel
theorem d_Bp_feather_30 : decode prog_1_method_40_code 30 = .ok (.aload_n 0, 1) := by decide +kernel
theorem d_Bp_feather_31 : decode prog_1_method_40_code 31 = .ok (.getfield 97, 3) := by decide +kernel
theorem d_Bp_feather_34 : decode prog_1_method_40_code 34 = .ok (.if_icmp .ge 40, 3) := by decide +kernel
theorem d_Bp_feather_37 : decode prog_1_method_40_code 37 = .ok (.iload 4, 2) := by decide +kernel
theorem d_Bp_feather_39 : decode prog_1_method_40_code 39 = .ok (.iconst 1, 1) := by decide +kernel
theorem d_Bp_feather_40 : decode prog_1_method_40_code 40 = .ok (.aload_n 0, 1) := by decide +kernel
theorem d_Bp_feather_41 : decode prog_1_method_40_code 41 = .ok (.getfield 93, 3) := by decide +kernel
theorem d_Bp_feather_44 : decode prog_1_method_40_code 44 = .ok (.iload 5, 2) := by decide +kernel
theorem d_Bp_feather_46 : decode prog_1_method_40_code 46 = .ok (.iaload, 1) := by decide +kernel
theorem d_Bp_feather_47 : decode prog_1_method_40_code 47 = .ok (.ishl, 1) := by decide +kernel
theorem d_Bp_feather_48 : decode prog_1_method_40_code 48 = .ok (.ior, 1) := by decide +kernel
theorem d_Bp_feather_49 : decode prog_1_method_40_code 49 = .ok (.istore 4, 2) := by decide +kernel
theorem d_Bp_feather_51 : decode prog_1_method_40_code 51 = .ok (.lload_n 2, 1) := by decide +kernel
theorem d_Bp_feather_52 : decode prog_1_method_40_code 52 = .ok (.iload 4, 2) := by decide +kernel
theorem d_Bp_feather_54 : decode prog_1_method_40_code 54 = .ok (.invokestatic 173, 3) := by decide +kernel
theorem d_Bp_feather_57 : decode prog_1_method_40_code 57 = .ok (.ifCond .eq 11, 3) := by decide +kernel
theorem d_Bp_feather_60 : decode prog_1_method_40_code 60 = .ok (.aload_n 0, 1) := by decide +kernel
theorem d_Bp_feather_61 : decode prog_1_method_40_code 61 = .ok (.getfield 93, 3) := by decide +kernel
theorem d_Bp_feather_64 : decode prog_1_method_40_code 64 = .ok (.iload 5, 2) := by decide +kernel
theorem d_Bp_feather_66 : decode prog_1_method_40_code 66 = .ok (.iaload, 1) := by decide +kernel
theorem d_Bp_feather_67 : decode prog_1_method_40_code 67 = .ok (.ireturn, 1) := by decide +kernel
theorem d_Bp_feather_68 : decode prog_1_method_40_code 68 = .ok (.iinc 5 1, 3) := by decide +kernel
theorem d_Bp_feather_71 : decode prog_1_method_40_code 71 = .ok (.goto (-43), 3) := by decide +kernel
theorem d_Bp_feather_74 : decode prog_1_method_40_code 74 = .ok (.iconst (-1), 1) := by decide +kernel
theorem d_Bp_feather_75 : decode prog_1_method_40_code 75 = .ok (.ireturn, 1) := by decide +kernel
abbrev S_Bp_feather : Type := Nat × Nat × Int32 × Int64 × Int32 × Int32 × AM
noncomputable def T_Bp_feather_0 (v0R : Nat) (v1I : Int32) (σ : AM) : S_Bp_feather ⊕ Option (Int32 × AM) :=
  gdT (okO σ v0R 11) <| gdT (okO σ (aR σ v0R 1) 1) <| bndT (M_Tw_hasWeights (aR σ v0R 1) v1I σ) fun r3 σ4 => if r3 = 0 then (.inr (some (((-1) : Int32), σ4))) else (gdT (okO σ4 v0R 11) <| gdT (okO σ4 (aR σ4 v0R 2) 3) <| bndT (M_Ls_listOf (aR σ4 v0R 2) v1I σ4) fun r7 σ8 => .inl (1, v0R, 0, r7, (0 : Int32), (0 : Int32), σ8))
noncomputable def T_Bp_feather_1 (v0R : Nat) (v2J : Int64) (v4I : Int32) (v5I : Int32) (σ : AM) : S_Bp_feather ⊕ Option (Int32 × AM) :=
  gdT (okO σ v0R 11) <| if v5I < (aI σ v0R 11) then (gdT (okO σ (aR σ v0R 10) 101) <| gdT (inB v5I (aN σ (aR σ v0R 10))) <| letT (v4I ||| ((1 : Int32) <<< ((aI σ (aR σ v0R 10) v5I.toNatClampNeg) &&& 31))) fun x4 => bndT (M_St_has v2J x4 σ) fun r5 σ6 => if r5 = 0 then (.inl (1, v0R, 0, v2J, x4, v5I + (1 : Int32), σ6)) else (gdT (okO σ6 v0R 11) <| gdT (okO σ6 (aR σ6 v0R 10) 101) <| gdT (inB v5I (aN σ6 (aR σ6 v0R 10))) <| .inr (some ((aI σ6 (aR σ6 v0R 10) v5I.toNatClampNeg), σ6)))) else (.inr (some (((-1) : Int32), σ)))
noncomputable def F_Bp_feather : S_Bp_feather → S_Bp_feather ⊕ Option (Int32 × AM) := fun s => match s.1 with
  | 0 => T_Bp_feather_0 (s.2.1) (s.2.2.1) (s.2.2.2.2.2.2)
  | _ => T_Bp_feather_1 (s.2.1) (s.2.2.2.1) (s.2.2.2.2.1) (s.2.2.2.2.2.1) (s.2.2.2.2.2.2)
noncomputable def L_Bp_feather_0 (v0R : Nat) (v1I : Int32) (σ : AM) : Option (Int32 × AM) := lp F_Bp_feather (0, v0R, v1I, 0, 0, 0, σ)
noncomputable def L_Bp_feather_1 (v0R : Nat) (v2J : Int64) (v4I : Int32) (v5I : Int32) (σ : AM) : Option (Int32 × AM) := lp F_Bp_feather (1, v0R, 0, v2J, v4I, v5I, σ)
set_option maxRecDepth 20000 in
theorem E_Bp_feather_0 (v0R : Nat) (v1I : Int32) (σ : AM) : L_Bp_feather_0 v0R v1I σ = (gd (okO σ v0R 11) <| gd (okO σ (aR σ v0R 1) 1) <| bnd (M_Tw_hasWeights (aR σ v0R 1) v1I σ) fun r3 σ4 => if r3 = 0 then ((some (((-1) : Int32), σ4))) else (gd (okO σ4 v0R 11) <| gd (okO σ4 (aR σ4 v0R 2) 3) <| bnd (M_Ls_listOf (aR σ4 v0R 2) v1I σ4) fun r7 σ8 => L_Bp_feather_1 v0R r7 ((0 : Int32)) ((0 : Int32)) σ8)) := by
  unfold L_Bp_feather_0
  rw [lp_eq]
  show lpK (lp F_Bp_feather) (T_Bp_feather_0 v0R v1I σ) = _
  unfold T_Bp_feather_0
  simp only [lpK_ite, lq_inl, lq_inr, lpK_bnd, lpK_gd, lq_let]
  try rfl
set_option maxRecDepth 20000 in
theorem E_Bp_feather_1 (v0R : Nat) (v2J : Int64) (v4I : Int32) (v5I : Int32) (σ : AM) : L_Bp_feather_1 v0R v2J v4I v5I σ = (gd (okO σ v0R 11) <| if v5I < (aI σ v0R 11) then (gd (okO σ (aR σ v0R 10) 101) <| gd (inB v5I (aN σ (aR σ v0R 10))) <| letT (v4I ||| ((1 : Int32) <<< ((aI σ (aR σ v0R 10) v5I.toNatClampNeg) &&& 31))) fun x4 => bnd (M_St_has v2J x4 σ) fun r5 σ6 => if r5 = 0 then (L_Bp_feather_1 v0R v2J x4 (v5I + (1 : Int32)) σ6) else (gd (okO σ6 v0R 11) <| gd (okO σ6 (aR σ6 v0R 10) 101) <| gd (inB v5I (aN σ6 (aR σ6 v0R 10))) <| (some ((aI σ6 (aR σ6 v0R 10) v5I.toNatClampNeg), σ6)))) else ((some (((-1) : Int32), σ)))) := by
  unfold L_Bp_feather_1
  rw [lp_eq]
  show lpK (lp F_Bp_feather) (T_Bp_feather_1 v0R v2J v4I v5I σ) = _
  unfold T_Bp_feather_1
  simp only [lpK_ite, lq_inl, lq_inr, lpK_bnd, lpK_gd, lq_let]
  try rfl
noncomputable def M_Bp_feather (v0R : Nat) (v1I : Int32) (σ : AM) : Option (Int32 × AM) := mw σ (L_Bp_feather_0 v0R v1I σ)
def I_Bp_feather (G : GX) (p : Program) (l : Launch) (e : Env) (s : State) (m : MethodId) (args : Array Value) (below : List Frame) (meth : Method) (c : Code) (z0 u0 n : Nat) : Prop :=
  (∀ (v0R : Nat) (v1I : Int32) (σ : AM), VX (QM eI G args s below z0 u0) G p l e s m args below meth c 4 z0 u0 6 (lpn F_Bp_feather n (0, v0R, v1I, 0, 0, 0, σ)) 0 [(0, .ref v0R), (1, .int v1I)] [] σ) ∧
  (∀ (v0R : Nat) (v2J : Int64) (v4I : Int32) (v5I : Int32) (σ : AM), VX (QM eI G args s below z0 u0) G p l e s m args below meth c 4 z0 u0 6 (lpn F_Bp_feather n (1, v0R, 0, v2J, v4I, v5I, σ)) 28 [(0, .ref v0R), (2, .long v2J), (4, .int v4I), (5, .int v5I)] [] σ)
set_option maxRecDepth 20000 in
theorem s_Bp_feather_0 {G : GX} {p : Program} {l : Launch} {e : Env} {s : State} {m : MethodId} {args : Array Value} {below : List Frame} {meth : Method} {c : Code} {z0 u0 n : Nat} (C : Cx G p s m args meth c prog_1_method_40_code 6 "BellPlate" ((some FieldType.int))) (IH : I_Bp_feather G p l e s m args below meth c z0 u0 n) (v0R : Nat) (v1I : Int32) (σ : AM) : VX (QM eI G args s below z0 u0) G p l e s m args below meth c 4 z0 u0 6 (lpK (lpn F_Bp_feather n) (T_Bp_feather_0 v0R v1I σ)) 0 [(0, .ref v0R), (1, .int v1I)] [] σ := by
  unfold T_Bp_feather_0
  refine x_aload_n C d_Bp_feather_0 0 rfl ?_
  refine x_gd (fun h1 => ?_)
  refine x_gd (fun h2 => ?_)
  refine x_getR (k := 1) (kv := 1) C (okO_iff.mp h1) rfl j10_ok (by decide) rfl (okO_iff.mp h2) (by decide) w691 d_Bp_feather_1 ?_
  refine x_iload_n C d_Bp_feather_4 1 rfl ?_
  refine x_callVI (As := [.int v1I]) C (c_Tw_hasWeights G l (aR σ v0R 1) v1I σ) (okO_iff.mp h2) rfl w978 w979 w977 w980 w122 k_Tw_hasWeights rfl (by decide) (by decide) rfl (Nat.le_of_ble_eq_true rfl) d_Bp_feather_5 (fun r3 σ4 => ?_)
  refine x_if_ne (tgt := 13) C d_Bp_feather_8 (by decide) (fun _ => ?_) (fun _ => ?_)
  · refine x_iconst (v := ((-1) : Int32)) C d_Bp_feather_11 (by decide) ?_
    exact x_iret C d_Bp_feather_12
  · refine x_aload_n C d_Bp_feather_13 0 rfl ?_
    refine x_gd (fun h5 => ?_)
    refine x_gd (fun h6 => ?_)
    refine x_getR (k := 2) (kv := 3) C (okO_iff.mp h5) rfl j10_ok (by decide) rfl (okO_iff.mp h6) (by decide) w692 d_Bp_feather_14 ?_
    refine x_iload_n C d_Bp_feather_17 1 rfl ?_
    refine x_callVJ (As := [.int v1I]) C (c_Ls_listOf G l (aR σ4 v0R 2) v1I σ4) (okO_iff.mp h6) rfl w991 w992 w990 w993 w123 k_Ls_listOf rfl (by decide) (by decide) rfl (Nat.le_of_ble_eq_true rfl) d_Bp_feather_18 (fun r7 σ8 => ?_)
    refine x_lstore_n (lv' := [(2, .long r7), (0, .ref v0R), (1, .int v1I)]) C d_Bp_feather_21 (by decide) rfl rfl ?_
    refine x_iconst (v := (0 : Int32)) C d_Bp_feather_22 (by decide) ?_
    refine x_istore (lv' := [(4, .int (0 : Int32)), (2, .long r7), (0, .ref v0R), (1, .int v1I)]) C d_Bp_feather_23 (by decide) rfl ?_
    refine x_iconst (v := (0 : Int32)) C d_Bp_feather_25 (by decide) ?_
    refine x_istore (lv' := [(5, .int (0 : Int32)), (4, .int (0 : Int32)), (2, .long r7), (0, .ref v0R), (1, .int v1I)]) C d_Bp_feather_26 (by decide) rfl ?_
    refine x_lv [3, 2, 1, 0] rfl ?_
    exact IH.2 v0R r7 ((0 : Int32)) ((0 : Int32)) (σ8)
set_option maxRecDepth 20000 in
theorem s_Bp_feather_1 {G : GX} {p : Program} {l : Launch} {e : Env} {s : State} {m : MethodId} {args : Array Value} {below : List Frame} {meth : Method} {c : Code} {z0 u0 n : Nat} (C : Cx G p s m args meth c prog_1_method_40_code 6 "BellPlate" ((some FieldType.int))) (IH : I_Bp_feather G p l e s m args below meth c z0 u0 n) (v0R : Nat) (v2J : Int64) (v4I : Int32) (v5I : Int32) (σ : AM) : VX (QM eI G args s below z0 u0) G p l e s m args below meth c 4 z0 u0 6 (lpK (lpn F_Bp_feather n) (T_Bp_feather_1 v0R v2J v4I v5I σ)) 28 [(0, .ref v0R), (2, .long v2J), (4, .int v4I), (5, .int v5I)] [] σ := by
  unfold T_Bp_feather_1
  refine x_iload C d_Bp_feather_28 3 rfl ?_
  refine x_aload_n C d_Bp_feather_30 0 rfl ?_
  refine x_gd (fun h1 => ?_)
  refine x_getI (k := 11) C (okO_iff.mp h1) rfl j10_ok (by decide) rfl w701 d_Bp_feather_31 ?_
  refine x_icmp_ge (tgt := 74) C d_Bp_feather_34 (by decide) (fun _ => ?_) (fun _ => ?_)
  · refine x_iload C d_Bp_feather_37 2 rfl ?_
    refine x_iconst (v := (1 : Int32)) C d_Bp_feather_39 (by decide) ?_
    refine x_aload_n C d_Bp_feather_40 0 rfl ?_
    refine x_gd (fun h2 => ?_)
    refine x_getR (k := 10) (kv := 101) C (okO_iff.mp h1) rfl j10_ok (by decide) rfl (okO_iff.mp h2) (by decide) w700 d_Bp_feather_41 ?_
    refine x_iload C d_Bp_feather_44 3 rfl ?_
    refine x_gd (fun h3 => ?_)
    refine x_aldI C (okO_iff.mp h2) (inB_iff.mp h3) d_Bp_feather_46 ?_
    refine x_ishl C d_Bp_feather_47 ?_
    refine x_ior C d_Bp_feather_48 ?_
    refine x_letI (fun x4 _ => ?_)
    refine x_istore (lv' := [(4, .int x4), (0, .ref v0R), (2, .long v2J), (5, .int v5I)]) C d_Bp_feather_49 (by decide) rfl ?_
    refine x_lload_n C d_Bp_feather_51 2 rfl ?_
    refine x_iload C d_Bp_feather_52 0 rfl ?_
    refine x_callSI (As := [.long v2J, .int x4]) C (c_St_has G l v2J x4 σ) w1101 w1100 w1102 w141 k_St_has rfl (by decide) (by decide) rfl (Nat.le_of_ble_eq_true rfl) d_Bp_feather_54 (fun r5 σ6 => ?_)
    refine x_if_eq (tgt := 68) C d_Bp_feather_57 (by decide) (fun _ => ?_) (fun _ => ?_)
    · refine x_iinc (v := v5I + (1 : Int32)) (lv' := [(5, .int (v5I + (1 : Int32))), (4, .int x4), (0, .ref v0R), (2, .long v2J)]) C d_Bp_feather_68 3 rfl rfl (by decide) rfl ?_
      refine x_goto (tgt := 28) C d_Bp_feather_71 (by decide) ?_
      refine x_lv [2, 3, 1, 0] rfl ?_
      exact IH.2 v0R v2J x4 (v5I + (1 : Int32)) (σ6)
    · refine x_aload_n C d_Bp_feather_60 1 rfl ?_
      refine x_gd (fun h7 => ?_)
      refine x_gd (fun h8 => ?_)
      refine x_getR (k := 10) (kv := 101) C (okO_iff.mp h7) rfl j10_ok (by decide) rfl (okO_iff.mp h8) (by decide) w700 d_Bp_feather_61 ?_
      refine x_iload C d_Bp_feather_64 3 rfl ?_
      refine x_gd (fun h9 => ?_)
      refine x_aldI C (okO_iff.mp h8) (inB_iff.mp h9) d_Bp_feather_66 ?_
      exact x_iret C d_Bp_feather_67
  · refine x_iconst (v := ((-1) : Int32)) C d_Bp_feather_74 (by decide) ?_
    exact x_iret C d_Bp_feather_75
theorem i_Bp_feather {G : GX} {p : Program} {l : Launch} {e : Env} {s : State} {m : MethodId} {args : Array Value} {below : List Frame} {meth : Method} {c : Code} {z0 u0 : Nat} (C : Cx G p s m args meth c prog_1_method_40_code 6 "BellPlate" ((some FieldType.int))) (n : Nat) : I_Bp_feather G p l e s m args below meth c z0 u0 n := by
  induction n with
  | zero => exact ⟨fun _ _ _ => x_none, fun _ _ _ _ _ => x_none⟩
  | succ n IH => exact ⟨fun v0R v1I σ => s_Bp_feather_0 C IH v0R v1I σ, fun v0R v2J v4I v5I σ => s_Bp_feather_1 C IH v0R v2J v4I v5I σ⟩
theorem c_Bp_feather (G : GX) (l : Launch) (v0R : Nat) (v1I : Int32) (σ : AM) : CT eI G l 4 y_Bp_feather prog_1_method_40_code 6 ((some FieldType.int)) [.ref v0R, .int v1I] σ (M_Bp_feather v0R v1I σ) := by
  refine ct_of (by decide +kernel) (Nat.le_of_ble_eq_true rfl) (fun p e s m args below meth c C hin => ?_)
  refine x_lve (lv' := [(0, .ref v0R), (1, .int v1I)]) rfl ?_
  intro r σ' h
  obtain ⟨n, hn⟩ := (lp_iff _ _ _).mp h
  exact (i_Bp_feather C n).1 v0R v1I σ r σ' hn
/-! BellPlate.odds(II)I -/
abbrev y_Bp_odds : MethodName := ⟨"BellPlate", "odds", "(II)I"⟩
theorem k_Bp_odds : y_Bp_odds.cls ≠ "java/lang/invoke/MethodHandle" ∧ y_Bp_odds.cls ≠ "java/lang/invoke/VarHandle" ∧ (parseMethodDescriptor y_Bp_odds.desc).map (fun d => d.parameters.length) = some 2 := by decide +kernel
theorem d_Bp_odds_0 : decode prog_1_method_41_code 0 = .ok (.aload_n 0, 1) := by decide +kernel
theorem d_Bp_odds_1 : decode prog_1_method_41_code 1 = .ok (.getfield 44, 3) := by decide +kernel
theorem d_Bp_odds_4 : decode prog_1_method_41_code 4 = .ok (.invokevirtual 159, 3) := by decide +kernel
theorem d_Bp_odds_7 : decode prog_1_method_41_code 7 = .ok (.aload_n 0, 1) := by decide +kernel
theorem d_Bp_odds_8 : decode prog_1_method_41_code 8 = .ok (.getfield 19, 3) := by decide +kernel
theorem d_Bp_odds_11 : decode prog_1_method_41_code 11 = .ok (.iload_n 1, 1) := by decide +kernel
theorem d_Bp_odds_12 : decode prog_1_method_41_code 12 = .ok (.invokevirtual 140, 3) := by decide +kernel
theorem d_Bp_odds_15 : decode prog_1_method_41_code 15 = .ok (.ifCond .eq 22, 3) := by decide +kernel
theorem d_Bp_odds_18 : decode prog_1_method_41_code 18 = .ok (.iload_n 2, 1) := by decide +kernel
theorem d_Bp_odds_19 : decode prog_1_method_41_code 19 = .ok (.ifCond .lt 18, 3) := by decide +kernel
theorem d_Bp_odds_22 : decode prog_1_method_41_code 22 = .ok (.iload_n 2, 1) := by decide +kernel
theorem d_Bp_odds_23 : decode prog_1_method_41_code 23 = .ok (.iconst 1, 1) := by decide +kernel
theorem d_Bp_odds_24 : decode prog_1_method_41_code 24 = .ok (.if_icmp .gt 13, 3) := by decide +kernel
theorem d_Bp_odds_27 : decode prog_1_method_41_code 27 = .ok (.aload_n 0, 1) := by decide +kernel
theorem d_Bp_odds_28 : decode prog_1_method_41_code 28 = .ok (.getfield 44, 3) := by decide +kernel
theorem d_Bp_odds_31 : decode prog_1_method_41_code 31 = .ok (.invokevirtual 165, 3) := by decide +kernel
theorem d_Bp_odds_34 : decode prog_1_method_41_code 34 = .ok (.ifCond .ne 5, 3) := by decide +kernel
theorem d_Bp_odds_37 : decode prog_1_method_41_code 37 = .ok (.iconst (-1), 1) := by decide +kernel
theorem d_Bp_odds_38 : decode prog_1_method_41_code 38 = .ok (.ireturn, 1) := by decide +kernel
theorem d_Bp_odds_39 : decode prog_1_method_41_code 39 = .ok (.aload_n 0, 1) := by decide +kernel
theorem d_Bp_odds_40 : decode prog_1_method_41_code 40 = .ok (.getfield 44, 3) := by decide +kernel
theorem d_Bp_odds_43 : decode prog_1_method_41_code 43 = .ok (.iload_n 1, 1) := by decide +kernel
theorem d_Bp_odds_44 : decode prog_1_method_41_code 44 = .ok (.invokevirtual 351, 3) := by decide +kernel
theorem d_Bp_odds_47 : decode prog_1_method_41_code 47 = .ok (.aload_n 0, 1) := by decide +kernel
theorem d_Bp_odds_48 : decode prog_1_method_41_code 48 = .ok (.getfield 44, 3) := by decide +kernel
theorem d_Bp_odds_51 : decode prog_1_method_41_code 51 = .ok (.invokevirtual 162, 3) := by decide +kernel
theorem d_Bp_odds_54 : decode prog_1_method_41_code 54 = .ok (.iload_n 2, 1) := by decide +kernel
theorem d_Bp_odds_55 : decode prog_1_method_41_code 55 = .ok (.invokestatic 253, 3) := by decide +kernel
theorem d_Bp_odds_58 : decode prog_1_method_41_code 58 = .ok (.ireturn, 1) := by decide +kernel
abbrev S_Bp_odds : Type := Nat × Nat × Int32 × Int32 × AM
noncomputable def T_Bp_odds_0 (v0R : Nat) (v1I : Int32) (v2I : Int32) (σ : AM) : S_Bp_odds ⊕ Option (Int32 × AM) :=
  gdT (okO σ v0R 11) <| gdT (okO σ (aR σ v0R 4) 5) <| bndT (M_Rs_refresh (aR σ v0R 4) σ) fun _ σ4 => gdT (okO σ4 v0R 11) <| gdT (okO σ4 (aR σ4 v0R 1) 1) <| bndT (M_Tw_hasSet (aR σ4 v0R 1) v1I σ4) fun r7 σ8 => if r7 = 0 then (.inl (1, 0, 0, 0, σ8)) else (if v2I < 0 then (.inl (1, 0, 0, 0, σ8)) else (if (1 : Int32) < v2I then (.inl (1, 0, 0, 0, σ8)) else (gdT (okO σ8 v0R 11) <| gdT (okO σ8 (aR σ8 v0R 4) 5) <| bndT (M_Rs_size (aR σ8 v0R 4) σ8) fun r11 σ12 => if r11 = 0 then (.inl (1, 0, 0, 0, σ12)) else (gdT (okO σ12 v0R 11) <| gdT (okO σ12 (aR σ12 v0R 4) 5) <| bndT (M_Rs_weightsRinging (aR σ12 v0R 4) v1I σ12) fun r15 σ16 => gdT (okO σ16 v0R 11) <| gdT (okO σ16 (aR σ16 v0R 4) 5) <| bndT (M_Rs_weights (aR σ16 v0R 4) σ16) fun r19 σ20 => bndT (M_St_lowest r15 r19 v2I σ20) fun r21 σ22 => .inr (some (r21, σ22))))))
noncomputable def T_Bp_odds_1  (σ : AM) : S_Bp_odds ⊕ Option (Int32 × AM) :=
  .inr (some (((-1) : Int32), σ))
noncomputable def F_Bp_odds : S_Bp_odds → S_Bp_odds ⊕ Option (Int32 × AM) := fun s => match s.1 with
  | 0 => T_Bp_odds_0 (s.2.1) (s.2.2.1) (s.2.2.2.1) (s.2.2.2.2)
  | _ => T_Bp_odds_1  (s.2.2.2.2)
noncomputable def L_Bp_odds_0 (v0R : Nat) (v1I : Int32) (v2I : Int32) (σ : AM) : Option (Int32 × AM) := lp F_Bp_odds (0, v0R, v1I, v2I, σ)
noncomputable def L_Bp_odds_1  (σ : AM) : Option (Int32 × AM) := lp F_Bp_odds (1, 0, 0, 0, σ)
set_option maxRecDepth 20000 in
theorem E_Bp_odds_0 (v0R : Nat) (v1I : Int32) (v2I : Int32) (σ : AM) : L_Bp_odds_0 v0R v1I v2I σ = (gd (okO σ v0R 11) <| gd (okO σ (aR σ v0R 4) 5) <| bnd (M_Rs_refresh (aR σ v0R 4) σ) fun _ σ4 => gd (okO σ4 v0R 11) <| gd (okO σ4 (aR σ4 v0R 1) 1) <| bnd (M_Tw_hasSet (aR σ4 v0R 1) v1I σ4) fun r7 σ8 => if r7 = 0 then (L_Bp_odds_1 σ8) else (if v2I < 0 then (L_Bp_odds_1 σ8) else (if (1 : Int32) < v2I then (L_Bp_odds_1 σ8) else (gd (okO σ8 v0R 11) <| gd (okO σ8 (aR σ8 v0R 4) 5) <| bnd (M_Rs_size (aR σ8 v0R 4) σ8) fun r11 σ12 => if r11 = 0 then (L_Bp_odds_1 σ12) else (gd (okO σ12 v0R 11) <| gd (okO σ12 (aR σ12 v0R 4) 5) <| bnd (M_Rs_weightsRinging (aR σ12 v0R 4) v1I σ12) fun r15 σ16 => gd (okO σ16 v0R 11) <| gd (okO σ16 (aR σ16 v0R 4) 5) <| bnd (M_Rs_weights (aR σ16 v0R 4) σ16) fun r19 σ20 => bnd (M_St_lowest r15 r19 v2I σ20) fun r21 σ22 => (some (r21, σ22))))))) := by
  unfold L_Bp_odds_0
  rw [lp_eq]
  show lpK (lp F_Bp_odds) (T_Bp_odds_0 v0R v1I v2I σ) = _
  unfold T_Bp_odds_0
  simp only [lpK_ite, lq_inl, lq_inr, lpK_bnd, lpK_gd, lq_let]
  try rfl
set_option maxRecDepth 20000 in
theorem E_Bp_odds_1  (σ : AM) : L_Bp_odds_1  σ = ((some (((-1) : Int32), σ))) := by
  unfold L_Bp_odds_1
  rw [lp_eq]
  show lpK (lp F_Bp_odds) (T_Bp_odds_1  σ) = _
  unfold T_Bp_odds_1
  simp only [lpK_ite, lq_inl, lq_inr, lpK_bnd, lpK_gd, lq_let]
  try rfl
noncomputable def M_Bp_odds (v0R : Nat) (v1I : Int32) (v2I : Int32) (σ : AM) : Option (Int32 × AM) := mw σ (L_Bp_odds_0 v0R v1I v2I σ)
def I_Bp_odds (G : GX) (p : Program) (l : Launch) (e : Env) (s : State) (m : MethodId) (args : Array Value) (below : List Frame) (meth : Method) (c : Code) (z0 u0 n : Nat) : Prop :=
  (∀ (v0R : Nat) (v1I : Int32) (v2I : Int32) (σ : AM), VX (QM eI G args s below z0 u0) G p l e s m args below meth c 3 z0 u0 3 (lpn F_Bp_odds n (0, v0R, v1I, v2I, σ)) 0 [(0, .ref v0R), (1, .int v1I), (2, .int v2I)] [] σ) ∧
  (∀ (σ : AM), VX (QM eI G args s below z0 u0) G p l e s m args below meth c 3 z0 u0 3 (lpn F_Bp_odds n (1, 0, 0, 0, σ)) 37 [] [] σ)
set_option maxRecDepth 20000 in
theorem s_Bp_odds_0 {G : GX} {p : Program} {l : Launch} {e : Env} {s : State} {m : MethodId} {args : Array Value} {below : List Frame} {meth : Method} {c : Code} {z0 u0 n : Nat} (C : Cx G p s m args meth c prog_1_method_41_code 3 "BellPlate" ((some FieldType.int))) (IH : I_Bp_odds G p l e s m args below meth c z0 u0 n) (v0R : Nat) (v1I : Int32) (v2I : Int32) (σ : AM) : VX (QM eI G args s below z0 u0) G p l e s m args below meth c 3 z0 u0 3 (lpK (lpn F_Bp_odds n) (T_Bp_odds_0 v0R v1I v2I σ)) 0 [(0, .ref v0R), (1, .int v1I), (2, .int v2I)] [] σ := by
  unfold T_Bp_odds_0
  refine x_aload_n C d_Bp_odds_0 0 rfl ?_
  refine x_gd (fun h1 => ?_)
  refine x_gd (fun h2 => ?_)
  refine x_getR (k := 4) (kv := 5) C (okO_iff.mp h1) rfl j10_ok (by decide) rfl (okO_iff.mp h2) (by decide) w694 d_Bp_odds_1 ?_
  refine x_callVV (As := []) C (c_Rs_refresh G l (aR σ v0R 4)  σ) (okO_iff.mp h2) rfl w1035 w1036 w1034 w1037 w125 k_Rs_refresh rfl (by decide) (by decide) rfl (Nat.le_of_ble_eq_true rfl) d_Bp_odds_4 (fun r3 σ4 => ?_)
  refine x_aload_n C d_Bp_odds_7 0 rfl ?_
  refine x_gd (fun h5 => ?_)
  refine x_gd (fun h6 => ?_)
  refine x_getR (k := 1) (kv := 1) C (okO_iff.mp h5) rfl j10_ok (by decide) rfl (okO_iff.mp h6) (by decide) w691 d_Bp_odds_8 ?_
  refine x_iload_n C d_Bp_odds_11 1 rfl ?_
  refine x_callVI (As := [.int v1I]) C (c_Tw_hasSet G l (aR σ4 v0R 1) v1I σ4) (okO_iff.mp h6) rfl w1005 w1006 w1004 w1007 w122 k_Tw_hasSet rfl (by decide) (by decide) rfl (Nat.le_of_ble_eq_true rfl) d_Bp_odds_12 (fun r7 σ8 => ?_)
  refine x_if_eq (tgt := 37) C d_Bp_odds_15 (by decide) (fun _ => ?_) (fun _ => ?_)
  · refine x_lv [] rfl ?_
    exact IH.2  (σ8)
  · refine x_iload_n C d_Bp_odds_18 2 rfl ?_
    refine x_if_lt (tgt := 37) C d_Bp_odds_19 (by decide) (fun _ => ?_) (fun _ => ?_)
    · refine x_lv [] rfl ?_
      exact IH.2  (σ8)
    · refine x_iload_n C d_Bp_odds_22 2 rfl ?_
      refine x_iconst (v := (1 : Int32)) C d_Bp_odds_23 (by decide) ?_
      refine x_icmp_gt (tgt := 37) C d_Bp_odds_24 (by decide) (fun _ => ?_) (fun _ => ?_)
      · refine x_lv [] rfl ?_
        exact IH.2  (σ8)
      · refine x_aload_n C d_Bp_odds_27 0 rfl ?_
        refine x_gd (fun h9 => ?_)
        refine x_gd (fun h10 => ?_)
        refine x_getR (k := 4) (kv := 5) C (okO_iff.mp h9) rfl j10_ok (by decide) rfl (okO_iff.mp h10) (by decide) w694 d_Bp_odds_28 ?_
        refine x_callVI (As := []) C (c_Rs_size G l (aR σ8 v0R 4)  σ8) (okO_iff.mp h10) rfl w1084 w1085 w1083 w1086 w125 k_Rs_size rfl (by decide) (by decide) rfl (Nat.le_of_ble_eq_true rfl) d_Bp_odds_31 (fun r11 σ12 => ?_)
        refine x_if_ne (tgt := 39) C d_Bp_odds_34 (by decide) (fun _ => ?_) (fun _ => ?_)
        · refine x_lv [] rfl ?_
          exact IH.2  (σ12)
        · refine x_aload_n C d_Bp_odds_39 0 rfl ?_
          refine x_gd (fun h13 => ?_)
          refine x_gd (fun h14 => ?_)
          refine x_getR (k := 4) (kv := 5) C (okO_iff.mp h13) rfl j10_ok (by decide) rfl (okO_iff.mp h14) (by decide) w694 d_Bp_odds_40 ?_
          refine x_iload_n C d_Bp_odds_43 1 rfl ?_
          refine x_callVI (As := [.int v1I]) C (c_Rs_weightsRinging G l (aR σ12 v0R 4) v1I σ12) (okO_iff.mp h14) rfl w1640 w1641 w1639 w1642 w125 k_Rs_weightsRinging rfl (by decide) (by decide) rfl (Nat.le_of_ble_eq_true rfl) d_Bp_odds_44 (fun r15 σ16 => ?_)
          refine x_aload_n C d_Bp_odds_47 0 rfl ?_
          refine x_gd (fun h17 => ?_)
          refine x_gd (fun h18 => ?_)
          refine x_getR (k := 4) (kv := 5) C (okO_iff.mp h17) rfl j10_ok (by decide) rfl (okO_iff.mp h18) (by decide) w694 d_Bp_odds_48 ?_
          refine x_callVI (As := []) C (c_Rs_weights G l (aR σ16 v0R 4)  σ16) (okO_iff.mp h18) rfl w1080 w1081 w1079 w1082 w125 k_Rs_weights rfl (by decide) (by decide) rfl (Nat.le_of_ble_eq_true rfl) d_Bp_odds_51 (fun r19 σ20 => ?_)
          refine x_iload_n C d_Bp_odds_54 2 rfl ?_
          refine x_callSI (As := [.int r15, .int r19, .int v2I]) C (c_St_lowest G l r15 r19 v2I σ20) w1315 w1314 w1316 w141 k_St_lowest rfl (by decide) (by decide) rfl (Nat.le_of_ble_eq_true rfl) d_Bp_odds_55 (fun r21 σ22 => ?_)
          exact x_iret C d_Bp_odds_58
set_option maxRecDepth 20000 in
theorem s_Bp_odds_1 {G : GX} {p : Program} {l : Launch} {e : Env} {s : State} {m : MethodId} {args : Array Value} {below : List Frame} {meth : Method} {c : Code} {z0 u0 n : Nat} (C : Cx G p s m args meth c prog_1_method_41_code 3 "BellPlate" ((some FieldType.int))) (IH : I_Bp_odds G p l e s m args below meth c z0 u0 n)  (σ : AM) : VX (QM eI G args s below z0 u0) G p l e s m args below meth c 3 z0 u0 3 (lpK (lpn F_Bp_odds n) (T_Bp_odds_1  σ)) 37 [] [] σ := by
  unfold T_Bp_odds_1
  refine x_iconst (v := ((-1) : Int32)) C d_Bp_odds_37 (by decide) ?_
  exact x_iret C d_Bp_odds_38
theorem i_Bp_odds {G : GX} {p : Program} {l : Launch} {e : Env} {s : State} {m : MethodId} {args : Array Value} {below : List Frame} {meth : Method} {c : Code} {z0 u0 : Nat} (C : Cx G p s m args meth c prog_1_method_41_code 3 "BellPlate" ((some FieldType.int))) (n : Nat) : I_Bp_odds G p l e s m args below meth c z0 u0 n := by
  induction n with
  | zero => exact ⟨fun _ _ _ _ => x_none, fun _ => x_none⟩
  | succ n IH => exact ⟨fun v0R v1I v2I σ => s_Bp_odds_0 C IH v0R v1I v2I σ, fun σ => s_Bp_odds_1 C IH σ⟩
theorem c_Bp_odds (G : GX) (l : Launch) (v0R : Nat) (v1I : Int32) (v2I : Int32) (σ : AM) : CT eI G l 3 y_Bp_odds prog_1_method_41_code 3 ((some FieldType.int)) [.ref v0R, .int v1I, .int v2I] σ (M_Bp_odds v0R v1I v2I σ) := by
  refine ct_of (by decide +kernel) (Nat.le_of_ble_eq_true rfl) (fun p e s m args below meth c C hin => ?_)
  refine x_lve (lv' := [(0, .ref v0R), (1, .int v1I), (2, .int v2I)]) rfl ?_
  intro r σ' h
  obtain ⟨n, hn⟩ := (lp_iff _ _ _).mp h
  exact (i_Bp_odds C n).1 v0R v1I v2I σ r σ' hn
/-! BellPlate.guess(II)I -/
abbrev y_Bp_guess : MethodName := ⟨"BellPlate", "guess", "(II)I"⟩
theorem k_Bp_guess : y_Bp_guess.cls ≠ "java/lang/invoke/MethodHandle" ∧ y_Bp_guess.cls ≠ "java/lang/invoke/VarHandle" ∧ (parseMethodDescriptor y_Bp_guess.desc).map (fun d => d.parameters.length) = some 2 := by decide +kernel
theorem d_Bp_guess_0 : decode prog_1_method_42_code 0 = .ok (.aload_n 0, 1) := by decide +kernel
theorem d_Bp_guess_1 : decode prog_1_method_42_code 1 = .ok (.getfield 44, 3) := by decide +kernel
theorem d_Bp_guess_4 : decode prog_1_method_42_code 4 = .ok (.invokevirtual 159, 3) := by decide +kernel
theorem d_Bp_guess_7 : decode prog_1_method_42_code 7 = .ok (.aload_n 0, 1) := by decide +kernel
theorem d_Bp_guess_8 : decode prog_1_method_42_code 8 = .ok (.getfield 19, 3) := by decide +kernel
theorem d_Bp_guess_11 : decode prog_1_method_42_code 11 = .ok (.iload_n 1, 1) := by decide +kernel
theorem d_Bp_guess_12 : decode prog_1_method_42_code 12 = .ok (.invokevirtual 180, 3) := by decide +kernel
theorem d_Bp_guess_15 : decode prog_1_method_42_code 15 = .ok (.ifCond .eq 22, 3) := by decide +kernel
theorem d_Bp_guess_18 : decode prog_1_method_42_code 18 = .ok (.iload_n 2, 1) := by decide +kernel
theorem d_Bp_guess_19 : decode prog_1_method_42_code 19 = .ok (.ifCond .lt 18, 3) := by decide +kernel
theorem d_Bp_guess_22 : decode prog_1_method_42_code 22 = .ok (.iload_n 2, 1) := by decide +kernel
theorem d_Bp_guess_23 : decode prog_1_method_42_code 23 = .ok (.iconst 2, 1) := by decide +kernel
theorem d_Bp_guess_24 : decode prog_1_method_42_code 24 = .ok (.if_icmp .gt 13, 3) := by decide +kernel
theorem d_Bp_guess_27 : decode prog_1_method_42_code 27 = .ok (.aload_n 0, 1) := by decide +kernel
theorem d_Bp_guess_28 : decode prog_1_method_42_code 28 = .ok (.getfield 44, 3) := by decide +kernel
theorem d_Bp_guess_31 : decode prog_1_method_42_code 31 = .ok (.invokevirtual 165, 3) := by decide +kernel
theorem d_Bp_guess_34 : decode prog_1_method_42_code 34 = .ok (.ifCond .ne 5, 3) := by decide +kernel
theorem d_Bp_guess_37 : decode prog_1_method_42_code 37 = .ok (.iconst (-1), 1) := by decide +kernel
theorem d_Bp_guess_38 : decode prog_1_method_42_code 38 = .ok (.ireturn, 1) := by decide +kernel
theorem d_Bp_guess_39 : decode prog_1_method_42_code 39 = .ok (.aload_n 0, 1) := by decide +kernel
theorem d_Bp_guess_40 : decode prog_1_method_42_code 40 = .ok (.getfield 44, 3) := by decide +kernel
theorem d_Bp_guess_43 : decode prog_1_method_42_code 43 = .ok (.iload_n 1, 1) := by decide +kernel
theorem d_Bp_guess_44 : decode prog_1_method_42_code 44 = .ok (.aload_n 0, 1) := by decide +kernel
theorem d_Bp_guess_45 : decode prog_1_method_42_code 45 = .ok (.getfield 19, 3) := by decide +kernel
theorem d_Bp_guess_48 : decode prog_1_method_42_code 48 = .ok (.invokevirtual 354, 3) := by decide +kernel
theorem d_Bp_guess_51 : decode prog_1_method_42_code 51 = .ok (.iload_n 2, 1) := by decide +kernel
theorem d_Bp_guess_52 : decode prog_1_method_42_code 52 = .ok (.lookupswitch 44 #[(0, 28), (1, 36)], 28) := by decide +kernel
theorem d_Bp_guess_80 : decode prog_1_method_42_code 80 = .ok (.aload_n 0, 1) := by decide +kernel
theorem d_Bp_guess_81 : decode prog_1_method_42_code 81 = .ok (.getfield 44, 3) := by decide +kernel
theorem d_Bp_guess_84 : decode prog_1_method_42_code 84 = .ok (.invokevirtual 358, 3) := by decide +kernel
theorem d_Bp_guess_87 : decode prog_1_method_42_code 87 = .ok (.ireturn, 1) := by decide +kernel
theorem d_Bp_guess_88 : decode prog_1_method_42_code 88 = .ok (.aload_n 0, 1) := by decide +kernel
theorem d_Bp_guess_89 : decode prog_1_method_42_code 89 = .ok (.getfield 44, 3) := by decide +kernel
theorem d_Bp_guess_92 : decode prog_1_method_42_code 92 = .ok (.invokevirtual 361, 3) := by decide +kernel
theorem d_Bp_guess_95 : decode prog_1_method_42_code 95 = .ok (.ireturn, 1) := by decide +kernel
theorem d_Bp_guess_96 : decode prog_1_method_42_code 96 = .ok (.aload_n 0, 1) := by decide +kernel
theorem d_Bp_guess_97 : decode prog_1_method_42_code 97 = .ok (.getfield 44, 3) := by decide +kernel
theorem d_Bp_guess_100 : decode prog_1_method_42_code 100 = .ok (.invokevirtual 364, 3) := by decide +kernel
theorem d_Bp_guess_103 : decode prog_1_method_42_code 103 = .ok (.ireturn, 1) := by decide +kernel
abbrev S_Bp_guess : Type := Nat × Nat × Int32 × Int32 × AM
noncomputable def T_Bp_guess_0 (v0R : Nat) (v1I : Int32) (v2I : Int32) (σ : AM) : S_Bp_guess ⊕ Option (Int32 × AM) :=
  gdT (okO σ v0R 11) <| gdT (okO σ (aR σ v0R 4) 5) <| bndT (M_Rs_refresh (aR σ v0R 4) σ) fun _ σ4 => gdT (okO σ4 v0R 11) <| gdT (okO σ4 (aR σ4 v0R 1) 1) <| bndT (M_Tw_hasThing (aR σ4 v0R 1) v1I σ4) fun r7 σ8 => if r7 = 0 then (.inl (1, 0, 0, 0, σ8)) else (if v2I < 0 then (.inl (1, 0, 0, 0, σ8)) else (if (2 : Int32) < v2I then (.inl (1, 0, 0, 0, σ8)) else (gdT (okO σ8 v0R 11) <| gdT (okO σ8 (aR σ8 v0R 4) 5) <| bndT (M_Rs_size (aR σ8 v0R 4) σ8) fun r11 σ12 => if r11 = 0 then (.inl (1, 0, 0, 0, σ12)) else (gdT (okO σ12 v0R 11) <| gdT (okO σ12 (aR σ12 v0R 4) 5) <| gdT (okO σ12 (aR σ12 v0R 1) 1) <| bndT (M_Rs_countWeightsOf (aR σ12 v0R 4) v1I (aR σ12 v0R 1) σ12) fun _ σ17 => if v2I = (0 : Int32) then (gdT (okO σ17 v0R 11) <| gdT (okO σ17 (aR σ17 v0R 4) 5) <| bndT (M_Rs_likeliest (aR σ17 v0R 4) σ17) fun r21 σ22 => .inr (some (r21, σ22))) else (if v2I = (1 : Int32) then (gdT (okO σ17 v0R 11) <| gdT (okO σ17 (aR σ17 v0R 4) 5) <| bndT (M_Rs_lightest (aR σ17 v0R 4) σ17) fun r26 σ27 => .inr (some (r26, σ27))) else (gdT (okO σ17 v0R 11) <| gdT (okO σ17 (aR σ17 v0R 4) 5) <| bndT (M_Rs_heaviest (aR σ17 v0R 4) σ17) fun r30 σ31 => .inr (some (r30, σ31))))))))
noncomputable def T_Bp_guess_1  (σ : AM) : S_Bp_guess ⊕ Option (Int32 × AM) :=
  .inr (some (((-1) : Int32), σ))
noncomputable def F_Bp_guess : S_Bp_guess → S_Bp_guess ⊕ Option (Int32 × AM) := fun s => match s.1 with
  | 0 => T_Bp_guess_0 (s.2.1) (s.2.2.1) (s.2.2.2.1) (s.2.2.2.2)
  | _ => T_Bp_guess_1  (s.2.2.2.2)
noncomputable def L_Bp_guess_0 (v0R : Nat) (v1I : Int32) (v2I : Int32) (σ : AM) : Option (Int32 × AM) := lp F_Bp_guess (0, v0R, v1I, v2I, σ)
noncomputable def L_Bp_guess_1  (σ : AM) : Option (Int32 × AM) := lp F_Bp_guess (1, 0, 0, 0, σ)
set_option maxRecDepth 20000 in
theorem E_Bp_guess_0 (v0R : Nat) (v1I : Int32) (v2I : Int32) (σ : AM) : L_Bp_guess_0 v0R v1I v2I σ = (gd (okO σ v0R 11) <| gd (okO σ (aR σ v0R 4) 5) <| bnd (M_Rs_refresh (aR σ v0R 4) σ) fun _ σ4 => gd (okO σ4 v0R 11) <| gd (okO σ4 (aR σ4 v0R 1) 1) <| bnd (M_Tw_hasThing (aR σ4 v0R 1) v1I σ4) fun r7 σ8 => if r7 = 0 then (L_Bp_guess_1 σ8) else (if v2I < 0 then (L_Bp_guess_1 σ8) else (if (2 : Int32) < v2I then (L_Bp_guess_1 σ8) else (gd (okO σ8 v0R 11) <| gd (okO σ8 (aR σ8 v0R 4) 5) <| bnd (M_Rs_size (aR σ8 v0R 4) σ8) fun r11 σ12 => if r11 = 0 then (L_Bp_guess_1 σ12) else (gd (okO σ12 v0R 11) <| gd (okO σ12 (aR σ12 v0R 4) 5) <| gd (okO σ12 (aR σ12 v0R 1) 1) <| bnd (M_Rs_countWeightsOf (aR σ12 v0R 4) v1I (aR σ12 v0R 1) σ12) fun _ σ17 => if v2I = (0 : Int32) then (gd (okO σ17 v0R 11) <| gd (okO σ17 (aR σ17 v0R 4) 5) <| bnd (M_Rs_likeliest (aR σ17 v0R 4) σ17) fun r21 σ22 => (some (r21, σ22))) else (if v2I = (1 : Int32) then (gd (okO σ17 v0R 11) <| gd (okO σ17 (aR σ17 v0R 4) 5) <| bnd (M_Rs_lightest (aR σ17 v0R 4) σ17) fun r26 σ27 => (some (r26, σ27))) else (gd (okO σ17 v0R 11) <| gd (okO σ17 (aR σ17 v0R 4) 5) <| bnd (M_Rs_heaviest (aR σ17 v0R 4) σ17) fun r30 σ31 => (some (r30, σ31))))))))) := by
  unfold L_Bp_guess_0
  rw [lp_eq]
  show lpK (lp F_Bp_guess) (T_Bp_guess_0 v0R v1I v2I σ) = _
  unfold T_Bp_guess_0
  simp only [lpK_ite, lq_inl, lq_inr, lpK_bnd, lpK_gd, lq_let]
  try rfl
set_option maxRecDepth 20000 in
theorem E_Bp_guess_1  (σ : AM) : L_Bp_guess_1  σ = ((some (((-1) : Int32), σ))) := by
  unfold L_Bp_guess_1
  rw [lp_eq]
  show lpK (lp F_Bp_guess) (T_Bp_guess_1  σ) = _
  unfold T_Bp_guess_1
  simp only [lpK_ite, lq_inl, lq_inr, lpK_bnd, lpK_gd, lq_let]
  try rfl
noncomputable def M_Bp_guess (v0R : Nat) (v1I : Int32) (v2I : Int32) (σ : AM) : Option (Int32 × AM) := mw σ (L_Bp_guess_0 v0R v1I v2I σ)
def I_Bp_guess (G : GX) (p : Program) (l : Launch) (e : Env) (s : State) (m : MethodId) (args : Array Value) (below : List Frame) (meth : Method) (c : Code) (z0 u0 n : Nat) : Prop :=
  (∀ (v0R : Nat) (v1I : Int32) (v2I : Int32) (σ : AM), VX (QM eI G args s below z0 u0) G p l e s m args below meth c 3 z0 u0 3 (lpn F_Bp_guess n (0, v0R, v1I, v2I, σ)) 0 [(0, .ref v0R), (1, .int v1I), (2, .int v2I)] [] σ) ∧
  (∀ (σ : AM), VX (QM eI G args s below z0 u0) G p l e s m args below meth c 3 z0 u0 3 (lpn F_Bp_guess n (1, 0, 0, 0, σ)) 37 [] [] σ)
set_option maxRecDepth 20000 in
theorem s_Bp_guess_0 {G : GX} {p : Program} {l : Launch} {e : Env} {s : State} {m : MethodId} {args : Array Value} {below : List Frame} {meth : Method} {c : Code} {z0 u0 n : Nat} (C : Cx G p s m args meth c prog_1_method_42_code 3 "BellPlate" ((some FieldType.int))) (IH : I_Bp_guess G p l e s m args below meth c z0 u0 n) (v0R : Nat) (v1I : Int32) (v2I : Int32) (σ : AM) : VX (QM eI G args s below z0 u0) G p l e s m args below meth c 3 z0 u0 3 (lpK (lpn F_Bp_guess n) (T_Bp_guess_0 v0R v1I v2I σ)) 0 [(0, .ref v0R), (1, .int v1I), (2, .int v2I)] [] σ := by
  unfold T_Bp_guess_0
  refine x_aload_n C d_Bp_guess_0 0 rfl ?_
  refine x_gd (fun h1 => ?_)
  refine x_gd (fun h2 => ?_)
  refine x_getR (k := 4) (kv := 5) C (okO_iff.mp h1) rfl j10_ok (by decide) rfl (okO_iff.mp h2) (by decide) w694 d_Bp_guess_1 ?_
  refine x_callVV (As := []) C (c_Rs_refresh G l (aR σ v0R 4)  σ) (okO_iff.mp h2) rfl w1035 w1036 w1034 w1037 w125 k_Rs_refresh rfl (by decide) (by decide) rfl (Nat.le_of_ble_eq_true rfl) d_Bp_guess_4 (fun r3 σ4 => ?_)
  refine x_aload_n C d_Bp_guess_7 0 rfl ?_
  refine x_gd (fun h5 => ?_)
  refine x_gd (fun h6 => ?_)
  refine x_getR (k := 1) (kv := 1) C (okO_iff.mp h5) rfl j10_ok (by decide) rfl (okO_iff.mp h6) (by decide) w691 d_Bp_guess_8 ?_
  refine x_iload_n C d_Bp_guess_11 1 rfl ?_
  refine x_callVI (As := [.int v1I]) C (c_Tw_hasThing G l (aR σ4 v0R 1) v1I σ4) (okO_iff.mp h6) rfl w1112 w1113 w1111 w1114 w122 k_Tw_hasThing rfl (by decide) (by decide) rfl (Nat.le_of_ble_eq_true rfl) d_Bp_guess_12 (fun r7 σ8 => ?_)
  refine x_if_eq (tgt := 37) C d_Bp_guess_15 (by decide) (fun _ => ?_) (fun _ => ?_)
  · refine x_lv [] rfl ?_
    exact IH.2  (σ8)
  · refine x_iload_n C d_Bp_guess_18 2 rfl ?_
    refine x_if_lt (tgt := 37) C d_Bp_guess_19 (by decide) (fun _ => ?_) (fun _ => ?_)
    · refine x_lv [] rfl ?_
      exact IH.2  (σ8)
    · refine x_iload_n C d_Bp_guess_22 2 rfl ?_
      refine x_iconst (v := (2 : Int32)) C d_Bp_guess_23 (by decide) ?_
      refine x_icmp_gt (tgt := 37) C d_Bp_guess_24 (by decide) (fun _ => ?_) (fun _ => ?_)
      · refine x_lv [] rfl ?_
        exact IH.2  (σ8)
      · refine x_aload_n C d_Bp_guess_27 0 rfl ?_
        refine x_gd (fun h9 => ?_)
        refine x_gd (fun h10 => ?_)
        refine x_getR (k := 4) (kv := 5) C (okO_iff.mp h9) rfl j10_ok (by decide) rfl (okO_iff.mp h10) (by decide) w694 d_Bp_guess_28 ?_
        refine x_callVI (As := []) C (c_Rs_size G l (aR σ8 v0R 4)  σ8) (okO_iff.mp h10) rfl w1084 w1085 w1083 w1086 w125 k_Rs_size rfl (by decide) (by decide) rfl (Nat.le_of_ble_eq_true rfl) d_Bp_guess_31 (fun r11 σ12 => ?_)
        refine x_if_ne (tgt := 39) C d_Bp_guess_34 (by decide) (fun _ => ?_) (fun _ => ?_)
        · refine x_lv [] rfl ?_
          exact IH.2  (σ12)
        · refine x_aload_n C d_Bp_guess_39 0 rfl ?_
          refine x_gd (fun h13 => ?_)
          refine x_gd (fun h14 => ?_)
          refine x_getR (k := 4) (kv := 5) C (okO_iff.mp h13) rfl j10_ok (by decide) rfl (okO_iff.mp h14) (by decide) w694 d_Bp_guess_40 ?_
          refine x_iload_n C d_Bp_guess_43 1 rfl ?_
          refine x_aload_n C d_Bp_guess_44 0 rfl ?_
          refine x_gd (fun h15 => ?_)
          refine x_getR (k := 1) (kv := 1) C (okO_iff.mp h13) rfl j10_ok (by decide) rfl (okO_iff.mp h15) (by decide) w691 d_Bp_guess_45 ?_
          refine x_callVV (As := [.int v1I, .ref (aR σ12 v0R 1)]) C (c_Rs_countWeightsOf G l (aR σ12 v0R 4) v1I (aR σ12 v0R 1) σ12) (okO_iff.mp h14) rfl w1649 w1650 w1648 w1651 w125 k_Rs_countWeightsOf rfl (by decide) (by decide) rfl (Nat.le_of_ble_eq_true rfl) d_Bp_guess_48 (fun r16 σ17 => ?_)
          refine x_iload_n C d_Bp_guess_51 2 rfl ?_
          refine x_split (fun h18 => ?_) (fun h18 => ?_)
          · refine x_look (off := 28) (tgt := 80) C d_Bp_guess_52 (by decide) (by rw [h18]; rfl) (by decide) ?_
            refine x_aload_n C d_Bp_guess_80 0 rfl ?_
            refine x_gd (fun h19 => ?_)
            refine x_gd (fun h20 => ?_)
            refine x_getR (k := 4) (kv := 5) C (okO_iff.mp h19) rfl j10_ok (by decide) rfl (okO_iff.mp h20) (by decide) w694 d_Bp_guess_81 ?_
            refine x_callVI (As := []) C (c_Rs_likeliest G l (aR σ17 v0R 4)  σ17) (okO_iff.mp h20) rfl w1657 w1658 w1656 w1659 w125 k_Rs_likeliest rfl (by decide) (by decide) rfl (Nat.le_of_ble_eq_true rfl) d_Bp_guess_84 (fun r21 σ22 => ?_)
            exact x_iret C d_Bp_guess_87
          · refine x_split (fun h23 => ?_) (fun h23 => ?_)
            · refine x_look (off := 36) (tgt := 88) C d_Bp_guess_52 (by decide) (by rw [h23]; rfl) (by decide) ?_
              refine x_aload_n C d_Bp_guess_88 0 rfl ?_
              refine x_gd (fun h24 => ?_)
              refine x_gd (fun h25 => ?_)
              refine x_getR (k := 4) (kv := 5) C (okO_iff.mp h24) rfl j10_ok (by decide) rfl (okO_iff.mp h25) (by decide) w694 d_Bp_guess_89 ?_
              refine x_callVI (As := []) C (c_Rs_lightest G l (aR σ17 v0R 4)  σ17) (okO_iff.mp h25) rfl w1661 w1662 w1660 w1663 w125 k_Rs_lightest rfl (by decide) (by decide) rfl (Nat.le_of_ble_eq_true rfl) d_Bp_guess_92 (fun r26 σ27 => ?_)
              exact x_iret C d_Bp_guess_95
            · refine x_look (off := 44) (tgt := 96) C d_Bp_guess_52 (by decide) ((lv_osw h18 (by decide)).trans ((lv_osw h23 (by decide)).trans (rfl))) (by decide) ?_
              refine x_aload_n C d_Bp_guess_96 0 rfl ?_
              refine x_gd (fun h28 => ?_)
              refine x_gd (fun h29 => ?_)
              refine x_getR (k := 4) (kv := 5) C (okO_iff.mp h28) rfl j10_ok (by decide) rfl (okO_iff.mp h29) (by decide) w694 d_Bp_guess_97 ?_
              refine x_callVI (As := []) C (c_Rs_heaviest G l (aR σ17 v0R 4)  σ17) (okO_iff.mp h29) rfl w1665 w1666 w1664 w1667 w125 k_Rs_heaviest rfl (by decide) (by decide) rfl (Nat.le_of_ble_eq_true rfl) d_Bp_guess_100 (fun r30 σ31 => ?_)
              exact x_iret C d_Bp_guess_103
set_option maxRecDepth 20000 in
theorem s_Bp_guess_1 {G : GX} {p : Program} {l : Launch} {e : Env} {s : State} {m : MethodId} {args : Array Value} {below : List Frame} {meth : Method} {c : Code} {z0 u0 n : Nat} (C : Cx G p s m args meth c prog_1_method_42_code 3 "BellPlate" ((some FieldType.int))) (IH : I_Bp_guess G p l e s m args below meth c z0 u0 n)  (σ : AM) : VX (QM eI G args s below z0 u0) G p l e s m args below meth c 3 z0 u0 3 (lpK (lpn F_Bp_guess n) (T_Bp_guess_1  σ)) 37 [] [] σ := by
  unfold T_Bp_guess_1
  refine x_iconst (v := ((-1) : Int32)) C d_Bp_guess_37 (by decide) ?_
  exact x_iret C d_Bp_guess_38
theorem i_Bp_guess {G : GX} {p : Program} {l : Launch} {e : Env} {s : State} {m : MethodId} {args : Array Value} {below : List Frame} {meth : Method} {c : Code} {z0 u0 : Nat} (C : Cx G p s m args meth c prog_1_method_42_code 3 "BellPlate" ((some FieldType.int))) (n : Nat) : I_Bp_guess G p l e s m args below meth c z0 u0 n := by
  induction n with
  | zero => exact ⟨fun _ _ _ _ => x_none, fun _ => x_none⟩
  | succ n IH => exact ⟨fun v0R v1I v2I σ => s_Bp_guess_0 C IH v0R v1I v2I σ, fun σ => s_Bp_guess_1 C IH σ⟩
theorem c_Bp_guess (G : GX) (l : Launch) (v0R : Nat) (v1I : Int32) (v2I : Int32) (σ : AM) : CT eI G l 3 y_Bp_guess prog_1_method_42_code 3 ((some FieldType.int)) [.ref v0R, .int v1I, .int v2I] σ (M_Bp_guess v0R v1I v2I σ) := by
  refine ct_of (by decide +kernel) (Nat.le_of_ble_eq_true rfl) (fun p e s m args below meth c C hin => ?_)
  refine x_lve (lv' := [(0, .ref v0R), (1, .int v1I), (2, .int v2I)]) rfl ?_
  intro r σ' h
  obtain ⟨n, hn⟩ := (lp_iff _ _ _).mp h
  exact (i_Bp_guess C n).1 v0R v1I v2I σ r σ' hn
/-! BellPlate.mark(IZ)Z -/
abbrev y_Bp_mark : MethodName := ⟨"BellPlate", "mark", "(IZ)Z"⟩
theorem k_Bp_mark : y_Bp_mark.cls ≠ "java/lang/invoke/MethodHandle" ∧ y_Bp_mark.cls ≠ "java/lang/invoke/VarHandle" ∧ (parseMethodDescriptor y_Bp_mark.desc).map (fun d => d.parameters.length) = some 2 := by decide +kernel
theorem d_Bp_mark_0 : decode prog_1_method_43_code 0 = .ok (.iload_n 1, 1) := by decide +kernel
theorem d_Bp_mark_1 : decode prog_1_method_43_code 1 = .ok (.ifCond .lt 8, 3) := by decide +kernel
theorem d_Bp_mark_4 : decode prog_1_method_43_code 4 = .ok (.iload_n 1, 1) := by decide +kernel
theorem d_Bp_mark_5 : decode prog_1_method_43_code 5 = .ok (.iconst 4, 1) := by decide +kernel
theorem d_Bp_mark_6 : decode prog_1_method_43_code 6 = .ok (.if_icmp .lt 5, 3) := by decide +kernel
theorem d_Bp_mark_9 : decode prog_1_method_43_code 9 = .ok (.iconst 0, 1) := by decide +kernel
theorem d_Bp_mark_10 : decode prog_1_method_43_code 10 = .ok (.ireturn, 1) := by decide +kernel
theorem d_Bp_mark_11 : decode prog_1_method_43_code 11 = .ok (.iload_n 2, 1) := by decide +kernel
theorem d_Bp_mark_12 : decode prog_1_method_43_code 12 = .ok (.ifCond .eq 14, 3) := by decide +kernel
theorem d_Bp_mark_15 : decode prog_1_method_43_code 15 = .ok (.aload_n 0, 1) := by decide +kernel
theorem d_Bp_mark_16 : decode prog_1_method_43_code 16 = .ok (.getfield 35, 3) := by decide +kernel
theorem d_Bp_mark_19 : decode prog_1_method_43_code 19 = .ok (.iload_n 1, 1) := by decide +kernel
theorem d_Bp_mark_20 : decode prog_1_method_43_code 20 = .ok (.invokevirtual 367, 3) := by decide +kernel
theorem d_Bp_mark_23 : decode prog_1_method_43_code 23 = .ok (.goto 11, 3) := by decide +kernel
theorem d_Bp_mark_26 : decode prog_1_method_43_code 26 = .ok (.aload_n 0, 1) := by decide +kernel
theorem d_Bp_mark_27 : decode prog_1_method_43_code 27 = .ok (.getfield 35, 3) := by decide +kernel
theorem d_Bp_mark_30 : decode prog_1_method_43_code 30 = .ok (.iload_n 1, 1) := by decide +kernel
theorem d_Bp_mark_31 : decode prog_1_method_43_code 31 = .ok (.invokevirtual 370, 3) := by decide +kernel
theorem d_Bp_mark_34 : decode prog_1_method_43_code 34 = .ok (.ireturn, 1) := by decide +kernel
abbrev S_Bp_mark : Type := Nat × Nat × Int32 × Int32 × Int32 × AM
noncomputable def T_Bp_mark_0 (v0R : Nat) (v1I : Int32) (v2I : Int32) (σ : AM) : S_Bp_mark ⊕ Option (Int32 × AM) :=
  if v1I < 0 then (.inl (1, 0, 0, 0, 0, σ)) else (if v1I < (4 : Int32) then (if v2I = 0 then (gdT (okO σ v0R 11) <| gdT (okO σ (aR σ v0R 3) 4) <| bndT (M_Bk_layMark (aR σ v0R 3) v1I σ) fun r3 σ4 => .inl (2, 0, 0, 0, r3, σ4)) else (gdT (okO σ v0R 11) <| gdT (okO σ (aR σ v0R 3) 4) <| bndT (M_Bk_goBack (aR σ v0R 3) v1I σ) fun r7 σ8 => .inl (2, 0, 0, 0, r7, σ8))) else (.inl (1, 0, 0, 0, 0, σ)))
noncomputable def T_Bp_mark_1  (σ : AM) : S_Bp_mark ⊕ Option (Int32 × AM) :=
  .inr (some ((0 : Int32), σ))
noncomputable def T_Bp_mark_2 (s0I : Int32) (σ : AM) : S_Bp_mark ⊕ Option (Int32 × AM) :=
  gdT (isB s0I) <| .inr (some (s0I, σ))
noncomputable def F_Bp_mark : S_Bp_mark → S_Bp_mark ⊕ Option (Int32 × AM) := fun s => match s.1 with
  | 0 => T_Bp_mark_0 (s.2.1) (s.2.2.1) (s.2.2.2.1) (s.2.2.2.2.2)
  | 1 => T_Bp_mark_1  (s.2.2.2.2.2)
  | _ => T_Bp_mark_2 (s.2.2.2.2.1) (s.2.2.2.2.2)
noncomputable def L_Bp_mark_0 (v0R : Nat) (v1I : Int32) (v2I : Int32) (σ : AM) : Option (Int32 × AM) := lp F_Bp_mark (0, v0R, v1I, v2I, 0, σ)
noncomputable def L_Bp_mark_1  (σ : AM) : Option (Int32 × AM) := lp F_Bp_mark (1, 0, 0, 0, 0, σ)
noncomputable def L_Bp_mark_2 (s0I : Int32) (σ : AM) : Option (Int32 × AM) := lp F_Bp_mark (2, 0, 0, 0, s0I, σ)
set_option maxRecDepth 20000 in
theorem E_Bp_mark_0 (v0R : Nat) (v1I : Int32) (v2I : Int32) (σ : AM) : L_Bp_mark_0 v0R v1I v2I σ = (if v1I < 0 then (L_Bp_mark_1 σ) else (if v1I < (4 : Int32) then (if v2I = 0 then (gd (okO σ v0R 11) <| gd (okO σ (aR σ v0R 3) 4) <| bnd (M_Bk_layMark (aR σ v0R 3) v1I σ) fun r3 σ4 => L_Bp_mark_2 r3 σ4) else (gd (okO σ v0R 11) <| gd (okO σ (aR σ v0R 3) 4) <| bnd (M_Bk_goBack (aR σ v0R 3) v1I σ) fun r7 σ8 => L_Bp_mark_2 r7 σ8)) else (L_Bp_mark_1 σ))) := by
  unfold L_Bp_mark_0
  rw [lp_eq]
  show lpK (lp F_Bp_mark) (T_Bp_mark_0 v0R v1I v2I σ) = _
  unfold T_Bp_mark_0
  simp only [lpK_ite, lq_inl, lq_inr, lpK_bnd, lpK_gd, lq_let]
  try rfl
set_option maxRecDepth 20000 in
theorem E_Bp_mark_1  (σ : AM) : L_Bp_mark_1  σ = ((some ((0 : Int32), σ))) := by
  unfold L_Bp_mark_1
  rw [lp_eq]
  show lpK (lp F_Bp_mark) (T_Bp_mark_1  σ) = _
  unfold T_Bp_mark_1
  simp only [lpK_ite, lq_inl, lq_inr, lpK_bnd, lpK_gd, lq_let]
  try rfl
set_option maxRecDepth 20000 in
theorem E_Bp_mark_2 (s0I : Int32) (σ : AM) : L_Bp_mark_2 s0I σ = (gd (isB s0I) <| (some (s0I, σ))) := by
  unfold L_Bp_mark_2
  rw [lp_eq]
  show lpK (lp F_Bp_mark) (T_Bp_mark_2 s0I σ) = _
  unfold T_Bp_mark_2
  simp only [lpK_ite, lq_inl, lq_inr, lpK_bnd, lpK_gd, lq_let]
  try rfl
noncomputable def M_Bp_mark (v0R : Nat) (v1I : Int32) (v2I : Int32) (σ : AM) : Option (Int32 × AM) := mw σ (L_Bp_mark_0 v0R v1I v2I σ)
def I_Bp_mark (G : GX) (p : Program) (l : Launch) (e : Env) (s : State) (m : MethodId) (args : Array Value) (below : List Frame) (meth : Method) (c : Code) (z0 u0 n : Nat) : Prop :=
  (∀ (v0R : Nat) (v1I : Int32) (v2I : Int32) (σ : AM), VX (QM eI G args s below z0 u0) G p l e s m args below meth c 1 z0 u0 3 (lpn F_Bp_mark n (0, v0R, v1I, v2I, 0, σ)) 0 [(0, .ref v0R), (1, .int v1I), (2, .int v2I)] [] σ) ∧
  (∀ (σ : AM), VX (QM eI G args s below z0 u0) G p l e s m args below meth c 1 z0 u0 3 (lpn F_Bp_mark n (1, 0, 0, 0, 0, σ)) 9 [] [] σ) ∧
  (∀ (s0I : Int32) (σ : AM), VX (QM eI G args s below z0 u0) G p l e s m args below meth c 1 z0 u0 3 (lpn F_Bp_mark n (2, 0, 0, 0, s0I, σ)) 34 [] [.int s0I] σ)
set_option maxRecDepth 20000 in
theorem s_Bp_mark_0 {G : GX} {p : Program} {l : Launch} {e : Env} {s : State} {m : MethodId} {args : Array Value} {below : List Frame} {meth : Method} {c : Code} {z0 u0 n : Nat} (C : Cx G p s m args meth c prog_1_method_43_code 3 "BellPlate" ((some FieldType.boolean))) (IH : I_Bp_mark G p l e s m args below meth c z0 u0 n) (v0R : Nat) (v1I : Int32) (v2I : Int32) (σ : AM) : VX (QM eI G args s below z0 u0) G p l e s m args below meth c 1 z0 u0 3 (lpK (lpn F_Bp_mark n) (T_Bp_mark_0 v0R v1I v2I σ)) 0 [(0, .ref v0R), (1, .int v1I), (2, .int v2I)] [] σ := by
  unfold T_Bp_mark_0
  refine x_iload_n C d_Bp_mark_0 1 rfl ?_
  refine x_if_lt (tgt := 9) C d_Bp_mark_1 (by decide) (fun _ => ?_) (fun _ => ?_)
  · refine x_lv [] rfl ?_
    exact IH.2.1  (σ)
  · refine x_iload_n C d_Bp_mark_4 1 rfl ?_
    refine x_iconst (v := (4 : Int32)) C d_Bp_mark_5 (by decide) ?_
    refine x_icmp_lt (tgt := 11) C d_Bp_mark_6 (by decide) (fun _ => ?_) (fun _ => ?_)
    · refine x_iload_n C d_Bp_mark_11 2 rfl ?_
      refine x_if_eq (tgt := 26) C d_Bp_mark_12 (by decide) (fun _ => ?_) (fun _ => ?_)
      · refine x_aload_n C d_Bp_mark_26 0 rfl ?_
        refine x_gd (fun h1 => ?_)
        refine x_gd (fun h2 => ?_)
        refine x_getR (k := 3) (kv := 4) C (okO_iff.mp h1) rfl j10_ok (by decide) rfl (okO_iff.mp h2) (by decide) w693 d_Bp_mark_27 ?_
        refine x_iload_n C d_Bp_mark_30 1 rfl ?_
        refine x_callVI (As := [.int v1I]) C (c_Bk_layMark G l (aR σ v0R 3) v1I σ) (okO_iff.mp h2) rfl w1677 w1678 w1676 w1679 w124 k_Bk_layMark rfl (by decide) (by decide) rfl (Nat.le_of_ble_eq_true rfl) d_Bp_mark_31 (fun r3 σ4 => ?_)
        refine x_lv [] rfl ?_
        exact IH.2.2 r3 (σ4)
      · refine x_aload_n C d_Bp_mark_15 0 rfl ?_
        refine x_gd (fun h5 => ?_)
        refine x_gd (fun h6 => ?_)
        refine x_getR (k := 3) (kv := 4) C (okO_iff.mp h5) rfl j10_ok (by decide) rfl (okO_iff.mp h6) (by decide) w693 d_Bp_mark_16 ?_
        refine x_iload_n C d_Bp_mark_19 1 rfl ?_
        refine x_callVI (As := [.int v1I]) C (c_Bk_goBack G l (aR σ v0R 3) v1I σ) (okO_iff.mp h6) rfl w1673 w1674 w1672 w1675 w124 k_Bk_goBack rfl (by decide) (by decide) rfl (Nat.le_of_ble_eq_true rfl) d_Bp_mark_20 (fun r7 σ8 => ?_)
        refine x_goto (tgt := 34) C d_Bp_mark_23 (by decide) ?_
        refine x_lv [] rfl ?_
        exact IH.2.2 r7 (σ8)
    · refine x_lv [] rfl ?_
      exact IH.2.1  (σ)
set_option maxRecDepth 20000 in
theorem s_Bp_mark_1 {G : GX} {p : Program} {l : Launch} {e : Env} {s : State} {m : MethodId} {args : Array Value} {below : List Frame} {meth : Method} {c : Code} {z0 u0 n : Nat} (C : Cx G p s m args meth c prog_1_method_43_code 3 "BellPlate" ((some FieldType.boolean))) (IH : I_Bp_mark G p l e s m args below meth c z0 u0 n)  (σ : AM) : VX (QM eI G args s below z0 u0) G p l e s m args below meth c 1 z0 u0 3 (lpK (lpn F_Bp_mark n) (T_Bp_mark_1  σ)) 9 [] [] σ := by
  unfold T_Bp_mark_1
  refine x_iconst (v := (0 : Int32)) C d_Bp_mark_9 (by decide) ?_
  exact x_zret C (by decide) d_Bp_mark_10
set_option maxRecDepth 20000 in
theorem s_Bp_mark_2 {G : GX} {p : Program} {l : Launch} {e : Env} {s : State} {m : MethodId} {args : Array Value} {below : List Frame} {meth : Method} {c : Code} {z0 u0 n : Nat} (C : Cx G p s m args meth c prog_1_method_43_code 3 "BellPlate" ((some FieldType.boolean))) (IH : I_Bp_mark G p l e s m args below meth c z0 u0 n) (s0I : Int32) (σ : AM) : VX (QM eI G args s below z0 u0) G p l e s m args below meth c 1 z0 u0 3 (lpK (lpn F_Bp_mark n) (T_Bp_mark_2 s0I σ)) 34 [] [.int s0I] σ := by
  unfold T_Bp_mark_2
  refine x_gd (fun h1 => ?_)
  exact x_zret C (isB_narrow h1) d_Bp_mark_34
theorem i_Bp_mark {G : GX} {p : Program} {l : Launch} {e : Env} {s : State} {m : MethodId} {args : Array Value} {below : List Frame} {meth : Method} {c : Code} {z0 u0 : Nat} (C : Cx G p s m args meth c prog_1_method_43_code 3 "BellPlate" ((some FieldType.boolean))) (n : Nat) : I_Bp_mark G p l e s m args below meth c z0 u0 n := by
  induction n with
  | zero => exact ⟨fun _ _ _ _ => x_none, fun _ => x_none, fun _ _ => x_none⟩
  | succ n IH => exact ⟨fun v0R v1I v2I σ => s_Bp_mark_0 C IH v0R v1I v2I σ, fun σ => s_Bp_mark_1 C IH σ, fun s0I σ => s_Bp_mark_2 C IH s0I σ⟩
theorem c_Bp_mark (G : GX) (l : Launch) (v0R : Nat) (v1I : Int32) (v2I : Int32) (σ : AM) : CT eI G l 1 y_Bp_mark prog_1_method_43_code 3 ((some FieldType.boolean)) [.ref v0R, .int v1I, .int v2I] σ (M_Bp_mark v0R v1I v2I σ) := by
  refine ct_of (by decide +kernel) (Nat.le_of_ble_eq_true rfl) (fun p e s m args below meth c C hin => ?_)
  refine x_lve (lv' := [(0, .ref v0R), (1, .int v1I), (2, .int v2I)]) rfl ?_
  intro r σ' h
  obtain ⟨n, hn⟩ := (lp_iff _ _ _).mp h
  exact (i_Bp_mark C n).1 v0R v1I v2I σ r σ' hn
/-! BellPlate.count(I)I -/
abbrev y_Bp_count : MethodName := ⟨"BellPlate", "count", "(I)I"⟩
theorem k_Bp_count : y_Bp_count.cls ≠ "java/lang/invoke/MethodHandle" ∧ y_Bp_count.cls ≠ "java/lang/invoke/VarHandle" ∧ (parseMethodDescriptor y_Bp_count.desc).map (fun d => d.parameters.length) = some 1 := by decide +kernel
theorem d_Bp_count_0 : decode prog_1_method_44_code 0 = .ok (.iload_n 1, 1) := by decide +kernel
theorem d_Bp_count_1 : decode prog_1_method_44_code 1 = .ok (.tableswitch 156 0 11 #[63, 71, 79, 87, 95, 103, 111, 119, 127, 132, 140, 148], 63) := by decide +kernel
theorem d_Bp_count_64 : decode prog_1_method_44_code 64 = .ok (.aload_n 0, 1) := by decide +kernel
theorem d_Bp_count_65 : decode prog_1_method_44_code 65 = .ok (.getfield 19, 3) := by decide +kernel
theorem d_Bp_count_68 : decode prog_1_method_44_code 68 = .ok (.invokevirtual 150, 3) := by decide +kernel
theorem d_Bp_count_71 : decode prog_1_method_44_code 71 = .ok (.ireturn, 1) := by decide +kernel
theorem d_Bp_count_72 : decode prog_1_method_44_code 72 = .ok (.aload_n 0, 1) := by decide +kernel
theorem d_Bp_count_73 : decode prog_1_method_44_code 73 = .ok (.getfield 19, 3) := by decide +kernel
theorem d_Bp_count_76 : decode prog_1_method_44_code 76 = .ok (.invokevirtual 373, 3) := by decide +kernel
theorem d_Bp_count_79 : decode prog_1_method_44_code 79 = .ok (.ireturn, 1) := by decide +kernel
theorem d_Bp_count_80 : decode prog_1_method_44_code 80 = .ok (.aload_n 0, 1) := by decide +kernel
theorem d_Bp_count_81 : decode prog_1_method_44_code 81 = .ok (.getfield 19, 3) := by decide +kernel
theorem d_Bp_count_84 : decode prog_1_method_44_code 84 = .ok (.invokevirtual 376, 3) := by decide +kernel
theorem d_Bp_count_87 : decode prog_1_method_44_code 87 = .ok (.ireturn, 1) := by decide +kernel
theorem d_Bp_count_88 : decode prog_1_method_44_code 88 = .ok (.aload_n 0, 1) := by decide +kernel
theorem d_Bp_count_89 : decode prog_1_method_44_code 89 = .ok (.getfield 19, 3) := by decide +kernel
theorem d_Bp_count_92 : decode prog_1_method_44_code 92 = .ok (.invokevirtual 379, 3) := by decide +kernel
theorem d_Bp_count_95 : decode prog_1_method_44_code 95 = .ok (.ireturn, 1) := by decide +kernel
theorem d_Bp_count_96 : decode prog_1_method_44_code 96 = .ok (.aload_n 0, 1) := by decide +kernel
theorem d_Bp_count_97 : decode prog_1_method_44_code 97 = .ok (.getfield 28, 3) := by decide +kernel
theorem d_Bp_count_100 : decode prog_1_method_44_code 100 = .ok (.invokevirtual 273, 3) := by decide +kernel
theorem d_Bp_count_103 : decode prog_1_method_44_code 103 = .ok (.ireturn, 1) := by decide +kernel
theorem d_Bp_count_104 : decode prog_1_method_44_code 104 = .ok (.aload_n 0, 1) := by decide +kernel
theorem d_Bp_count_105 : decode prog_1_method_44_code 105 = .ok (.getfield 28, 3) := by decide +kernel
theorem d_Bp_count_108 : decode prog_1_method_44_code 108 = .ok (.invokevirtual 382, 3) := by decide +kernel
theorem d_Bp_count_111 : decode prog_1_method_44_code 111 = .ok (.ireturn, 1) := by decide +kernel
theorem d_Bp_count_112 : decode prog_1_method_44_code 112 = .ok (.aload_n 0, 1) := by decide +kernel
theorem d_Bp_count_113 : decode prog_1_method_44_code 113 = .ok (.getfield 35, 3) := by decide +kernel
theorem d_Bp_count_116 : decode prog_1_method_44_code 116 = .ok (.invokevirtual 383, 3) := by decide +kernel
theorem d_Bp_count_119 : decode prog_1_method_44_code 119 = .ok (.ireturn, 1) := by decide +kernel
theorem d_Bp_count_120 : decode prog_1_method_44_code 120 = .ok (.aload_n 0, 1) := by decide +kernel
theorem d_Bp_count_121 : decode prog_1_method_44_code 121 = .ok (.getfield 35, 3) := by decide +kernel
theorem d_Bp_count_124 : decode prog_1_method_44_code 124 = .ok (.invokevirtual 384, 3) := by decide +kernel
theorem d_Bp_count_127 : decode prog_1_method_44_code 127 = .ok (.ireturn, 1) := by decide +kernel
theorem d_Bp_count_128 : decode prog_1_method_44_code 128 = .ok (.aload_n 0, 1) := by decide +kernel
theorem d_Bp_count_129 : decode prog_1_method_44_code 129 = .ok (.getfield 97, 3) := by decide +kernel
theorem d_Bp_count_132 : decode prog_1_method_44_code 132 = .ok (.ireturn, 1) := by decide +kernel
theorem d_Bp_count_133 : decode prog_1_method_44_code 133 = .ok (.aload_n 0, 1) := by decide +kernel
theorem d_Bp_count_134 : decode prog_1_method_44_code 134 = .ok (.getfield 10, 3) := by decide +kernel
theorem d_Bp_count_137 : decode prog_1_method_44_code 137 = .ok (.invokevirtual 111, 3) := by decide +kernel
theorem d_Bp_count_140 : decode prog_1_method_44_code 140 = .ok (.ireturn, 1) := by decide +kernel
theorem d_Bp_count_141 : decode prog_1_method_44_code 141 = .ok (.aload_n 0, 1) := by decide +kernel
theorem d_Bp_count_142 : decode prog_1_method_44_code 142 = .ok (.getfield 19, 3) := by decide +kernel
theorem d_Bp_count_145 : decode prog_1_method_44_code 145 = .ok (.invokevirtual 387, 3) := by decide +kernel
theorem d_Bp_count_148 : decode prog_1_method_44_code 148 = .ok (.ireturn, 1) := by decide +kernel
theorem d_Bp_count_149 : decode prog_1_method_44_code 149 = .ok (.aload_n 0, 1) := by decide +kernel
theorem d_Bp_count_150 : decode prog_1_method_44_code 150 = .ok (.getfield 35, 3) := by decide +kernel
theorem d_Bp_count_153 : decode prog_1_method_44_code 153 = .ok (.invokevirtual 390, 3) := by decide +kernel
theorem d_Bp_count_156 : decode prog_1_method_44_code 156 = .ok (.ireturn, 1) := by decide +kernel
theorem d_Bp_count_157 : decode prog_1_method_44_code 157 = .ok (.iconst (-1), 1) := by decide +kernel
theorem d_Bp_count_158 : decode prog_1_method_44_code 158 = .ok (.ireturn, 1) := by decide +kernel
abbrev S_Bp_count : Type := Nat × Nat × Int32 × AM
noncomputable def T_Bp_count_0 (v0R : Nat) (v1I : Int32) (σ : AM) : S_Bp_count ⊕ Option (Int32 × AM) :=
  if v1I = (0 : Int32) then (gdT (okO σ v0R 11) <| gdT (okO σ (aR σ v0R 1) 1) <| bndT (M_Tw_things (aR σ v0R 1) σ) fun r4 σ5 => .inr (some (r4, σ5))) else (if v1I = (1 : Int32) then (gdT (okO σ v0R 11) <| gdT (okO σ (aR σ v0R 1) 1) <| bndT (M_Tw_most (aR σ v0R 1) σ) fun r9 σ10 => .inr (some (r9, σ10))) else (if v1I = (2 : Int32) then (gdT (okO σ v0R 11) <| gdT (okO σ (aR σ v0R 1) 1) <| bndT (M_Tw_bar (aR σ v0R 1) σ) fun r14 σ15 => .inr (some (r14, σ15))) else (if v1I = (3 : Int32) then (gdT (okO σ v0R 11) <| gdT (okO σ (aR σ v0R 1) 1) <| bndT (M_Tw_all (aR σ v0R 1) σ) fun r19 σ20 => .inr (some (r19, σ20))) else (if v1I = (4 : Int32) then (gdT (okO σ v0R 11) <| gdT (okO σ (aR σ v0R 2) 3) <| bndT (M_Ls_allowed (aR σ v0R 2) σ) fun r24 σ25 => .inr (some (r24, σ25))) else (if v1I = (5 : Int32) then (gdT (okO σ v0R 11) <| gdT (okO σ (aR σ v0R 2) 3) <| bndT (M_Ls_size (aR σ v0R 2) σ) fun r29 σ30 => .inr (some (r29, σ30))) else (if v1I = (6 : Int32) then (gdT (okO σ v0R 11) <| gdT (okO σ (aR σ v0R 3) 4) <| bndT (M_Bk_trials (aR σ v0R 3) σ) fun r34 σ35 => .inr (some (r34, σ35))) else (if v1I = (7 : Int32) then (gdT (okO σ v0R 11) <| gdT (okO σ (aR σ v0R 3) 4) <| bndT (M_Bk_ringing (aR σ v0R 3) σ) fun r39 σ40 => .inr (some (r39, σ40))) else (if v1I = (8 : Int32) then (gdT (okO σ v0R 11) <| .inr (some ((aI σ v0R 11), σ))) else (if v1I = (9 : Int32) then (gdT (okO σ v0R 11) <| gdT (okO σ (aR σ v0R 0) 2) <| bndT (M_Rd_size (aR σ v0R 0) σ) fun r46 σ47 => .inr (some (r46, σ47))) else (if v1I = (10 : Int32) then (gdT (okO σ v0R 11) <| gdT (okO σ (aR σ v0R 1) 1) <| bndT (M_Tw_allows (aR σ v0R 1) σ) fun r51 σ52 => .inr (some (r51, σ52))) else (if v1I = (11 : Int32) then (gdT (okO σ v0R 11) <| gdT (okO σ (aR σ v0R 3) 4) <| bndT (M_Bk_hints (aR σ v0R 3) σ) fun r56 σ57 => .inr (some (r56, σ57))) else (.inr (some (((-1) : Int32), σ))))))))))))))
noncomputable def F_Bp_count : S_Bp_count → S_Bp_count ⊕ Option (Int32 × AM) := fun s => match s.1 with
  | _ => T_Bp_count_0 (s.2.1) (s.2.2.1) (s.2.2.2)
noncomputable def L_Bp_count_0 (v0R : Nat) (v1I : Int32) (σ : AM) : Option (Int32 × AM) := lp F_Bp_count (0, v0R, v1I, σ)
set_option maxRecDepth 20000 in
theorem E_Bp_count_0 (v0R : Nat) (v1I : Int32) (σ : AM) : L_Bp_count_0 v0R v1I σ = (if v1I = (0 : Int32) then (gd (okO σ v0R 11) <| gd (okO σ (aR σ v0R 1) 1) <| bnd (M_Tw_things (aR σ v0R 1) σ) fun r4 σ5 => (some (r4, σ5))) else (if v1I = (1 : Int32) then (gd (okO σ v0R 11) <| gd (okO σ (aR σ v0R 1) 1) <| bnd (M_Tw_most (aR σ v0R 1) σ) fun r9 σ10 => (some (r9, σ10))) else (if v1I = (2 : Int32) then (gd (okO σ v0R 11) <| gd (okO σ (aR σ v0R 1) 1) <| bnd (M_Tw_bar (aR σ v0R 1) σ) fun r14 σ15 => (some (r14, σ15))) else (if v1I = (3 : Int32) then (gd (okO σ v0R 11) <| gd (okO σ (aR σ v0R 1) 1) <| bnd (M_Tw_all (aR σ v0R 1) σ) fun r19 σ20 => (some (r19, σ20))) else (if v1I = (4 : Int32) then (gd (okO σ v0R 11) <| gd (okO σ (aR σ v0R 2) 3) <| bnd (M_Ls_allowed (aR σ v0R 2) σ) fun r24 σ25 => (some (r24, σ25))) else (if v1I = (5 : Int32) then (gd (okO σ v0R 11) <| gd (okO σ (aR σ v0R 2) 3) <| bnd (M_Ls_size (aR σ v0R 2) σ) fun r29 σ30 => (some (r29, σ30))) else (if v1I = (6 : Int32) then (gd (okO σ v0R 11) <| gd (okO σ (aR σ v0R 3) 4) <| bnd (M_Bk_trials (aR σ v0R 3) σ) fun r34 σ35 => (some (r34, σ35))) else (if v1I = (7 : Int32) then (gd (okO σ v0R 11) <| gd (okO σ (aR σ v0R 3) 4) <| bnd (M_Bk_ringing (aR σ v0R 3) σ) fun r39 σ40 => (some (r39, σ40))) else (if v1I = (8 : Int32) then (gd (okO σ v0R 11) <| (some ((aI σ v0R 11), σ))) else (if v1I = (9 : Int32) then (gd (okO σ v0R 11) <| gd (okO σ (aR σ v0R 0) 2) <| bnd (M_Rd_size (aR σ v0R 0) σ) fun r46 σ47 => (some (r46, σ47))) else (if v1I = (10 : Int32) then (gd (okO σ v0R 11) <| gd (okO σ (aR σ v0R 1) 1) <| bnd (M_Tw_allows (aR σ v0R 1) σ) fun r51 σ52 => (some (r51, σ52))) else (if v1I = (11 : Int32) then (gd (okO σ v0R 11) <| gd (okO σ (aR σ v0R 3) 4) <| bnd (M_Bk_hints (aR σ v0R 3) σ) fun r56 σ57 => (some (r56, σ57))) else ((some (((-1) : Int32), σ))))))))))))))) := by
  unfold L_Bp_count_0
  rw [lp_eq]
  show lpK (lp F_Bp_count) (T_Bp_count_0 v0R v1I σ) = _
  unfold T_Bp_count_0
  simp only [lpK_ite, lq_inl, lq_inr, lpK_bnd, lpK_gd, lq_let]
  try rfl
noncomputable def M_Bp_count (v0R : Nat) (v1I : Int32) (σ : AM) : Option (Int32 × AM) := mw σ (L_Bp_count_0 v0R v1I σ)
def I_Bp_count (G : GX) (p : Program) (l : Launch) (e : Env) (s : State) (m : MethodId) (args : Array Value) (below : List Frame) (meth : Method) (c : Code) (z0 u0 n : Nat) : Prop :=
  (∀ (v0R : Nat) (v1I : Int32) (σ : AM), VX (QM eI G args s below z0 u0) G p l e s m args below meth c 1 z0 u0 2 (lpn F_Bp_count n (0, v0R, v1I, σ)) 0 [(0, .ref v0R), (1, .int v1I)] [] σ)
set_option maxRecDepth 20000 in
theorem s_Bp_count_0 {G : GX} {p : Program} {l : Launch} {e : Env} {s : State} {m : MethodId} {args : Array Value} {below : List Frame} {meth : Method} {c : Code} {z0 u0 n : Nat} (C : Cx G p s m args meth c prog_1_method_44_code 2 "BellPlate" ((some FieldType.int))) (IH : I_Bp_count G p l e s m args below meth c z0 u0 n) (v0R : Nat) (v1I : Int32) (σ : AM) : VX (QM eI G args s below z0 u0) G p l e s m args below meth c 1 z0 u0 2 (lpK (lpn F_Bp_count n) (T_Bp_count_0 v0R v1I σ)) 0 [(0, .ref v0R), (1, .int v1I)] [] σ := by
  unfold T_Bp_count_0
  refine x_iload_n C d_Bp_count_0 1 rfl ?_
  refine x_split (fun h1 => ?_) (fun h1 => ?_)
  · refine x_tabI (tgt := 64) C h1 d_Bp_count_1 (by decide) (by decide) rfl (by decide) ?_
    refine x_aload_n C d_Bp_count_64 0 rfl ?_
    refine x_gd (fun h2 => ?_)
    refine x_gd (fun h3 => ?_)
    refine x_getR (k := 1) (kv := 1) C (okO_iff.mp h2) rfl j10_ok (by decide) rfl (okO_iff.mp h3) (by decide) w691 d_Bp_count_65 ?_
    refine x_callVI (As := []) C (c_Tw_things G l (aR σ v0R 1)  σ) (okO_iff.mp h3) rfl w643 w644 w1025 w645 w122 k_Tw_things rfl (by decide) (by decide) rfl (Nat.le_of_ble_eq_true rfl) d_Bp_count_68 (fun r4 σ5 => ?_)
    exact x_iret C d_Bp_count_71
  · refine x_split (fun h6 => ?_) (fun h6 => ?_)
    · refine x_tabI (tgt := 72) C h6 d_Bp_count_1 (by decide) (by decide) rfl (by decide) ?_
      refine x_aload_n C d_Bp_count_72 0 rfl ?_
      refine x_gd (fun h7 => ?_)
      refine x_gd (fun h8 => ?_)
      refine x_getR (k := 1) (kv := 1) C (okO_iff.mp h7) rfl j10_ok (by decide) rfl (okO_iff.mp h8) (by decide) w691 d_Bp_count_73 ?_
      refine x_callVI (As := []) C (c_Tw_most G l (aR σ v0R 1)  σ) (okO_iff.mp h8) rfl w651 w652 w1684 w653 w122 k_Tw_most rfl (by decide) (by decide) rfl (Nat.le_of_ble_eq_true rfl) d_Bp_count_76 (fun r9 σ10 => ?_)
      exact x_iret C d_Bp_count_79
    · refine x_split (fun h11 => ?_) (fun h11 => ?_)
      · refine x_tabI (tgt := 80) C h11 d_Bp_count_1 (by decide) (by decide) rfl (by decide) ?_
        refine x_aload_n C d_Bp_count_80 0 rfl ?_
        refine x_gd (fun h12 => ?_)
        refine x_gd (fun h13 => ?_)
        refine x_getR (k := 1) (kv := 1) C (okO_iff.mp h12) rfl j10_ok (by decide) rfl (okO_iff.mp h13) (by decide) w691 d_Bp_count_81 ?_
        refine x_callVI (As := []) C (c_Tw_bar G l (aR σ v0R 1)  σ) (okO_iff.mp h13) rfl w655 w656 w1685 w657 w122 k_Tw_bar rfl (by decide) (by decide) rfl (Nat.le_of_ble_eq_true rfl) d_Bp_count_84 (fun r14 σ15 => ?_)
        exact x_iret C d_Bp_count_87
      · refine x_split (fun h16 => ?_) (fun h16 => ?_)
        · refine x_tabI (tgt := 88) C h16 d_Bp_count_1 (by decide) (by decide) rfl (by decide) ?_
          refine x_aload_n C d_Bp_count_88 0 rfl ?_
          refine x_gd (fun h17 => ?_)
          refine x_gd (fun h18 => ?_)
          refine x_getR (k := 1) (kv := 1) C (okO_iff.mp h17) rfl j10_ok (by decide) rfl (okO_iff.mp h18) (by decide) w691 d_Bp_count_89 ?_
          refine x_callVI (As := []) C (c_Tw_all G l (aR σ v0R 1)  σ) (okO_iff.mp h18) rfl w630 w631 w1686 w632 w122 k_Tw_all rfl (by decide) (by decide) rfl (Nat.le_of_ble_eq_true rfl) d_Bp_count_92 (fun r19 σ20 => ?_)
          exact x_iret C d_Bp_count_95
        · refine x_split (fun h21 => ?_) (fun h21 => ?_)
          · refine x_tabI (tgt := 96) C h21 d_Bp_count_1 (by decide) (by decide) rfl (by decide) ?_
            refine x_aload_n C d_Bp_count_96 0 rfl ?_
            refine x_gd (fun h22 => ?_)
            refine x_gd (fun h23 => ?_)
            refine x_getR (k := 2) (kv := 3) C (okO_iff.mp h22) rfl j10_ok (by decide) rfl (okO_iff.mp h23) (by decide) w692 d_Bp_count_97 ?_
            refine x_callVI (As := []) C (c_Ls_allowed G l (aR σ v0R 2)  σ) (okO_iff.mp h23) rfl w1404 w1405 w1403 w1406 w123 k_Ls_allowed rfl (by decide) (by decide) rfl (Nat.le_of_ble_eq_true rfl) d_Bp_count_100 (fun r24 σ25 => ?_)
            exact x_iret C d_Bp_count_103
          · refine x_split (fun h26 => ?_) (fun h26 => ?_)
            · refine x_tabI (tgt := 104) C h26 d_Bp_count_1 (by decide) (by decide) rfl (by decide) ?_
              refine x_aload_n C d_Bp_count_104 0 rfl ?_
              refine x_gd (fun h27 => ?_)
              refine x_gd (fun h28 => ?_)
              refine x_getR (k := 2) (kv := 3) C (okO_iff.mp h27) rfl j10_ok (by decide) rfl (okO_iff.mp h28) (by decide) w692 d_Bp_count_105 ?_
              refine x_callVI (As := []) C (c_Ls_size G l (aR σ v0R 2)  σ) (okO_iff.mp h28) rfl w1052 w1053 w1687 w1054 w123 k_Ls_size rfl (by decide) (by decide) rfl (Nat.le_of_ble_eq_true rfl) d_Bp_count_108 (fun r29 σ30 => ?_)
              exact x_iret C d_Bp_count_111
            · refine x_split (fun h31 => ?_) (fun h31 => ?_)
              · refine x_tabI (tgt := 112) C h31 d_Bp_count_1 (by decide) (by decide) rfl (by decide) ?_
                refine x_aload_n C d_Bp_count_112 0 rfl ?_
                refine x_gd (fun h32 => ?_)
                refine x_gd (fun h33 => ?_)
                refine x_getR (k := 3) (kv := 4) C (okO_iff.mp h32) rfl j10_ok (by decide) rfl (okO_iff.mp h33) (by decide) w693 d_Bp_count_113 ?_
                refine x_callVI (As := []) C (c_Bk_trials G l (aR σ v0R 3)  σ) (okO_iff.mp h33) rfl w1367 w1368 w1688 w1369 w124 k_Bk_trials rfl (by decide) (by decide) rfl (Nat.le_of_ble_eq_true rfl) d_Bp_count_116 (fun r34 σ35 => ?_)
                exact x_iret C d_Bp_count_119
              · refine x_split (fun h36 => ?_) (fun h36 => ?_)
                · refine x_tabI (tgt := 120) C h36 d_Bp_count_1 (by decide) (by decide) rfl (by decide) ?_
                  refine x_aload_n C d_Bp_count_120 0 rfl ?_
                  refine x_gd (fun h37 => ?_)
                  refine x_gd (fun h38 => ?_)
                  refine x_getR (k := 3) (kv := 4) C (okO_iff.mp h37) rfl j10_ok (by decide) rfl (okO_iff.mp h38) (by decide) w693 d_Bp_count_121 ?_
                  refine x_callVI (As := []) C (c_Bk_ringing G l (aR σ v0R 3)  σ) (okO_iff.mp h38) rfl w1690 w1691 w1689 w1692 w124 k_Bk_ringing rfl (by decide) (by decide) rfl (Nat.le_of_ble_eq_true rfl) d_Bp_count_124 (fun r39 σ40 => ?_)
                  exact x_iret C d_Bp_count_127
                · refine x_split (fun h41 => ?_) (fun h41 => ?_)
                  · refine x_tabI (tgt := 128) C h41 d_Bp_count_1 (by decide) (by decide) rfl (by decide) ?_
                    refine x_aload_n C d_Bp_count_128 0 rfl ?_
                    refine x_gd (fun h42 => ?_)
                    refine x_getI (k := 11) C (okO_iff.mp h42) rfl j10_ok (by decide) rfl w701 d_Bp_count_129 ?_
                    exact x_iret C d_Bp_count_132
                  · refine x_split (fun h43 => ?_) (fun h43 => ?_)
                    · refine x_tabI (tgt := 133) C h43 d_Bp_count_1 (by decide) (by decide) rfl (by decide) ?_
                      refine x_aload_n C d_Bp_count_133 0 rfl ?_
                      refine x_gd (fun h44 => ?_)
                      refine x_gd (fun h45 => ?_)
                      refine x_getR (k := 0) (kv := 2) C (okO_iff.mp h44) rfl j10_ok (by decide) rfl (okO_iff.mp h45) (by decide) w690 d_Bp_count_134 ?_
                      refine x_callVI (As := []) C (c_Rd_size G l (aR σ v0R 0)  σ) (okO_iff.mp h45) rfl w737 w738 w736 w739 w121 k_Rd_size rfl (by decide) (by decide) rfl (Nat.le_of_ble_eq_true rfl) d_Bp_count_137 (fun r46 σ47 => ?_)
                      exact x_iret C d_Bp_count_140
                    · refine x_split (fun h48 => ?_) (fun h48 => ?_)
                      · refine x_tabI (tgt := 141) C h48 d_Bp_count_1 (by decide) (by decide) rfl (by decide) ?_
                        refine x_aload_n C d_Bp_count_141 0 rfl ?_
                        refine x_gd (fun h49 => ?_)
                        refine x_gd (fun h50 => ?_)
                        refine x_getR (k := 1) (kv := 1) C (okO_iff.mp h49) rfl j10_ok (by decide) rfl (okO_iff.mp h50) (by decide) w691 d_Bp_count_142 ?_
                        refine x_callVI (As := []) C (c_Tw_allows G l (aR σ v0R 1)  σ) (okO_iff.mp h50) rfl w904 w905 w1693 w906 w122 k_Tw_allows rfl (by decide) (by decide) rfl (Nat.le_of_ble_eq_true rfl) d_Bp_count_145 (fun r51 σ52 => ?_)
                        exact x_iret C d_Bp_count_148
                      · refine x_split (fun h53 => ?_) (fun h53 => ?_)
                        · refine x_tabI (tgt := 149) C h53 d_Bp_count_1 (by decide) (by decide) rfl (by decide) ?_
                          refine x_aload_n C d_Bp_count_149 0 rfl ?_
                          refine x_gd (fun h54 => ?_)
                          refine x_gd (fun h55 => ?_)
                          refine x_getR (k := 3) (kv := 4) C (okO_iff.mp h54) rfl j10_ok (by decide) rfl (okO_iff.mp h55) (by decide) w693 d_Bp_count_150 ?_
                          refine x_callVI (As := []) C (c_Bk_hints G l (aR σ v0R 3)  σ) (okO_iff.mp h55) rfl w1695 w1696 w1694 w1697 w124 k_Bk_hints rfl (by decide) (by decide) rfl (Nat.le_of_ble_eq_true rfl) d_Bp_count_153 (fun r56 σ57 => ?_)
                          exact x_iret C d_Bp_count_156
                        · refine x_tabO (tgt := 157) C d_Bp_count_1 (by have e0 := lv_neT h1 (a := 0) (by decide); have e1 := lv_neT h6 (a := 1) (by decide); have e2 := lv_neT h11 (a := 2) (by decide); have e3 := lv_neT h16 (a := 3) (by decide); have e4 := lv_neT h21 (a := 4) (by decide); have e5 := lv_neT h26 (a := 5) (by decide); have e6 := lv_neT h31 (a := 6) (by decide); have e7 := lv_neT h36 (a := 7) (by decide); have e8 := lv_neT h41 (a := 8) (by decide); have e9 := lv_neT h43 (a := 9) (by decide); have e10 := lv_neT h48 (a := 10) (by decide); have e11 := lv_neT h53 (a := 11) (by decide); omega) (by decide) ?_
                          refine x_iconst (v := ((-1) : Int32)) C d_Bp_count_157 (by decide) ?_
                          exact x_iret C d_Bp_count_158
theorem i_Bp_count {G : GX} {p : Program} {l : Launch} {e : Env} {s : State} {m : MethodId} {args : Array Value} {below : List Frame} {meth : Method} {c : Code} {z0 u0 : Nat} (C : Cx G p s m args meth c prog_1_method_44_code 2 "BellPlate" ((some FieldType.int))) (n : Nat) : I_Bp_count G p l e s m args below meth c z0 u0 n := by
  induction n with
  | zero => exact fun _ _ _ => x_none
  | succ n IH => exact fun v0R v1I σ => s_Bp_count_0 C IH v0R v1I σ
theorem c_Bp_count (G : GX) (l : Launch) (v0R : Nat) (v1I : Int32) (σ : AM) : CT eI G l 1 y_Bp_count prog_1_method_44_code 2 ((some FieldType.int)) [.ref v0R, .int v1I] σ (M_Bp_count v0R v1I σ) := by
  refine ct_of (by decide +kernel) (Nat.le_of_ble_eq_true rfl) (fun p e s m args below meth c C hin => ?_)
  refine x_lve (lv' := [(0, .ref v0R), (1, .int v1I)]) rfl ?_
  intro r σ' h
  obtain ⟨n, hn⟩ := (lp_iff _ _ _).mp h
  exact (i_Bp_count C n) v0R v1I σ r σ' hn
