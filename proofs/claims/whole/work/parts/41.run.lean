/-! BellPlate.run(III)I -/
abbrev y_Bp_runX : MethodName := ⟨"BellPlate", "run", "(III)I"⟩
theorem k_Bp_runX : y_Bp_runX.cls ≠ "java/lang/invoke/MethodHandle" ∧ y_Bp_runX.cls ≠ "java/lang/invoke/VarHandle" ∧ (parseMethodDescriptor y_Bp_runX.desc).map (fun d => d.parameters.length) = some 3 := by decide +kernel
theorem d_Bp_runX_0 : decode prog_1_method_17_code 0 = .ok (.aload_n 0, 1) := by decide +kernel
theorem d_Bp_runX_1 : decode prog_1_method_17_code 1 = .ok (.iload_n 1, 1) := by decide +kernel
theorem d_Bp_runX_2 : decode prog_1_method_17_code 2 = .ok (.iload_n 2, 1) := by decide +kernel
theorem d_Bp_runX_3 : decode prog_1_method_17_code 3 = .ok (.invokevirtual 215, 3) := by decide +kernel
theorem d_Bp_runX_6 : decode prog_1_method_17_code 6 = .ok (.ifCond .eq 12, 3) := by decide +kernel
theorem d_Bp_runX_9 : decode prog_1_method_17_code 9 = .ok (.iload_n 3, 1) := by decide +kernel
theorem d_Bp_runX_10 : decode prog_1_method_17_code 10 = .ok (.ifCond .lt 8, 3) := by decide +kernel
theorem d_Bp_runX_13 : decode prog_1_method_17_code 13 = .ok (.iload_n 3, 1) := by decide +kernel
theorem d_Bp_runX_14 : decode prog_1_method_17_code 14 = .ok (.iconst 2, 1) := by decide +kernel
theorem d_Bp_runX_15 : decode prog_1_method_17_code 15 = .ok (.if_icmp .le 13, 3) := by decide +kernel
theorem d_Bp_runX_18 : decode prog_1_method_17_code 18 = .ok (.new 218, 3) := by decide +kernel
theorem d_Bp_runX_21 : decode prog_1_method_17_code 21 = .ok (.dup, 1) := by decide +kernel
theorem d_Bp_runX_22 : decode prog_1_method_17_code 22 = .ok (.ldc 220, 2) := by decide +kernel
theorem d_Bp_runX_24 : decode prog_1_method_17_code 24 = .ok (.invokespecial 222, 3) := by decide +kernel
theorem d_Bp_runX_27 : decode prog_1_method_17_code 27 = .ok (.athrow, 1) := by decide +kernel
theorem d_Bp_runX_28 : decode prog_1_method_17_code 28 = .ok (.aload_n 0, 1) := by decide +kernel
theorem d_Bp_runX_29 : decode prog_1_method_17_code 29 = .ok (.getfield 53, 3) := by decide +kernel
theorem d_Bp_runX_32 : decode prog_1_method_17_code 32 = .ok (.iload_n 1, 1) := by decide +kernel
theorem d_Bp_runX_33 : decode prog_1_method_17_code 33 = .ok (.iload_n 2, 1) := by decide +kernel
theorem d_Bp_runX_34 : decode prog_1_method_17_code 34 = .ok (.invokevirtual 225, 3) := by decide +kernel
theorem d_Bp_runX_37 : decode prog_1_method_17_code 37 = .ok (.iload_n 3, 1) := by decide +kernel
theorem d_Bp_runX_38 : decode prog_1_method_17_code 38 = .ok (.lookupswitch 42 #[(0, 26), (1, 34)], 26) := by decide +kernel
theorem d_Bp_runX_64 : decode prog_1_method_17_code 64 = .ok (.aload_n 0, 1) := by decide +kernel
theorem d_Bp_runX_65 : decode prog_1_method_17_code 65 = .ok (.getfield 53, 3) := by decide +kernel
theorem d_Bp_runX_68 : decode prog_1_method_17_code 68 = .ok (.invokevirtual 228, 3) := by decide +kernel
theorem d_Bp_runX_71 : decode prog_1_method_17_code 71 = .ok (.ireturn, 1) := by decide +kernel
theorem d_Bp_runX_72 : decode prog_1_method_17_code 72 = .ok (.aload_n 0, 1) := by decide +kernel
theorem d_Bp_runX_73 : decode prog_1_method_17_code 73 = .ok (.getfield 53, 3) := by decide +kernel
theorem d_Bp_runX_76 : decode prog_1_method_17_code 76 = .ok (.invokevirtual 231, 3) := by decide +kernel
theorem d_Bp_runX_79 : decode prog_1_method_17_code 79 = .ok (.ireturn, 1) := by decide +kernel
theorem d_Bp_runX_80 : decode prog_1_method_17_code 80 = .ok (.aload_n 0, 1) := by decide +kernel
theorem d_Bp_runX_81 : decode prog_1_method_17_code 81 = .ok (.getfield 53, 3) := by decide +kernel
theorem d_Bp_runX_84 : decode prog_1_method_17_code 84 = .ok (.invokevirtual 234, 3) := by decide +kernel
theorem d_Bp_runX_87 : decode prog_1_method_17_code 87 = .ok (.ireturn, 1) := by decide +kernel
abbrev S_Bp_runX : Type := Nat × Nat × Int32 × Int32 × Int32 × AM
noncomputable def T_Bp_runX_0 (v0R : Nat) (v1I : Int32) (v2I : Int32) (v3I : Int32) (σ : AM) : S_Bp_runX ⊕ Option (Option Int32 × AM) :=
  gdT (okO σ v0R 11) <| bndT (M_Bp_canRun v0R v1I v2I σ) fun r1 σ2 => if r1 = 0 then (.inl (1, 0, 0, 0, 0, σ2)) else (if v3I < 0 then (.inl (1, 0, 0, 0, 0, σ2)) else (if (2 : Int32) < v3I then (.inl (1, 0, 0, 0, 0, σ2)) else (gdT (okO σ2 v0R 11) <| gdT (okO σ2 (aR σ2 v0R 5) 6) <| bndT (M_Ch_hide (aR σ2 v0R 5) v1I v2I σ2) fun _ σ7 => if v3I = (0 : Int32) then (gdT (okO σ7 v0R 11) <| gdT (okO σ7 (aR σ7 v0R 5) 6) <| bndT (M_Ch_made (aR σ7 v0R 5) σ7) fun r11 σ12 => .inr (some (some r11, σ12))) else (if v3I = (1 : Int32) then (gdT (okO σ7 v0R 11) <| gdT (okO σ7 (aR σ7 v0R 5) 6) <| bndT (M_Ch_rang (aR σ7 v0R 5) σ7) fun r16 σ17 => .inr (some (some r16, σ17))) else (gdT (okO σ7 v0R 11) <| gdT (okO σ7 (aR σ7 v0R 5) 6) <| bndT (M_Ch_paid (aR σ7 v0R 5) σ7) fun r20 σ21 => .inr (some (some r20, σ21)))))))
noncomputable def T_Bp_runX_1  (σ : AM) : S_Bp_runX ⊕ Option (Option Int32 × AM) :=
  .inr (some (none, nw σ 0 6))
noncomputable def F_Bp_runX : S_Bp_runX → S_Bp_runX ⊕ Option (Option Int32 × AM) := fun s => match s.1 with
  | 0 => T_Bp_runX_0 (s.2.1) (s.2.2.1) (s.2.2.2.1) (s.2.2.2.2.1) (s.2.2.2.2.2)
  | _ => T_Bp_runX_1  (s.2.2.2.2.2)
noncomputable def L_Bp_runX_0 (v0R : Nat) (v1I : Int32) (v2I : Int32) (v3I : Int32) (σ : AM) : Option (Option Int32 × AM) := lp F_Bp_runX (0, v0R, v1I, v2I, v3I, σ)
noncomputable def L_Bp_runX_1  (σ : AM) : Option (Option Int32 × AM) := lp F_Bp_runX (1, 0, 0, 0, 0, σ)
set_option maxRecDepth 20000 in
theorem E_Bp_runX_0 (v0R : Nat) (v1I : Int32) (v2I : Int32) (v3I : Int32) (σ : AM) : L_Bp_runX_0 v0R v1I v2I v3I σ = (gd (okO σ v0R 11) <| bnd (M_Bp_canRun v0R v1I v2I σ) fun r1 σ2 => if r1 = 0 then (L_Bp_runX_1 σ2) else (if v3I < 0 then (L_Bp_runX_1 σ2) else (if (2 : Int32) < v3I then (L_Bp_runX_1 σ2) else (gd (okO σ2 v0R 11) <| gd (okO σ2 (aR σ2 v0R 5) 6) <| bnd (M_Ch_hide (aR σ2 v0R 5) v1I v2I σ2) fun _ σ7 => if v3I = (0 : Int32) then (gd (okO σ7 v0R 11) <| gd (okO σ7 (aR σ7 v0R 5) 6) <| bnd (M_Ch_made (aR σ7 v0R 5) σ7) fun r11 σ12 => (some (some r11, σ12))) else (if v3I = (1 : Int32) then (gd (okO σ7 v0R 11) <| gd (okO σ7 (aR σ7 v0R 5) 6) <| bnd (M_Ch_rang (aR σ7 v0R 5) σ7) fun r16 σ17 => (some (some r16, σ17))) else (gd (okO σ7 v0R 11) <| gd (okO σ7 (aR σ7 v0R 5) 6) <| bnd (M_Ch_paid (aR σ7 v0R 5) σ7) fun r20 σ21 => (some (some r20, σ21)))))))) := by
  unfold L_Bp_runX_0
  rw [lp_eq]
  show lpK (lp F_Bp_runX) (T_Bp_runX_0 v0R v1I v2I v3I σ) = _
  unfold T_Bp_runX_0
  simp only [lpK_ite, lq_inl, lq_inr, lpK_bnd, lpK_gd, lq_let]
  try rfl
set_option maxRecDepth 20000 in
theorem E_Bp_runX_1  (σ : AM) : L_Bp_runX_1  σ = ((some (none, nw σ 0 6))) := by
  unfold L_Bp_runX_1
  rw [lp_eq]
  show lpK (lp F_Bp_runX) (T_Bp_runX_1  σ) = _
  unfold T_Bp_runX_1
  simp only [lpK_ite, lq_inl, lq_inr, lpK_bnd, lpK_gd, lq_let]
  try rfl
noncomputable def M_Bp_runX (v0R : Nat) (v1I : Int32) (v2I : Int32) (v3I : Int32) (σ : AM) : Option (Option Int32 × AM) := mw σ (L_Bp_runX_0 v0R v1I v2I v3I σ)
def I_Bp_runX (G : GX) (p : Program) (l : Launch) (e : Env) (s : State) (m : MethodId) (args : Array Value) (below : List Frame) (meth : Method) (c : Code) (z0 u0 n : Nat) : Prop :=
  (∀ (v0R : Nat) (v1I : Int32) (v2I : Int32) (v3I : Int32) (σ : AM), VX (QX G args s below z0 u0) G p l e s m args below meth c 16 z0 u0 4 (lpn F_Bp_runX n (0, v0R, v1I, v2I, v3I, σ)) 0 [(0, .ref v0R), (1, .int v1I), (2, .int v2I), (3, .int v3I)] [] σ) ∧
  (∀ (σ : AM), VX (QX G args s below z0 u0) G p l e s m args below meth c 16 z0 u0 4 (lpn F_Bp_runX n (1, 0, 0, 0, 0, σ)) 18 [] [] σ)
set_option maxRecDepth 20000 in
theorem s_Bp_runX_0 {G : GX} {p : Program} {l : Launch} {e : Env} {s : State} {m : MethodId} {args : Array Value} {below : List Frame} {meth : Method} {c : Code} {z0 u0 n : Nat} (C : Cx G p s m args meth c prog_1_method_17_code 4 "BellPlate" ((some FieldType.int))) {σ0 : AM} (hlt : l.stackTraces = false) (hEx : EX G s s.heap) (hRs : RP G σ0 s.heap) (hz0 : aZ σ0 = z0) (htab : ∀ x ∈ c.exceptionTable.toList, False) (IH : I_Bp_runX G p l e s m args below meth c z0 u0 n) (v0R : Nat) (v1I : Int32) (v2I : Int32) (v3I : Int32) (σ : AM) : VX (QX G args s below z0 u0) G p l e s m args below meth c 16 z0 u0 4 (lpK (lpn F_Bp_runX n) (T_Bp_runX_0 v0R v1I v2I v3I σ)) 0 [(0, .ref v0R), (1, .int v1I), (2, .int v2I), (3, .int v3I)] [] σ := by
  unfold T_Bp_runX_0
  refine x_aload_n C d_Bp_runX_0 0 rfl ?_
  refine x_iload_n C d_Bp_runX_1 1 rfl ?_
  refine x_iload_n C d_Bp_runX_2 2 rfl ?_
  refine x_gd (fun h3 => ?_)
  refine x_callVI (As := [.int v1I, .int v2I]) C (c_Bp_canRun G l v0R v1I v2I σ) (okO_iff.mp h3) rfl w1253 w34 w1251 w1254 w120 k_Bp_canRun rfl (by decide) (by decide) rfl (Nat.le_of_ble_eq_true rfl) d_Bp_runX_3 (fun r1 σ2 => ?_)
  refine x_if_eq (tgt := 18) C d_Bp_runX_6 (by decide) (fun _ => ?_) (fun _ => ?_)
  · refine x_lv [] rfl ?_
    exact IH.2  (σ2)
  · refine x_iload_n C d_Bp_runX_9 3 rfl ?_
    refine x_if_lt (tgt := 18) C d_Bp_runX_10 (by decide) (fun _ => ?_) (fun _ => ?_)
    · refine x_lv [] rfl ?_
      exact IH.2  (σ2)
    · refine x_iload_n C d_Bp_runX_13 3 rfl ?_
      refine x_iconst (v := (2 : Int32)) C d_Bp_runX_14 (by decide) ?_
      refine x_icmp_le (tgt := 28) C d_Bp_runX_15 (by decide) (fun _ => ?_) (fun _ => ?_)
      · refine x_lv [] rfl ?_
        exact IH.2  (σ2)
      · refine x_aload_n C d_Bp_runX_28 0 rfl ?_
        refine x_gd (fun h4 => ?_)
        refine x_gd (fun h5 => ?_)
        refine x_getR (k := 5) (kv := 6) C (okO_iff.mp h4) rfl j10_ok (by decide) rfl (okO_iff.mp h5) (by decide) w695 d_Bp_runX_29 ?_
        refine x_iload_n C d_Bp_runX_32 1 rfl ?_
        refine x_iload_n C d_Bp_runX_33 2 rfl ?_
        refine x_callVV (As := [.int v1I, .int v2I]) C (c_Ch_hide G l (aR σ2 v0R 5) v1I v2I σ2) (okO_iff.mp h5) rfl w1260 w1261 w1259 w1262 w126 k_Ch_hide rfl (by decide) (by decide) rfl (Nat.le_of_ble_eq_true rfl) d_Bp_runX_34 (fun r6 σ7 => ?_)
        refine x_iload_n C d_Bp_runX_37 3 rfl ?_
        refine x_split (fun h8 => ?_) (fun h8 => ?_)
        · refine x_look (off := 26) (tgt := 64) C d_Bp_runX_38 (by decide) (by rw [h8]; rfl) (by decide) ?_
          refine x_aload_n C d_Bp_runX_64 0 rfl ?_
          refine x_gd (fun h9 => ?_)
          refine x_gd (fun h10 => ?_)
          refine x_getR (k := 5) (kv := 6) C (okO_iff.mp h9) rfl j10_ok (by decide) rfl (okO_iff.mp h10) (by decide) w695 d_Bp_runX_65 ?_
          refine x_callVI (As := []) C (c_Ch_made G l (aR σ7 v0R 5)  σ7) (okO_iff.mp h10) rfl w1772 w1773 w1771 w1774 w126 k_Ch_made rfl (by decide) (by decide) rfl (Nat.le_of_ble_eq_true rfl) d_Bp_runX_68 (fun r11 σ12 => ?_)
          exact x_iretX C d_Bp_runX_71
        · refine x_split (fun h13 => ?_) (fun h13 => ?_)
          · refine x_look (off := 34) (tgt := 72) C d_Bp_runX_38 (by decide) (by rw [h13]; rfl) (by decide) ?_
            refine x_aload_n C d_Bp_runX_72 0 rfl ?_
            refine x_gd (fun h14 => ?_)
            refine x_gd (fun h15 => ?_)
            refine x_getR (k := 5) (kv := 6) C (okO_iff.mp h14) rfl j10_ok (by decide) rfl (okO_iff.mp h15) (by decide) w695 d_Bp_runX_73 ?_
            refine x_callVI (As := []) C (c_Ch_rang G l (aR σ7 v0R 5)  σ7) (okO_iff.mp h15) rfl w1776 w1777 w1775 w1778 w126 k_Ch_rang rfl (by decide) (by decide) rfl (Nat.le_of_ble_eq_true rfl) d_Bp_runX_76 (fun r16 σ17 => ?_)
            exact x_iretX C d_Bp_runX_79
          · refine x_look (off := 42) (tgt := 80) C d_Bp_runX_38 (by decide) ((lv_osw h8 (by decide)).trans ((lv_osw h13 (by decide)).trans (rfl))) (by decide) ?_
            refine x_aload_n C d_Bp_runX_80 0 rfl ?_
            refine x_gd (fun h18 => ?_)
            refine x_gd (fun h19 => ?_)
            refine x_getR (k := 5) (kv := 6) C (okO_iff.mp h18) rfl j10_ok (by decide) rfl (okO_iff.mp h19) (by decide) w695 d_Bp_runX_81 ?_
            refine x_callVI (As := []) C (c_Ch_paid G l (aR σ7 v0R 5)  σ7) (okO_iff.mp h19) rfl w1780 w1781 w1779 w1782 w126 k_Ch_paid rfl (by decide) (by decide) rfl (Nat.le_of_ble_eq_true rfl) d_Bp_runX_84 (fun r20 σ21 => ?_)
            exact x_iretX C d_Bp_runX_87
set_option maxRecDepth 20000 in
theorem s_Bp_runX_1 {G : GX} {p : Program} {l : Launch} {e : Env} {s : State} {m : MethodId} {args : Array Value} {below : List Frame} {meth : Method} {c : Code} {z0 u0 n : Nat} (C : Cx G p s m args meth c prog_1_method_17_code 4 "BellPlate" ((some FieldType.int))) {σ0 : AM} (hlt : l.stackTraces = false) (hEx : EX G s s.heap) (hRs : RP G σ0 s.heap) (hz0 : aZ σ0 = z0) (htab : ∀ x ∈ c.exceptionTable.toList, False) (IH : I_Bp_runX G p l e s m args below meth c z0 u0 n)  (σ : AM) : VX (QX G args s below z0 u0) G p l e s m args below meth c 16 z0 u0 4 (lpK (lpn F_Bp_runX n) (T_Bp_runX_1  σ)) 18 [] [] σ := by
  unfold T_Bp_runX_1
  exact x_throw C hlt hEx hRs hz0 htab (by decide) d_Bp_runX_18 d_Bp_runX_21 d_Bp_runX_22 d_Bp_runX_24 d_Bp_runX_27 (Nat.le_of_ble_eq_true rfl)
theorem i_Bp_runX {G : GX} {p : Program} {l : Launch} {e : Env} {s : State} {m : MethodId} {args : Array Value} {below : List Frame} {meth : Method} {c : Code} {z0 u0 : Nat} (C : Cx G p s m args meth c prog_1_method_17_code 4 "BellPlate" ((some FieldType.int))) {σ0 : AM} (hlt : l.stackTraces = false) (hEx : EX G s s.heap) (hRs : RP G σ0 s.heap) (hz0 : aZ σ0 = z0) (htab : ∀ x ∈ c.exceptionTable.toList, False) (n : Nat) : I_Bp_runX G p l e s m args below meth c z0 u0 n := by
  induction n with
  | zero => exact ⟨fun _ _ _ _ _ => x_none, fun _ => x_none⟩
  | succ n IH => exact ⟨fun v0R v1I v2I v3I σ => s_Bp_runX_0 C hlt hEx hRs hz0 htab IH v0R v1I v2I v3I σ, fun σ => s_Bp_runX_1 C hlt hEx hRs hz0 htab IH σ⟩
theorem c_Bp_runX (G : GX) (l : Launch) (hlt : l.stackTraces = false) (v0R : Nat) (v1I : Int32) (v2I : Int32) (v3I : Int32) (σ : AM) : CTX G l 16 y_Bp_runX prog_1_method_17_code 4 ((some FieldType.int)) [.ref v0R, .int v1I, .int v2I, .int v3I] σ (M_Bp_runX v0R v1I v2I v3I σ) := by
  refine ctx_of (by decide +kernel) (Nat.le_of_ble_eq_true rfl) (fun p e s m args below meth c C hEx hRs htab => ?_)
  refine x_lve (lv' := [(0, .ref v0R), (1, .int v1I), (2, .int v2I), (3, .int v3I)]) rfl ?_
  intro r σ' h
  obtain ⟨n, hn⟩ := (lp_iff _ _ _).mp h
  exact (i_Bp_runX C hlt hEx hRs rfl htab n).1 v0R v1I v2I v3I σ r σ' hn
/-! BellPlateLaw.run: x.run(..), its answer laid into out; 1 if it threw -/
abbrev y_Lw_run : MethodName := ⟨"BellPlateLaw", "run", "(LBellPlate;III[J)I"⟩
theorem k_Lw_run : y_Lw_run.cls ≠ "java/lang/invoke/MethodHandle" ∧ y_Lw_run.cls ≠ "java/lang/invoke/VarHandle" ∧ (parseMethodDescriptor y_Lw_run.desc).map (fun d => d.parameters.length) = some 5 := by decide +kernel
theorem wcw : Cond.codeWith y_Lw_run method_3_code 6 (some .int) [(0, 12, 15, 13)] ∈ lw_ok := okm (tk_7 (List.mem_of_getElem? (l := tables_1_7) (i := 141) (by decide +kernel))) rfl
theorem d_Lw_run_0 : decode method_3_code 0 = .ok (.aload 4, 2) := by decide +kernel
theorem d_Lw_run_2 : decode method_3_code 2 = .ok (.iconst 0, 1) := by decide +kernel
theorem d_Lw_run_3 : decode method_3_code 3 = .ok (.aload_n 0, 1) := by decide +kernel
theorem d_Lw_run_4 : decode method_3_code 4 = .ok (.iload_n 1, 1) := by decide +kernel
theorem d_Lw_run_5 : decode method_3_code 5 = .ok (.iload_n 2, 1) := by decide +kernel
theorem d_Lw_run_6 : decode method_3_code 6 = .ok (.iload_n 3, 1) := by decide +kernel
theorem d_Lw_run_7 : decode method_3_code 7 = .ok (.invokevirtual 7, 3) := by decide +kernel
theorem d_Lw_run_10 : decode method_3_code 10 = .ok (.i2l, 1) := by decide +kernel
theorem d_Lw_run_11 : decode method_3_code 11 = .ok (.lastore, 1) := by decide +kernel
theorem d_Lw_run_12 : decode method_3_code 12 = .ok (.goto 7, 3) := by decide +kernel
theorem d_Lw_run_15 : decode method_3_code 15 = .ok (.astore 5, 2) := by decide +kernel
theorem d_Lw_run_17 : decode method_3_code 17 = .ok (.iconst 1, 1) := by decide +kernel
theorem d_Lw_run_18 : decode method_3_code 18 = .ok (.ireturn, 1) := by decide +kernel
theorem d_Lw_run_19 : decode method_3_code 19 = .ok (.iconst 0, 1) := by decide +kernel
theorem d_Lw_run_20 : decode method_3_code 20 = .ok (.ireturn, 1) := by decide +kernel
def B_Lw_run (v4R : Nat) (r : Option Int32) (σ : AM) : Unit ⊕ Option (Int32 × AM) := match r with
  | some v => gdT (okO σ v4R 102) <| gdT (inB 0 (aN σ v4R)) <| letT (sL σ v4R (0 : Int32).toNatClampNeg v.toInt64) fun σ2 => .inr (some (0, σ2))
  | none => .inr (some (1, σ))
noncomputable def T_Lw_run (v0R : Nat) (v1I v2I v3I : Int32) (v4R : Nat) (σ : AM) : Unit ⊕ Option (Int32 × AM) :=
  gdT (okO σ v0R 11) <| bndT (M_Bp_runX v0R v1I v2I v3I σ) fun r σ1 => B_Lw_run v4R r σ1
noncomputable def M_Lw_run (v0R : Nat) (v1I v2I v3I : Int32) (v4R : Nat) (σ : AM) : Option (Int32 × AM) := mw σ (lpK (fun _ => none) (T_Lw_run v0R v1I v2I v3I v4R σ))
theorem c_Lw_run (G : GX) (l : Launch) (hlt : l.stackTraces = false) (v0R : Nat) (v1I v2I v3I : Int32) (v4R : Nat) (σ : AM) : CTW G l 199 y_Lw_run method_3_code 6 (some .int) [(0, 12, 15, 13)] [.ref v0R, .int v1I, .int v2I, .int v3I, .ref v4R] σ (M_Lw_run v0R v1I v2I v3I v4R σ) := by
  refine ctw_of (by decide +kernel) (Nat.le_of_ble_eq_true rfl) (fun p e s m args below meth c C hE htab => ?_)
  refine x_lve (lv' := [(0, .ref v0R), (1, .int v1I), (2, .int v2I), (3, .int v3I), (4, .ref v4R)]) rfl ?_
  obtain ⟨x, hx⟩ : ∃ x, c.exceptionTable.toList = [x] := by
    cases hq : c.exceptionTable.toList with
    | nil => rw [hq] at htab; cases htab
    | cons a t =>
      rw [hq] at htab
      cases t with
      | nil => exact ⟨a, rfl⟩
      | cons b t2 => exact absurd (congrArg List.length htab) (by simp)
  rw [hx] at htab
  have hv : (x.startPc, x.endPc, x.handlerPc, x.catchType) = (0, 12, 15, 13) := (List.cons.inj htab).1
  have e1 : x.startPc = 0 := congrArg (fun q => q.1) hv
  have e2 : x.endPc = 12 := congrArg (fun q => q.2.1) hv
  have e3 : x.handlerPc = 15 := congrArg (fun q => q.2.2.1) hv
  have e4 : x.catchType = 13 := congrArg (fun q => q.2.2.2) hv
  unfold T_Lw_run
  refine x_aload C d_Lw_run_0 4 rfl ?_
  refine x_iconst (v := (0 : Int32)) C d_Lw_run_2 (by decide) ?_
  refine x_aload_n C d_Lw_run_3 0 rfl ?_
  refine x_iload_n C d_Lw_run_4 1 rfl ?_
  refine x_iload_n C d_Lw_run_5 2 rfl ?_
  refine x_iload_n C d_Lw_run_6 3 rfl ?_
  refine x_gd (fun h1 => ?_)
  refine x_callX (As := [.int v1I, .int v2I, .int v3I]) (x := x) C hE (c_Bp_runX G l hlt v0R v1I v2I v3I σ) (okO_iff.mp h1) rfl w1703 w1704 w1702 w1705 w120 k_Bp_runX rfl (by decide) (by decide) rfl (Nat.le_of_ble_eq_true rfl) d_Lw_run_7 hx (by unfold covers; rw [e1, e2]; decide) (by rw [e4]; decide) (by rw [e4]; exact w1701) (fun v σ2 => ?_) (fun q σ2 => ?_)
  · refine x_i2l C d_Lw_run_10 ?_
    show VX _ G p l e s m args below meth c _ _ _ _ (lpK _ (gdT (okO σ2 v4R 102) <| gdT (inB 0 (aN σ2 v4R)) <| letT (sL σ2 v4R (0 : Int32).toNatClampNeg v.toInt64) fun σ2 => .inr (some (0, σ2)))) _ _ _ _
    refine x_gd (fun h2 => ?_)
    refine x_gd (fun h3 => ?_)
    refine x_astJ C (okO_iff.mp h2) (inB_iff.mp h3) d_Lw_run_11 ?_
    refine x_letS (fun σ3 _ => ?_)
    refine x_goto (tgt := 19) C d_Lw_run_12 (by decide) ?_
    refine x_iconst (v := (0 : Int32)) C d_Lw_run_19 (by decide) ?_
    exact x_iret C d_Lw_run_20
  · rw [e3]
    show VX _ G p l e s m args below meth c _ _ _ _ (lpK _ (.inr (some (1, σ2)))) _ _ _ _
    refine x_astore (lv' := [(5, .ref q), (0, .ref v0R), (1, .int v1I), (2, .int v2I), (3, .int v3I), (4, .ref v4R)]) C d_Lw_run_15 (by decide) rfl ?_
    refine x_iconst (v := (1 : Int32)) C d_Lw_run_17 (by decide) ?_
    exact x_iret C d_Lw_run_18
section SC
variable {ρ : Type} {QF : ρ → AM → State → Prop} {G : GX} {p : Program} {l : Launch} {e : Env} {s : State} {m : MethodId} {args : Array Value} {below : List Frame} {meth : Method} {c : Code} {d z0 u0 nL : Nat} {X : Option (ρ × AM)} {pc : Nat} {lv : List (Nat × Value)} {st : List Value} {σ : AM} {cc : ByteArray} {own : String} {ret : Option FieldType}
theorem x_scl (C : Cx G p s m args meth c cc nL own ret) {b L : Nat} {xs : Nat → Int32} (hX : va_X b L xs s G.2.2.1) (hbl : b < G.2.1) {i : Int32} (hin : vp_in i L) (hd : decode cc pc = .ok (.iaload, 1)) (kk : VX QF G p l e s m args below meth c d z0 u0 nL X (pc + 1) lv (.int (xs i.toNatClampNeg) :: st) σ) : VX QF G p l e s m args below meth c d z0 u0 nL X pc lv (.int i :: .ref b :: st) σ := fun r σ' h =>
  ⟨(kk r σ' h).1, fun H locs ls h1 h2 hR hL hl => by
    obtain ⟨cell, q1, q2, q3, q4, q5⟩ := hX
    have hlt : i.toNatClampNeg < L := Nat.not_le.mp fun q => hin (Or.inr q)
    exact W.iald (v := .int (xs i.toNatClampNeg)) C.1 C.2.1 (by rw [hR.2.2.2.1 _ hbl]; exact q1) q2 q3 (by rw [q4]; exact hin) (q5 _ hlt) rfl rfl hd ((kk r σ' h).2 H locs ls h1 h2 hR hL hl)⟩
theorem x_scn (C : Cx G p s m args meth c cc nL own ret) {b L : Nat} {xs : Nat → Int32} (hX : va_X b L xs s G.2.2.1) (hbl : b < G.2.1) (hd : decode cc pc = .ok (.arraylength, 1)) (kk : VX QF G p l e s m args below meth c d z0 u0 nL X (pc + 1) lv (.int (nI L) :: st) σ) : VX QF G p l e s m args below meth c d z0 u0 nL X pc lv (.ref b :: st) σ := fun r σ' h =>
  ⟨(kk r σ' h).1, fun H locs ls h1 h2 hR hL hl => by
    obtain ⟨cell, q1, q2, q3, q4, q5⟩ := hX
    exact W.alen (n := nI L) C.1 C.2.1 (by rw [hR.2.2.2.1 _ hbl]; exact q1) q2 (by rw [q4]; rfl) rfl rfl hd ((kk r σ' h).2 H locs ls h1 h2 hR hL hl)⟩
end SC
