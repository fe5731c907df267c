/-! ===== the law's loop ===== -/
theorem and63 (v : Int32) : v &&& 63 = iI ((v.toBitVec.toNat % 64 : Nat) : Int) := by
  have hm : v.toBitVec.toNat % 64 < 64 := Nat.mod_lt _ (by omega)
  refine Int32.toBitVec_inj.mp (BitVec.eq_of_toNat_eq ?_)
  rw [Int32.toBitVec_and, BitVec.toNat_and]
  show v.toBitVec.toNat &&& 63 = (BitVec.ofInt 32 ((v.toBitVec.toNat % 64 : Nat) : Int)).toNat
  rw [BitVec.ofInt_natCast, BitVec.toNat_ofNat, Nat.mod_eq_of_lt (show v.toBitVec.toNat % 64 < 2 ^ 32 by omega)]
  exact Nat.and_two_pow_sub_one_eq_mod _ 6
theorem law_step {s : SD} {c z u a b0 q : Nat} {τ : AM} (W : WI s c z u a b0 q τ) (F : WF s c) (hc : c < 600) {L i : Nat} (hL : L ≤ 3584) (hi : i + 7 ≤ L) (xs : Nat → Int32) : ∃ (s' : SD) (τ2 : AM), L_Lw_law_1 L xs a b0 q (iI (i : Int)) τ = L_Lw_law_9 L xs a b0 q (iI (i : Int)) τ2 ∧ WI s' (c + 1) (z + 7) (u + 6) a b0 q τ2 ∧ WF s' (c + 1) := by
  obtain ⟨_, _, o1, o2, o3, o4⟩ := WI_z W
  obtain ⟨hd, hb⟩ := WI_wf W
  have p1 : iI (i : Int) + (1 : Int32) = iI ((i + 1 : Nat) : Int) := by rw [l_1, iI_add]; exact congrArg iI (by omega)
  have p2 : iI (i : Int) + (2 : Int32) = iI ((i + 2 : Nat) : Int) := by rw [l_2, iI_add]; exact congrArg iI (by omega)
  have p3 : iI (i : Int) + (3 : Int32) = iI ((i + 3 : Nat) : Int) := by rw [l_3, iI_add]; exact congrArg iI (by omega)
  have p4 : iI (i : Int) + (4 : Int32) = iI ((i + 4 : Nat) : Int) := by rw [l_4, iI_add]; exact congrArg iI (by omega)
  have p5 : iI (i : Int) + (5 : Int32) = iI ((i + 5 : Nat) : Int) := by rw [l_5, iI_add]; exact congrArg iI (by omega)
  have p6 : iI (i : Int) + (6 : Int32) = iI ((i + 6 : Nat) : Int) := by rw [l_6, iI_add]; exact congrArg iI (by omega)
  have j1 : inB (iI ((i + 1 : Nat) : Int)) L = true := inB_iI (by omega) (by omega) (by omega)
  have j2 : inB (iI ((i + 2 : Nat) : Int)) L = true := inB_iI (by omega) (by omega) (by omega)
  have j3 : inB (iI ((i + 3 : Nat) : Int)) L = true := inB_iI (by omega) (by omega) (by omega)
  have j4 : inB (iI ((i + 4 : Nat) : Int)) L = true := inB_iI (by omega) (by omega) (by omega)
  have j5 : inB (iI ((i + 5 : Nat) : Int)) L = true := inB_iI (by omega) (by omega) (by omega)
  have j6 : inB (iI ((i + 6 : Nat) : Int)) L = true := inB_iI (by omega) (by omega) (by omega)
  have q1 : (iI ((i + 1 : Nat) : Int)).toNatClampNeg = i + 1 := by rw [iI_cl (by omega) (by omega), Int.toNat_natCast]
  have q2 : (iI ((i + 2 : Nat) : Int)).toNatClampNeg = i + 2 := by rw [iI_cl (by omega) (by omega), Int.toNat_natCast]
  have q3 : (iI ((i + 3 : Nat) : Int)).toNatClampNeg = i + 3 := by rw [iI_cl (by omega) (by omega), Int.toNat_natCast]
  have q4 : (iI ((i + 4 : Nat) : Int)).toNatClampNeg = i + 4 := by rw [iI_cl (by omega) (by omega), Int.toNat_natCast]
  have q5 : (iI ((i + 5 : Nat) : Int)).toNatClampNeg = i + 5 := by rw [iI_cl (by omega) (by omega), Int.toNat_natCast]
  have q6 : (iI ((i + 6 : Nat) : Int)).toNatClampNeg = i + 6 := by rw [iI_cl (by omega) (by omega), Int.toNat_natCast]
  have c0 : ¬ nI L - (7 : Int32) < iI (i : Int) := by
    rw [nI_iI, l_7, iI_sub, iI_lt (by omega) (by omega) (by omega) (by omega)]; omega
  rw [E_Lw_law_1, if_neg c0, gd_in (by omega) (by omega) (by omega), letT_eq]
  generalize xs (iI (i : Int)).toNatClampNeg &&& (63 : Int32) = x2
  by_cases h0 : x2 = (0 : Int32)
  · rw [if_pos h0]
    simp only [p1, p2, p3, p4, p5, p6, j1, j2, j3, j4, j5, j6, q1, q2, q3, q4, q5, q6, gd_true]
    obtain ⟨r, τ1, τ2, e1, o5, e2, W2⟩ := both (cs_feed F _ _ _) (ms_feed F ((xs (i + 1)).toInt64 <<< ((32 : Int32).toInt64 &&& 63) ||| (xs (i + 2)).toInt64 &&& (4294967295 : Int64)) ((xs (i + 3)).toInt64 <<< ((32 : Int32).toInt64 &&& 63) ||| (xs (i + 4)).toInt64 &&& (4294967295 : Int64)) ((xs (i + 5)).toInt64 <<< ((32 : Int32).toInt64 &&& 63) ||| (xs (i + 6)).toInt64 &&& (4294967295 : Int64))) (fun _ _ h h' => h.trans h'.symm) W
    replace e1 : M_Bp_feed a _ _ _ τ = _ := e1
    replace e2 : M_Md_feed b0 _ _ _ τ1 = _ := e2
    refine ⟨_, τ2, ?_, W2, WF_feed F _ _ _⟩
    rw [o1, gd_true, e1, bnd_some, o5, gd_true, e2, bnd_some, if_pos rfl]
  rw [if_neg h0]
  by_cases h1 : x2 = (1 : Int32)
  · rw [if_pos h1]
    obtain ⟨r, τ1, τ2, e1, o5, e2, W2⟩ := both (cs_tower F hc) (ms_tower F) (fun _ _ h h' => h.trans h'.symm) W
    replace e1 : M_Bp_tower a  τ = _ := e1
    replace e2 : M_Md_tower b0  τ1 = _ := e2
    refine ⟨_, τ2, ?_, W2, WF_tower F⟩
    rw [o1, gd_true, e1, bnd_some, o5, gd_true, e2, bnd_some, if_pos rfl]
  rw [if_neg h1]
  by_cases h2 : x2 = (2 : Int32)
  · rw [if_pos h2]
    simp only [p1, p2, p3, p4, p5, p6, j1, j2, j3, j4, j5, j6, q1, q2, q3, q4, q5, q6, gd_true]
    obtain ⟨r, τ1, τ2, e1, o5, e2, W2⟩ := both (cs_may F hc (xs (i + 1))) (ms_may F (xs (i + 1))) (fun _ _ h h' => h.trans h'.symm) W
    replace e1 : M_Bp_may a (xs (i + 1)) τ = _ := e1
    replace e2 : M_Md_may b0 (xs (i + 1)) τ1 = _ := e2
    refine ⟨_, τ2, ?_, W2, WF_s F⟩
    rw [o1, gd_true, e1, bnd_some, o5, gd_true, e2, bnd_some, if_pos rfl]
  rw [if_neg h2]
  by_cases h3 : x2 = (3 : Int32)
  · rw [if_pos h3]
    simp only [p1, p2, p3, p4, p5, p6, j1, j2, j3, j4, j5, j6, q1, q2, q3, q4, q5, q6, gd_true]
    obtain ⟨r, τ1, τ2, e1, o5, e2, W2⟩ := both (cs_list F hc (xs (i + 1))) (ms_list F (xs (i + 1))) (fun _ _ h h' => h.trans h'.symm) W
    replace e1 : M_Bp_list a (xs (i + 1)) τ = _ := e1
    replace e2 : M_Md_list b0 (xs (i + 1)) τ1 = _ := e2
    refine ⟨_, τ2, ?_, W2, WF_s F⟩
    rw [o1, gd_true, e1, bnd_some, o5, gd_true, e2, bnd_some, if_pos (by rw [l_0, lgc0])]
  rw [if_neg h3]
  by_cases h4 : x2 = (4 : Int32)
  · rw [if_pos h4]
    simp only [p1, p2, p3, p4, p5, p6, j1, j2, j3, j4, j5, j6, q1, q2, q3, q4, q5, q6, gd_true]
    obtain ⟨r, τ1, τ2, e1, o5, e2, W2⟩ := both (cs_cost F hc (xs (i + 1))) (ms_cost F (xs (i + 1))) (fun _ _ h h' => h.trans h'.symm) W
    replace e1 : M_Bp_cost a (xs (i + 1)) τ = _ := e1
    replace e2 : M_Md_cost b0 (xs (i + 1)) τ1 = _ := e2
    refine ⟨_, τ2, ?_, W2, WF_s F⟩
    rw [o1, gd_true, e1, bnd_some, o5, gd_true, e2, bnd_some, if_pos rfl]
  rw [if_neg h4]
  by_cases h5 : x2 = (5 : Int32)
  · rw [if_pos h5]
    simp only [p1, p2, p3, p4, p5, p6, j1, j2, j3, j4, j5, j6, q1, q2, q3, q4, q5, q6, gd_true]
    obtain ⟨r, τ1, τ2, e1, o5, e2, W2⟩ := both (cs_trial hc (xs (i + 1)) (decide (¬ xs (i + 2) = 0))) (ms_trial (xs (i + 1)) (decide (¬ xs (i + 2) = 0))) (fun _ _ h h' => h.trans h'.symm) W
    replace e1 : M_Bp_trial a (xs (i + 1)) (bZ (decide (¬ xs (i + 2) = 0))) τ = _ := e1
    replace e2 : M_Md_trial b0 (xs (i + 1)) (bZ (decide (¬ xs (i + 2) = 0))) τ1 = _ := e2
    refine ⟨_, τ2, ?_, W2, WF_trial F _ _⟩
    by_cases hz : xs (i + 2) = 0
    · rw [decide_eq_false (fun y => y hz)] at e1 e2
      replace e1 : M_Bp_trial a (xs (i + 1)) 0 τ = _ := e1
      replace e2 : M_Md_trial b0 (xs (i + 1)) 0 τ1 = _ := e2
      rw [if_pos hz, E_Lw_law_2, o1, gd_true, e1, bnd_some, p1, p2, j1, j2, gd_true, gd_true, q1, q2, if_pos hz, E_Lw_law_3, o5, gd_true, e2, bnd_some, if_pos rfl]
    · rw [decide_eq_true hz] at e1 e2
      replace e1 : M_Bp_trial a (xs (i + 1)) 1 τ = _ := e1
      replace e2 : M_Md_trial b0 (xs (i + 1)) 1 τ1 = _ := e2
      rw [if_neg hz, E_Lw_law_2, o1, gd_true, e1, bnd_some, p1, p2, j1, j2, gd_true, gd_true, q1, q2, if_neg hz, E_Lw_law_3, o5, gd_true, e2, bnd_some, if_pos rfl]
  rw [if_neg h5]
  by_cases h6 : x2 = (6 : Int32)
  · rw [if_pos h6]
    simp only [p1, p2, p3, p4, p5, p6, j1, j2, j3, j4, j5, j6, q1, q2, q3, q4, q5, q6, gd_true]
    obtain ⟨r, τ1, τ2, e1, o5, e2, W2⟩ := both (cs_hint hc (xs (i + 1)) (xs (i + 2))) (ms_hint (xs (i + 1)) (xs (i + 2))) (fun _ _ h h' => h.trans h'.symm) W
    replace e1 : M_Bp_hint a (xs (i + 1)) (xs (i + 2)) τ = _ := e1
    replace e2 : M_Md_hint b0 (xs (i + 1)) (xs (i + 2)) τ1 = _ := e2
    refine ⟨_, τ2, ?_, W2, WF_hint F _ _⟩
    rw [o1, gd_true, e1, bnd_some, o5, gd_true, e2, bnd_some, if_pos rfl]
  rw [if_neg h6]
  by_cases h7 : x2 = (7 : Int32)
  · rw [if_pos h7]
    simp only [p1, p2, p3, p4, p5, p6, j1, j2, j3, j4, j5, j6, q1, q2, q3, q4, q5, q6, gd_true]
    obtain ⟨r, τ1, τ2, e1, o5, e2, W2⟩ := both (cs_left F hc (xs (i + 1))) (ms_left F (xs (i + 1))) (fun _ _ h h' => h.trans h'.symm) W
    replace e1 : M_Bp_left a (xs (i + 1)) τ = _ := e1
    replace e2 : M_Md_left b0 (xs (i + 1)) τ1 = _ := e2
    refine ⟨_, τ2, ?_, W2, WF_s F⟩
    rw [o1, gd_true, e1, bnd_some, o5, gd_true, e2, bnd_some, if_pos rfl]
  rw [if_neg h7]
  by_cases h8 : x2 = (8 : Int32)
  · rw [if_pos h8]
    simp only [p1, p2, p3, p4, p5, p6, j1, j2, j3, j4, j5, j6, q1, q2, q3, q4, q5, q6, gd_true]
    obtain ⟨r, τ1, τ2, e1, o5, e2, W2⟩ := both (cs_sure F hc (xs (i + 1))) (ms_sure F (xs (i + 1))) (fun _ _ h h' => h.trans h'.symm) W
    replace e1 : M_Bp_sure a (xs (i + 1)) τ = _ := e1
    replace e2 : M_Md_sure b0 (xs (i + 1)) τ1 = _ := e2
    refine ⟨_, τ2, ?_, W2, WF_s F⟩
    rw [o1, gd_true, e1, bnd_some, o5, gd_true, e2, bnd_some, if_pos rfl]
  rw [if_neg h8]
  by_cases h9 : x2 = (9 : Int32)
  · rw [if_pos h9]
    simp only [p1, p2, p3, p4, p5, p6, j1, j2, j3, j4, j5, j6, q1, q2, q3, q4, q5, q6, gd_true]
    obtain ⟨r, τ1, τ2, e1, o5, e2, W2⟩ := both (cs_matters F hc (xs (i + 1))) (ms_matters F (xs (i + 1))) (fun _ _ h h' => h.trans h'.symm) W
    replace e1 : M_Bp_matters a (xs (i + 1)) τ = _ := e1
    replace e2 : M_Md_matters b0 (xs (i + 1)) τ1 = _ := e2
    refine ⟨_, τ2, ?_, W2, WF_s F⟩
    rw [o1, gd_true, e1, bnd_some, o5, gd_true, e2, bnd_some, if_pos rfl]
  rw [if_neg h9]
  by_cases h10 : x2 = (10 : Int32)
  · rw [if_pos h10]
    simp only [p1, p2, p3, p4, p5, p6, j1, j2, j3, j4, j5, j6, q1, q2, q3, q4, q5, q6, gd_true]
    obtain ⟨r, τ1, τ2, e1, o5, e2, W2⟩ := both (cs_alike F hc (xs (i + 1)) (xs (i + 2))) (ms_alike F (xs (i + 1)) (xs (i + 2))) (fun _ _ h h' => h.trans h'.symm) W
    replace e1 : M_Bp_alike a (xs (i + 1)) (xs (i + 2)) τ = _ := e1
    replace e2 : M_Md_alike b0 (xs (i + 1)) (xs (i + 2)) τ1 = _ := e2
    refine ⟨_, τ2, ?_, W2, WF_s F⟩
    rw [o1, gd_true, e1, bnd_some, o5, gd_true, e2, bnd_some, if_pos rfl]
  rw [if_neg h10]
  by_cases h11 : x2 = (11 : Int32)
  · rw [if_pos h11]
    simp only [p1, p2, p3, p4, p5, p6, j1, j2, j3, j4, j5, j6, q1, q2, q3, q4, q5, q6, gd_true]
    obtain ⟨r, τ1, τ2, e1, o5, e2, W2⟩ := both (cs_next F hc (xs (i + 1))) (ms_next F (xs (i + 1))) (fun _ _ h h' => h.trans h'.symm) W
    replace e1 : M_Bp_next a (xs (i + 1)) τ = _ := e1
    replace e2 : M_Md_next b0 (xs (i + 1)) τ1 = _ := e2
    refine ⟨_, τ2, ?_, W2, WF_s F⟩
    rw [o1, gd_true, e1, bnd_some, o5, gd_true, e2, bnd_some, if_pos rfl]
  rw [if_neg h11]
  by_cases h12 : x2 = (12 : Int32)
  · rw [if_pos h12]
    simp only [p1, p2, p3, p4, p5, p6, j1, j2, j3, j4, j5, j6, q1, q2, q3, q4, q5, q6, gd_true]
    obtain ⟨r, τ1, τ2, e1, o5, e2, W2⟩ := both (cs_fewest F hc (xs (i + 1))) (ms_fewest F (xs (i + 1))) (fun _ _ ⟨_, e, h⟩ ⟨_, e', h'⟩ => by rw [e, e', fewR_u h h']) W
    replace e1 : M_Bp_fewest a (xs (i + 1)) τ = _ := e1
    replace e2 : M_Md_fewest b0 (xs (i + 1)) τ1 = _ := e2
    refine ⟨_, τ2, ?_, W2, WF_s F⟩
    rw [o1, gd_true, e1, bnd_some, o5, gd_true, e2, bnd_some, if_pos rfl]
  rw [if_neg h12]
  by_cases h13 : x2 = (13 : Int32)
  · rw [if_pos h13]
    simp only [p1, p2, p3, p4, p5, p6, j1, j2, j3, j4, j5, j6, q1, q2, q3, q4, q5, q6, gd_true]
    obtain ⟨r, τ1, τ2, e1, o5, e2, W2⟩ := both (cs_fewestFor F hc (xs (i + 1)) (xs (i + 2)) (xs (i + 3))) (ms_fewestFor F (xs (i + 1)) (xs (i + 2)) (xs (i + 3))) (fun _ _ ⟨_, e, h⟩ ⟨_, e', h'⟩ => by rw [e, e', fewR_u h h']) W
    replace e1 : M_Bp_fewestFor a (xs (i + 1)) (xs (i + 2)) (xs (i + 3)) τ = _ := e1
    replace e2 : M_Md_fewestFor b0 (xs (i + 1)) (xs (i + 2)) (xs (i + 3)) τ1 = _ := e2
    refine ⟨_, τ2, ?_, W2, WF_s F⟩
    rw [o1, gd_true, e1, bnd_some, o5, gd_true, e2, bnd_some, if_pos rfl]
  rw [if_neg h13]
  by_cases h14 : x2 = (14 : Int32)
  · rw [if_pos h14]
    simp only [p1, p2, p3, p4, p5, p6, j1, j2, j3, j4, j5, j6, q1, q2, q3, q4, q5, q6, gd_true]
    obtain ⟨kk, r, τ1, τ2, e1, o5, e2, o6, e3, hk, W2⟩ := run_step W (xs (i + 1)) (xs (i + 2)) (xs (i + 3))
    refine ⟨s, τ2, ?_, W2, WF_s F⟩
    obtain ⟨_, _, _, _, o7, o8⟩ := WI_z W2
    rw [e1, bnd_some, o5, gd_true, e2, bnd_some, o6, gd_true, e3, bnd_some, if_pos rfl]
    by_cases hz : kk = 0
    · have z0 : (0 : Int32).toNatClampNeg = 0 := by decide
      have b1 : inB (0 : Int32) 1 = true := by decide
      rw [if_pos hz, o7, gd_true, o8, b1, gd_true, z0, hk hz, if_pos (by rw [l_0, lgc0]), E_Lw_law_4]
    · rw [if_neg hz, E_Lw_law_4]
  rw [if_neg h14]
  by_cases h15 : x2 = (15 : Int32)
  · rw [if_pos h15]
    simp only [p1, p2, p3, p4, p5, p6, j1, j2, j3, j4, j5, j6, q1, q2, q3, q4, q5, q6, gd_true]
    obtain ⟨r, τ1, τ2, e1, o5, e2, W2⟩ := both (cs_runSet F hc (xs (i + 1)) (xs (i + 2)) (xs (i + 3))) (ms_runSet F (xs (i + 1)) (xs (i + 2)) (xs (i + 3))) (fun _ _ ⟨_, e, h⟩ ⟨_, e', h'⟩ => by rw [e, e', h' _ h]) W
    replace e1 : M_Bp_runSet a (xs (i + 1)) (xs (i + 2)) (xs (i + 3)) τ = _ := e1
    replace e2 : M_Md_runSet b0 (xs (i + 1)) (xs (i + 2)) (xs (i + 3)) τ1 = _ := e2
    refine ⟨_, τ2, ?_, W2, WF_s F⟩
    rw [o1, gd_true, e1, bnd_some, o5, gd_true, e2, bnd_some, if_pos rfl]
  rw [if_neg h15]
  by_cases h16 : x2 = (16 : Int32)
  · rw [if_pos h16]
    simp only [p1, p2, p3, p4, p5, p6, j1, j2, j3, j4, j5, j6, q1, q2, q3, q4, q5, q6, gd_true]
    obtain ⟨r, τ1, τ2, e1, o5, e2, W2⟩ := both (cs_worst F hc (xs (i + 1))) (ms_worst F (xs (i + 1))) (fun _ _ h h' => h.trans h'.symm) W
    replace e1 : M_Bp_worst a (xs (i + 1)) τ = _ := e1
    replace e2 : M_Md_worst b0 (xs (i + 1)) τ1 = _ := e2
    refine ⟨_, τ2, ?_, W2, WF_s F⟩
    rw [o1, gd_true, e1, bnd_some, o5, gd_true, e2, bnd_some, if_pos rfl]
  rw [if_neg h16]
  by_cases h17 : x2 = (17 : Int32)
  · rw [if_pos h17]
    simp only [p1, p2, p3, p4, p5, p6, j1, j2, j3, j4, j5, j6, q1, q2, q3, q4, q5, q6, gd_true]
    obtain ⟨r, τ1, τ2, e1, o5, e2, W2⟩ := both (cs_mean F hc (xs (i + 1)) (xs (i + 2))) (ms_mean F (xs (i + 1)) (xs (i + 2))) (fun _ _ h h' => h.trans h'.symm) W
    replace e1 : M_Bp_mean a (xs (i + 1)) (xs (i + 2)) τ = _ := e1
    replace e2 : M_Md_mean b0 (xs (i + 1)) (xs (i + 2)) τ1 = _ := e2
    refine ⟨_, τ2, ?_, W2, WF_s F⟩
    rw [o1, gd_true, e1, bnd_some, o5, gd_true, e2, bnd_some, if_pos rfl]
  rw [if_neg h17]
  by_cases h18 : x2 = (18 : Int32)
  · rw [if_pos h18]
    simp only [p1, p2, p3, p4, p5, p6, j1, j2, j3, j4, j5, j6, q1, q2, q3, q4, q5, q6, gd_true]
    obtain ⟨r, τ1, τ2, e1, o5, e2, W2⟩ := both (cs_smallest F hc (xs (i + 1))) (ms_smallest F (xs (i + 1))) (fun _ _ h h' => h.trans h'.symm) W
    replace e1 : M_Bp_smallest a (xs (i + 1)) τ = _ := e1
    replace e2 : M_Md_smallest b0 (xs (i + 1)) τ1 = _ := e2
    refine ⟨_, τ2, ?_, W2, WF_s F⟩
    rw [o1, gd_true, e1, bnd_some, o5, gd_true, e2, bnd_some, if_pos rfl]
  rw [if_neg h18]
  by_cases h19 : x2 = (19 : Int32)
  · rw [if_pos h19]
    simp only [p1, p2, p3, p4, p5, p6, j1, j2, j3, j4, j5, j6, q1, q2, q3, q4, q5, q6, gd_true]
    obtain ⟨r, τ1, τ2, e1, o5, e2, W2⟩ := both (cs_cannot F hc (xs (i + 1))) (ms_cannot F (xs (i + 1))) (fun _ _ ⟨y, e, h⟩ ⟨y', e', h'⟩ => by
      rw [e, e']
      split at h
      · rename_i hh
        rw [if_pos hh] at h'
        rw [cnR_u hb h h']
      · rename_i hh
        rw [if_neg hh] at h'
        rw [h, h']) W
    replace e1 : M_Bp_cannot a (xs (i + 1)) τ = _ := e1
    replace e2 : M_Md_cannot b0 (xs (i + 1)) τ1 = _ := e2
    refine ⟨_, τ2, ?_, W2, WF_s F⟩
    rw [o1, gd_true, e1, bnd_some, o5, gd_true, e2, bnd_some, if_pos rfl]
  rw [if_neg h19]
  by_cases h20 : x2 = (20 : Int32)
  · rw [if_pos h20]
    simp only [p1, p2, p3, p4, p5, p6, j1, j2, j3, j4, j5, j6, q1, q2, q3, q4, q5, q6, gd_true]
    obtain ⟨r, τ1, τ2, e1, o5, e2, W2⟩ := both (cs_wrong F hc (xs (i + 1))) (ms_wrong F (xs (i + 1))) (fun _ _ h h' => h.trans h'.symm) W
    replace e1 : M_Bp_wrong a (xs (i + 1)) τ = _ := e1
    replace e2 : M_Md_wrong b0 (xs (i + 1)) τ1 = _ := e2
    refine ⟨_, τ2, ?_, W2, WF_s F⟩
    rw [o1, gd_true, e1, bnd_some, o5, gd_true, e2, bnd_some, if_pos rfl]
  rw [if_neg h20]
  by_cases h21 : x2 = (21 : Int32)
  · rw [if_pos h21]
    simp only [p1, p2, p3, p4, p5, p6, j1, j2, j3, j4, j5, j6, q1, q2, q3, q4, q5, q6, gd_true]
    obtain ⟨r, τ1, τ2, e1, o5, e2, W2⟩ := both (cs_suspect F hc (xs (i + 1))) (ms_suspect F (xs (i + 1))) (fun _ _ h h' => h.trans h'.symm) W
    replace e1 : M_Bp_suspect a (xs (i + 1)) τ = _ := e1
    replace e2 : M_Md_suspect b0 (xs (i + 1)) τ1 = _ := e2
    refine ⟨_, τ2, ?_, W2, WF_s F⟩
    rw [o1, gd_true, e1, bnd_some, o5, gd_true, e2, bnd_some, if_pos rfl]
  rw [if_neg h21]
  by_cases h22 : x2 = (22 : Int32)
  · rw [if_pos h22]
    simp only [p1, p2, p3, p4, p5, p6, j1, j2, j3, j4, j5, j6, q1, q2, q3, q4, q5, q6, gd_true]
    obtain ⟨r, τ1, τ2, e1, o5, e2, W2⟩ := both (cs_with F hc (xs (i + 1))) (ms_with F (xs (i + 1))) (fun _ _ h h' => h.trans h'.symm) W
    replace e1 : M_Bp_with a (xs (i + 1)) τ = _ := e1
    replace e2 : M_Md_with b0 (xs (i + 1)) τ1 = _ := e2
    refine ⟨_, τ2, ?_, W2, WF_s F⟩
    rw [o1, gd_true, e1, bnd_some, o5, gd_true, e2, bnd_some, if_pos rfl]
  rw [if_neg h22]
  by_cases h23 : x2 = (23 : Int32)
  · rw [if_pos h23]
    simp only [p1, p2, p3, p4, p5, p6, j1, j2, j3, j4, j5, j6, q1, q2, q3, q4, q5, q6, gd_true]
    obtain ⟨r, τ1, τ2, e1, o5, e2, W2⟩ := both (cs_grown F hc (xs (i + 1))) (ms_grown F (xs (i + 1))) (fun _ _ ⟨y, e, h⟩ ⟨y', e', h'⟩ => by
      rw [e, e']
      split at h
      · rename_i hh
        rw [if_pos hh] at h'
        obtain ⟨o, g1, g2⟩ := h
        obtain ⟨o', g1', g2'⟩ := h'
        rw [g2, g2', gQ_u g1 g1']
      · rename_i hh
        rw [if_neg hh] at h'
        rw [h, h']) W
    replace e1 : M_Bp_grown a (xs (i + 1)) τ = _ := e1
    replace e2 : M_Md_grown b0 (xs (i + 1)) τ1 = _ := e2
    refine ⟨_, τ2, ?_, W2, WF_s F⟩
    rw [o1, gd_true, e1, bnd_some, o5, gd_true, e2, bnd_some, if_pos rfl]
  rw [if_neg h23]
  by_cases h24 : x2 = (24 : Int32)
  · rw [if_pos h24]
    obtain ⟨r, τ1, τ2, e1, o5, e2, W2⟩ := both (cs_bells F hc ) (ms_bells F ) (fun _ _ ⟨_, e, h⟩ ⟨_, e', h'⟩ => by rw [e, e', belR_u h h']) W
    replace e1 : M_Bp_bells a  τ = _ := e1
    replace e2 : M_Md_bells b0  τ1 = _ := e2
    refine ⟨_, τ2, ?_, W2, WF_s F⟩
    rw [o1, gd_true, e1, bnd_some, o5, gd_true, e2, bnd_some, if_pos rfl]
  rw [if_neg h24]
  by_cases h25 : x2 = (25 : Int32)
  · rw [if_pos h25]
    simp only [p1, p2, p3, p4, p5, p6, j1, j2, j3, j4, j5, j6, q1, q2, q3, q4, q5, q6, gd_true]
    obtain ⟨r, τ1, τ2, e1, o5, e2, W2⟩ := both (cs_late F hc (xs (i + 1)) (xs (i + 2))) (ms_late F (xs (i + 1)) (xs (i + 2))) (fun _ _ h h' => h.trans h'.symm) W
    replace e1 : M_Bp_late a (xs (i + 1)) (xs (i + 2)) τ = _ := e1
    replace e2 : M_Md_late b0 (xs (i + 1)) (xs (i + 2)) τ1 = _ := e2
    refine ⟨_, τ2, ?_, W2, WF_s F⟩
    rw [o1, gd_true, e1, bnd_some, o5, gd_true, e2, bnd_some, if_pos rfl]
  rw [if_neg h25]
  by_cases h26 : x2 = (26 : Int32)
  · rw [if_pos h26]
    simp only [p1, p2, p3, p4, p5, p6, j1, j2, j3, j4, j5, j6, q1, q2, q3, q4, q5, q6, gd_true]
    obtain ⟨r, τ1, τ2, e1, o5, e2, W2⟩ := both (cs_often F hc (xs (i + 1))) (ms_often F (xs (i + 1))) (fun _ _ h h' => h.trans h'.symm) W
    replace e1 : M_Bp_often a (xs (i + 1)) τ = _ := e1
    replace e2 : M_Md_often b0 (xs (i + 1)) τ1 = _ := e2
    refine ⟨_, τ2, ?_, W2, WF_s F⟩
    rw [o1, gd_true, e1, bnd_some, o5, gd_true, e2, bnd_some, if_pos rfl]
  rw [if_neg h26]
  by_cases h27 : x2 = (27 : Int32)
  · rw [if_pos h27]
    simp only [p1, p2, p3, p4, p5, p6, j1, j2, j3, j4, j5, j6, q1, q2, q3, q4, q5, q6, gd_true]
    obtain ⟨r, τ1, τ2, e1, o5, e2, W2⟩ := both (cs_rings F hc (xs (i + 1))) (ms_rings F (xs (i + 1))) (fun _ _ h h' => h.trans h'.symm) W
    replace e1 : M_Bp_rings a (xs (i + 1)) τ = _ := e1
    replace e2 : M_Md_rings b0 (xs (i + 1)) τ1 = _ := e2
    refine ⟨_, τ2, ?_, W2, WF_s F⟩
    rw [o1, gd_true, e1, bnd_some, o5, gd_true, e2, bnd_some, if_pos rfl]
  rw [if_neg h27]
  by_cases h28 : x2 = (28 : Int32)
  · rw [if_pos h28]
    simp only [p1, p2, p3, p4, p5, p6, j1, j2, j3, j4, j5, j6, q1, q2, q3, q4, q5, q6, gd_true]
    obtain ⟨r, τ1, τ2, e1, o5, e2, W2⟩ := both (cs_vote F hc (xs (i + 1)) (xs (i + 2)) (xs (i + 3))) (ms_vote F (xs (i + 1)) (xs (i + 2)) (xs (i + 3))) (fun _ _ h h' => h.trans h'.symm) W
    replace e1 : M_Bp_vote a (xs (i + 1)) (xs (i + 2)) (xs (i + 3)) τ = _ := e1
    replace e2 : M_Md_vote b0 (xs (i + 1)) (xs (i + 2)) (xs (i + 3)) τ1 = _ := e2
    refine ⟨_, τ2, ?_, W2, WF_s F⟩
    rw [o1, gd_true, e1, bnd_some, o5, gd_true, e2, bnd_some, if_pos rfl]
  rw [if_neg h28]
  by_cases h29 : x2 = (29 : Int32)
  · rw [if_pos h29]
    simp only [p1, p2, p3, p4, p5, p6, j1, j2, j3, j4, j5, j6, q1, q2, q3, q4, q5, q6, gd_true]
    obtain ⟨r, τ1, τ2, e1, o5, e2, W2⟩ := both (cs_swings F hc (xs (i + 1)) (xs (i + 2))) (ms_swings F (xs (i + 1)) (xs (i + 2))) (fun _ _ h h' => h.trans h'.symm) W
    replace e1 : M_Bp_swings a (xs (i + 1)) (xs (i + 2)) τ = _ := e1
    replace e2 : M_Md_swings b0 (xs (i + 1)) (xs (i + 2)) τ1 = _ := e2
    refine ⟨_, τ2, ?_, W2, WF_s F⟩
    rw [o1, gd_true, e1, bnd_some, o5, gd_true, e2, bnd_some, if_pos rfl]
  rw [if_neg h29]
  by_cases h30 : x2 = (30 : Int32)
  · rw [if_pos h30]
    simp only [p1, p2, p3, p4, p5, p6, j1, j2, j3, j4, j5, j6, q1, q2, q3, q4, q5, q6, gd_true]
    obtain ⟨r, τ1, τ2, e1, o5, e2, W2⟩ := both (cs_heavy F hc (xs (i + 1)) (decide (¬ xs (i + 2) = 0)) (xs (i + 3))) (ms_heavy F (xs (i + 1)) (decide (¬ xs (i + 2) = 0)) (xs (i + 3))) (fun _ _ h h' => h.trans h'.symm) W
    replace e1 : M_Bp_heavy a (xs (i + 1)) (bZ (decide (¬ xs (i + 2) = 0))) (xs (i + 3)) τ = _ := e1
    replace e2 : M_Md_heavy b0 (xs (i + 1)) (bZ (decide (¬ xs (i + 2) = 0))) (xs (i + 3)) τ1 = _ := e2
    refine ⟨_, τ2, ?_, W2, WF_s F⟩
    by_cases hz : xs (i + 2) = 0
    · rw [decide_eq_false (fun y => y hz)] at e1 e2
      replace e1 : M_Bp_heavy a (xs (i + 1)) 0 (xs (i + 3)) τ = _ := e1
      replace e2 : M_Md_heavy b0 (xs (i + 1)) 0 (xs (i + 3)) τ1 = _ := e2
      rw [if_pos hz, E_Lw_law_5, p3, j3, gd_true, o1, gd_true, q3, e1, bnd_some, p1, p2, j1, j2, gd_true, gd_true, q1, q2, if_pos hz, E_Lw_law_6, p3, j3, gd_true, o5, gd_true, q3, e2, bnd_some, if_pos rfl]
    · rw [decide_eq_true hz] at e1 e2
      replace e1 : M_Bp_heavy a (xs (i + 1)) 1 (xs (i + 3)) τ = _ := e1
      replace e2 : M_Md_heavy b0 (xs (i + 1)) 1 (xs (i + 3)) τ1 = _ := e2
      rw [if_neg hz, E_Lw_law_5, p3, j3, gd_true, o1, gd_true, q3, e1, bnd_some, p1, p2, j1, j2, gd_true, gd_true, q1, q2, if_neg hz, E_Lw_law_6, p3, j3, gd_true, o5, gd_true, q3, e2, bnd_some, if_pos rfl]
  rw [if_neg h30]
  by_cases h31 : x2 = (31 : Int32)
  · rw [if_pos h31]
    simp only [p1, p2, p3, p4, p5, p6, j1, j2, j3, j4, j5, j6, q1, q2, q3, q4, q5, q6, gd_true]
    obtain ⟨r, τ1, τ2, e1, o5, e2, W2⟩ := both (cs_leastSet F hc (xs (i + 1)) (xs (i + 2))) (ms_leastSet F (xs (i + 1)) (xs (i + 2))) (fun _ _ h h' => h.trans h'.symm) W
    replace e1 : M_Bp_leastSet a (xs (i + 1)) (xs (i + 2)) τ = _ := e1
    replace e2 : M_Md_leastSet b0 (xs (i + 1)) (xs (i + 2)) τ1 = _ := e2
    refine ⟨_, τ2, ?_, W2, WF_s F⟩
    rw [o1, gd_true, e1, bnd_some, o5, gd_true, e2, bnd_some, if_pos rfl]
  rw [if_neg h31]
  by_cases h32 : x2 = (32 : Int32)
  · rw [if_pos h32]
    simp only [p1, p2, p3, p4, p5, p6, j1, j2, j3, j4, j5, j6, q1, q2, q3, q4, q5, q6, gd_true]
    obtain ⟨r, τ1, τ2, e1, o5, e2, W2⟩ := both (cs_vetoes F hc (xs (i + 1))) (ms_vetoes F (xs (i + 1))) (fun _ _ h h' => h.trans h'.symm) W
    replace e1 : M_Bp_vetoes a (xs (i + 1)) τ = _ := e1
    replace e2 : M_Md_vetoes b0 (xs (i + 1)) τ1 = _ := e2
    refine ⟨_, τ2, ?_, W2, WF_s F⟩
    rw [o1, gd_true, e1, bnd_some, o5, gd_true, e2, bnd_some, if_pos rfl]
  rw [if_neg h32]
  by_cases h33 : x2 = (33 : Int32)
  · rw [if_pos h33]
    simp only [p1, p2, p3, p4, p5, p6, j1, j2, j3, j4, j5, j6, q1, q2, q3, q4, q5, q6, gd_true]
    obtain ⟨r, τ1, τ2, e1, o5, e2, W2⟩ := both (cs_same F hc (xs (i + 1)) (xs (i + 2))) (ms_same F (xs (i + 1)) (xs (i + 2))) (fun _ _ h h' => h.trans h'.symm) W
    replace e1 : M_Bp_same a (xs (i + 1)) (xs (i + 2)) τ = _ := e1
    replace e2 : M_Md_same b0 (xs (i + 1)) (xs (i + 2)) τ1 = _ := e2
    refine ⟨_, τ2, ?_, W2, WF_s F⟩
    rw [o1, gd_true, e1, bnd_some, o5, gd_true, e2, bnd_some, if_pos rfl]
  rw [if_neg h33]
  by_cases h34 : x2 = (34 : Int32)
  · rw [if_pos h34]
    simp only [p1, p2, p3, p4, p5, p6, j1, j2, j3, j4, j5, j6, q1, q2, q3, q4, q5, q6, gd_true]
    obtain ⟨r, τ1, τ2, e1, o5, e2, W2⟩ := both (cs_lay F (xs (i + 1))) (ms_lay F (xs (i + 1))) (fun _ _ h h' => h.trans h'.symm) W
    replace e1 : M_Bp_lay a (xs (i + 1)) τ = _ := e1
    replace e2 : M_Md_lay b0 (xs (i + 1)) τ1 = _ := e2
    refine ⟨_, τ2, ?_, W2, WF_lay hd F _⟩
    rw [o1, gd_true, e1, bnd_some, o5, gd_true, e2, bnd_some, if_pos rfl]
  rw [if_neg h34]
  by_cases h35 : x2 = (35 : Int32)
  · rw [if_pos h35]
    obtain ⟨r, τ1, τ2, e1, o5, e2, W2⟩ := both (cs_clear) (ms_clear) (fun _ _ h h' => h.trans h'.symm) W
    replace e1 : M_Bp_clear a  τ = _ := e1
    replace e2 : M_Md_clear b0  τ1 = _ := e2
    refine ⟨_, τ2, ?_, W2, WF_clear F⟩
    rw [o1, gd_true, e1, bnd_some, o5, gd_true, e2, bnd_some, if_pos rfl]
  rw [if_neg h35]
  by_cases h36 : x2 = (36 : Int32)
  · rw [if_pos h36]
    simp only [p1, p2, p3, p4, p5, p6, j1, j2, j3, j4, j5, j6, q1, q2, q3, q4, q5, q6, gd_true]
    obtain ⟨r, τ1, τ2, e1, o5, e2, W2⟩ := both (cs_feather F hc (xs (i + 1))) (ms_feather F (xs (i + 1))) (fun _ _ h h' => h.trans h'.symm) W
    replace e1 : M_Bp_feather a (xs (i + 1)) τ = _ := e1
    replace e2 : M_Md_feather b0 (xs (i + 1)) τ1 = _ := e2
    refine ⟨_, τ2, ?_, W2, WF_s F⟩
    rw [o1, gd_true, e1, bnd_some, o5, gd_true, e2, bnd_some, if_pos rfl]
  rw [if_neg h36]
  by_cases h37 : x2 = (37 : Int32)
  · rw [if_pos h37]
    simp only [p1, p2, p3, p4, p5, p6, j1, j2, j3, j4, j5, j6, q1, q2, q3, q4, q5, q6, gd_true]
    obtain ⟨r, τ1, τ2, e1, o5, e2, W2⟩ := both (cs_odds F hc (xs (i + 1)) (xs (i + 2))) (ms_odds F (xs (i + 1)) (xs (i + 2))) (fun _ _ h h' => h.trans h'.symm) W
    replace e1 : M_Bp_odds a (xs (i + 1)) (xs (i + 2)) τ = _ := e1
    replace e2 : M_Md_odds b0 (xs (i + 1)) (xs (i + 2)) τ1 = _ := e2
    refine ⟨_, τ2, ?_, W2, WF_s F⟩
    rw [o1, gd_true, e1, bnd_some, o5, gd_true, e2, bnd_some, if_pos rfl]
  rw [if_neg h37]
  by_cases h38 : x2 = (38 : Int32)
  · rw [if_pos h38]
    simp only [p1, p2, p3, p4, p5, p6, j1, j2, j3, j4, j5, j6, q1, q2, q3, q4, q5, q6, gd_true]
    obtain ⟨r, τ1, τ2, e1, o5, e2, W2⟩ := both (cs_guess F hc (xs (i + 1)) (xs (i + 2))) (ms_guess F (xs (i + 1)) (xs (i + 2))) (fun _ _ h h' => h.trans h'.symm) W
    replace e1 : M_Bp_guess a (xs (i + 1)) (xs (i + 2)) τ = _ := e1
    replace e2 : M_Md_guess b0 (xs (i + 1)) (xs (i + 2)) τ1 = _ := e2
    refine ⟨_, τ2, ?_, W2, WF_s F⟩
    rw [o1, gd_true, e1, bnd_some, o5, gd_true, e2, bnd_some, if_pos rfl]
  rw [if_neg h38]
  by_cases h39 : x2 = (39 : Int32)
  · rw [if_pos h39]
    simp only [p1, p2, p3, p4, p5, p6, j1, j2, j3, j4, j5, j6, q1, q2, q3, q4, q5, q6, gd_true]
    obtain ⟨r, τ1, τ2, e1, o5, e2, W2⟩ := both (cs_mark F hc (xs (i + 1)) (decide (¬ xs (i + 2) = 0))) (ms_mark F hc (xs (i + 1)) (decide (¬ xs (i + 2) = 0))) (fun _ _ h h' => h.trans h'.symm) W
    replace e1 : M_Bp_mark a (xs (i + 1)) (bZ (decide (¬ xs (i + 2) = 0))) τ = _ := e1
    replace e2 : M_Md_mark b0 (xs (i + 1)) (bZ (decide (¬ xs (i + 2) = 0))) τ1 = _ := e2
    refine ⟨_, τ2, ?_, W2, WF_mark hb F _ _⟩
    by_cases hz : xs (i + 2) = 0
    · rw [decide_eq_false (fun y => y hz)] at e1 e2
      replace e1 : M_Bp_mark a (xs (i + 1)) 0 τ = _ := e1
      replace e2 : M_Md_mark b0 (xs (i + 1)) 0 τ1 = _ := e2
      rw [if_pos hz, E_Lw_law_7, o1, gd_true, e1, bnd_some, p1, p2, j1, j2, gd_true, gd_true, q1, q2, if_pos hz, E_Lw_law_8, o5, gd_true, e2, bnd_some, if_pos rfl]
    · rw [decide_eq_true hz] at e1 e2
      replace e1 : M_Bp_mark a (xs (i + 1)) 1 τ = _ := e1
      replace e2 : M_Md_mark b0 (xs (i + 1)) 1 τ1 = _ := e2
      rw [if_neg hz, E_Lw_law_7, o1, gd_true, e1, bnd_some, p1, p2, j1, j2, gd_true, gd_true, q1, q2, if_neg hz, E_Lw_law_8, o5, gd_true, e2, bnd_some, if_pos rfl]
  rw [if_neg h39]
  by_cases h40 : x2 = (40 : Int32)
  · rw [if_pos h40]
    simp only [p1, p2, p3, p4, p5, p6, j1, j2, j3, j4, j5, j6, q1, q2, q3, q4, q5, q6, gd_true]
    obtain ⟨r, τ1, τ2, e1, o5, e2, W2⟩ := both (cs_count F hc (xs (i + 1))) (ms_count F (xs (i + 1))) (fun _ _ h h' => h.trans h'.symm) W
    replace e1 : M_Bp_count a (xs (i + 1)) τ = _ := e1
    replace e2 : M_Md_count b0 (xs (i + 1)) τ1 = _ := e2
    refine ⟨_, τ2, ?_, W2, WF_s F⟩
    rw [o1, gd_true, e1, bnd_some, o5, gd_true, e2, bnd_some, if_pos rfl]
  rw [if_neg h40]
  obtain ⟨A, B, σ, m, n, g, e, ha, hbb, hdd, hq1, hq2, hq3, hq4, hq5, hg, hC, hM⟩ := W
  exact ⟨s, τ, rfl, ⟨A, B, σ, m, n, g, e, ha, hbb, hdd, hq1, hq2, hq3, hq4, hq5, by omega, CI_k hC (Ks_r _ _), hM⟩, WF_s F⟩
theorem law_loop {a b0 q z0 u0 : Nat} {L : Nat} (hL : L ≤ 3584) (xs : Nat → Int32) : ∀ (n c : Nat) (s : SD) (τ : AM), c + n = 513 → WI s c (z0 + 7 * c) (u0 + 6 * c) a b0 q τ → WF s c → ∃ τ' : AM, L_Lw_law_1 L xs a b0 q (iI ((7 * c : Nat) : Int)) τ = some (1, τ') ∧ aZ τ' ≤ z0 + 3591 ∧ aU τ' ≤ u0 + 503078 := by
  have stop : ∀ (c : Nat) (s : SD) (τ : AM), c ≤ 513 → L < 7 * c + 7 → WI s c (z0 + 7 * c) (u0 + 6 * c) a b0 q τ → ∃ τ' : AM, L_Lw_law_1 L xs a b0 q (iI ((7 * c : Nat) : Int)) τ = some (1, τ') ∧ aZ τ' ≤ z0 + 3591 ∧ aU τ' ≤ u0 + 503078 := fun c s τ hc h W => by
    obtain ⟨w1, w2, _⟩ := WI_z W
    have c0 : nI L - (7 : Int32) < iI ((7 * c : Nat) : Int) := by
      rw [nI_iI, l_7, iI_sub, iI_lt (by omega) (by omega) (by omega) (by omega)]; omega
    refine ⟨τ, ?_, by omega, by omega⟩
    rw [E_Lw_law_1, if_pos c0]
  intro n
  induction n with
  | zero => intro c s τ hc W F; exact stop c s τ (by omega) (by omega) W
  | succ n ih =>
    intro c s τ hc W F
    by_cases h : L < 7 * c + 7
    · exact stop c s τ (by omega) h W
    · obtain ⟨s', τ2, e, W2, F2⟩ := law_step W F (by omega) hL (i := 7 * c) (by omega) xs
      have e7 : iI ((7 * c : Nat) : Int) + (7 : Int32) = iI ((7 * (c + 1) : Nat) : Int) := by rw [l_7, iI_add]; exact congrArg iI (by omega)
      rw [show z0 + 7 * c + 7 = z0 + 7 * (c + 1) by omega, show u0 + 6 * c + 6 = u0 + 6 * (c + 1) by omega] at W2
      obtain ⟨τ', e', g⟩ := ih (c + 1) s' τ2 (by omega) W2 F2
      exact ⟨τ', by rw [e, E_Lw_law_9, e7, e'], g⟩
