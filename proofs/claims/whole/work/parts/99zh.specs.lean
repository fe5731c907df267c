/-! ===== every call, as the two sides tell it ===== -/
theorem CI_g {s : SD} {c g z u : Nat} {A : Nat → Nat} {σ : AM} {m : VM} (I : CI s c g z u A σ m) {A' : Nat → Nat} {σ' : AM} {m' : VM} {z' u' : Nat} (C' : CS0 (sD s) (sB s) g z' u' A' σ' m') (hz : z' ≤ z + 7) (hu : u' ≤ u + 6) (h0 : Kg 0 m m') (hH : HA (sD s) (sB s) g m') (hT : TA (sD s) (sB s) g m') (hD : DA (sD s) (sB s) g m') (hG : GA (sD s) (sB s) g m') : CI s (c + 1) g (z + 7) (u + 6) A' σ' m' := ⟨CS0_w C' hz hu, CKs_c (Nat.le_succ c) (CKs_0 h0 I.2.1), CTp_0 h0 I.2.2.1, CPl_0 h0 I.2.2.2.1, hH, hT, hD, hG⟩
theorem CI_k {s : SD} {c g z u : Nat} {A : Nat → Nat} {σ : AM} {m : VM} (I : CI s c g z u A σ m) {m' : VM} (h : Ks [0, 1, 2, 3, 4, 5] m m') : CI s (c + 1) g (z + 7) (u + 6) A σ m' := CI_g I (CS0_K (Ks_sub h (by decide)) I.1) (by omega) (by omega) (h 0 (by decide)) (HA_K (h 2 (by decide)) I.2.2.2.2.1) (TA_K (h 3 (by decide)) I.2.2.2.2.2.1) (DA_K (h 4 (by decide)) I.2.2.2.2.2.2.1) (GA_K (h 5 (by decide)) I.2.2.2.2.2.2.2)
theorem MJ_K {s : SD} {B : Nat → Nat} {ρ : AM} {n n' : VM} (h : KM n n') (M : MJ s B ρ n) : MJ s B ρ n' := ⟨MS0_K h M.1, MKs_K h M.2.1, MTp_K h M.2.2.1, MPl_K h M.2.2.2.1, MWd_K h M.2.2.2.2⟩
theorem MSp {s : SD} {b0 : Nat} {ρ : Type} {f : Nat → AM → Option (ρ × AM)} {R : ρ → Prop} (h : ∀ (B : Nat → Nat) (σ : AM) (n : VM), MJ s B σ n → ∃ r, Mf B σ n (f (B 0) (ov 40 B n σ)) r ∧ R r) : MSpec s b0 (fun τ => f b0 τ) s R := by
  intro B σ n hb M
  subst hb
  obtain ⟨r, ⟨n', e, k⟩, hr⟩ := h B σ n M
  exact ⟨n', r, e, MJ_K k M, hr⟩
theorem cs_may {s : SD} {c z u a : Nat} (F : WF s c) (hc : c < 600) (v0 : Int32) : CSpec s c z u a (fun τ => M_Bp_may a v0 τ) s (fun r => r = iI (mayS (sD s) v0.toInt)) := by
  intro A σ m g ha hg I
  subst ha
  have e := c_may I.1 (a := v0.toInt) (iI_lo v0) (iI_hi v0)
  simp only [i_of] at e
  exact ⟨A, σ, m, g, _, e, Ext_r _ _, CI_k I (Ks_r _ _), by omega, rfl⟩
theorem ms_may {s : SD} {c b0 : Nat} (F : WF s c) (v0 : Int32) : MSpec s b0 (fun τ => M_Md_may b0 v0 τ) s (fun r => r = iI (mayS (sD s) v0.toInt)) := by
  refine MSp (f := fun b τ => M_Md_may b v0 τ) fun B σ n M => ?_
  have e := m_may M.1 (a := v0.toInt) (iI_lo v0) (iI_hi v0)
  simp only [i_of] at e
  exact ⟨_, e, rfl⟩
theorem cs_list {s : SD} {c z u a : Nat} (F : WF s c) (hc : c < 600) (v0 : Int32) : CSpec s c z u a (fun τ => M_Bp_list a v0 τ) s (fun r => r = listS (sD s) v0.toInt) := by
  intro A σ m g ha hg I
  subst ha
  obtain ⟨m1, e, k⟩ := c_list I.1 (a := v0.toInt) (iI_lo v0) (iI_hi v0)
  simp only [i_of] at e
  exact ⟨A, σ, m1, g, _, e, Ext_r _ _, CI_k I (Ks_sub (OnW_Ks k) (by decide)), by omega, rfl⟩
theorem ms_list {s : SD} {c b0 : Nat} (F : WF s c) (v0 : Int32) : MSpec s b0 (fun τ => M_Md_list b0 v0 τ) s (fun r => r = listS (sD s) v0.toInt) := by
  refine MSp (f := fun b τ => M_Md_list b v0 τ) fun B σ n M => ?_
  have e := m_list M.1 (a := v0.toInt) (iI_lo v0) (iI_hi v0)
  simp only [i_of] at e
  exact ⟨_, e, rfl⟩
theorem cs_cost {s : SD} {c z u a : Nat} (F : WF s c) (hc : c < 600) (v0 : Int32) : CSpec s c z u a (fun τ => M_Bp_cost a v0 τ) s (fun r => r = costS (sD s) v0.toInt) := by
  intro A σ m g ha hg I
  subst ha
  have e := c_cost I.1 (a := v0.toInt) (iI_lo v0) (iI_hi v0)
  simp only [i_of] at e
  exact ⟨A, σ, m, g, _, e, Ext_r _ _, CI_k I (Ks_r _ _), by omega, rfl⟩
theorem ms_cost {s : SD} {c b0 : Nat} (F : WF s c) (v0 : Int32) : MSpec s b0 (fun τ => M_Md_cost b0 v0 τ) s (fun r => r = costS (sD s) v0.toInt) := by
  refine MSp (f := fun b τ => M_Md_cost b v0 τ) fun B σ n M => ?_
  have e := m_cost M.1 (a := v0.toInt) (iI_lo v0) (iI_hi v0)
  simp only [i_of] at e
  exact ⟨_, e, rfl⟩
theorem cs_left {s : SD} {c z u a : Nat} (F : WF s c) (hc : c < 600) (v0 : Int32) : CSpec s c z u a (fun τ => M_Bp_left a v0 τ) s (fun r => r = iI (leftS (sD s) (sB s) v0.toInt)) := by
  intro A σ m g ha hg I
  subst ha
  obtain ⟨A1, σ1, m1, e, C1, x, k⟩ := c_left I.1 (a := v0.toInt) (iI_lo v0) (iI_hi v0)
  simp only [i_of] at e
  exact ⟨A1, σ1, m1, g, _, e, x, CI_g I C1 (by omega) (by omega) (k 0 (by decide)) (HA_K (k 2 (by decide)) I.2.2.2.2.1) (TA_K (k 3 (by decide)) I.2.2.2.2.2.1) (DA_K (k 4 (by decide)) I.2.2.2.2.2.2.1) (GA_K (k 5 (by decide)) I.2.2.2.2.2.2.2), by omega, rfl⟩
theorem ms_left {s : SD} {c b0 : Nat} (F : WF s c) (v0 : Int32) : MSpec s b0 (fun τ => M_Md_left b0 v0 τ) s (fun r => r = iI (leftS (sD s) (sB s) v0.toInt)) := by
  refine MSp (f := fun b τ => M_Md_left b v0 τ) fun B σ n M => ?_
  have e := m_left M.1 (a := v0.toInt) (iI_lo v0) (iI_hi v0)
  simp only [i_of] at e
  exact ⟨_, e, rfl⟩
theorem cs_sure {s : SD} {c z u a : Nat} (F : WF s c) (hc : c < 600) (v0 : Int32) : CSpec s c z u a (fun τ => M_Bp_sure a v0 τ) s (fun r => r = iI (sureS (sD s) (sB s) v0.toInt)) := by
  intro A σ m g ha hg I
  subst ha
  obtain ⟨A1, σ1, m1, e, C1, x, k⟩ := c_sure I.1 (a := v0.toInt) (iI_lo v0) (iI_hi v0)
  simp only [i_of] at e
  exact ⟨A1, σ1, m1, g, _, e, x, CI_g I C1 (by omega) (by omega) (k 0 (by decide)) (HA_K (k 2 (by decide)) I.2.2.2.2.1) (TA_K (k 3 (by decide)) I.2.2.2.2.2.1) (DA_K (k 4 (by decide)) I.2.2.2.2.2.2.1) (GA_K (k 5 (by decide)) I.2.2.2.2.2.2.2), by omega, rfl⟩
theorem ms_sure {s : SD} {c b0 : Nat} (F : WF s c) (v0 : Int32) : MSpec s b0 (fun τ => M_Md_sure b0 v0 τ) s (fun r => r = iI (sureS (sD s) (sB s) v0.toInt)) := by
  refine MSp (f := fun b τ => M_Md_sure b v0 τ) fun B σ n M => ?_
  have e := m_sure M.1 (a := v0.toInt) (iI_lo v0) (iI_hi v0)
  simp only [i_of] at e
  exact ⟨_, e, rfl⟩
theorem cs_matters {s : SD} {c z u a : Nat} (F : WF s c) (hc : c < 600) (v0 : Int32) : CSpec s c z u a (fun τ => M_Bp_matters a v0 τ) s (fun r => r = iI (mattersS (sD s) (sB s) v0.toInt)) := by
  intro A σ m g ha hg I
  subst ha
  obtain ⟨A1, σ1, m1, e, C1, x, k⟩ := c_matters I.1 (a := v0.toInt) (iI_lo v0) (iI_hi v0)
  simp only [i_of] at e
  exact ⟨A1, σ1, m1, g, _, e, x, CI_g I C1 (by omega) (by omega) (k 0 (by decide)) (HA_K (k 2 (by decide)) I.2.2.2.2.1) (TA_K (k 3 (by decide)) I.2.2.2.2.2.1) (DA_K (k 4 (by decide)) I.2.2.2.2.2.2.1) (GA_K (k 5 (by decide)) I.2.2.2.2.2.2.2), by omega, rfl⟩
theorem ms_matters {s : SD} {c b0 : Nat} (F : WF s c) (v0 : Int32) : MSpec s b0 (fun τ => M_Md_matters b0 v0 τ) s (fun r => r = iI (mattersS (sD s) (sB s) v0.toInt)) := by
  refine MSp (f := fun b τ => M_Md_matters b v0 τ) fun B σ n M => ?_
  have e := m_matters M.1 (a := v0.toInt) (iI_lo v0) (iI_hi v0)
  simp only [i_of] at e
  exact ⟨_, e, rfl⟩
theorem cs_next {s : SD} {c z u a : Nat} (F : WF s c) (hc : c < 600) (v0 : Int32) : CSpec s c z u a (fun τ => M_Bp_next a v0 τ) s (fun r => r = iI (nextS (sD s) (sB s) v0.toInt)) := by
  intro A σ m g ha hg I
  subst ha
  obtain ⟨A1, σ1, m1, e, C1, x, k⟩ := c_next I.1 (a := v0.toInt) (iI_lo v0) (iI_hi v0)
  simp only [i_of] at e
  exact ⟨A1, σ1, m1, g, _, e, x, CI_g I C1 (by omega) (by omega) (k 0 (by decide)) (HA_K (k 2 (by decide)) I.2.2.2.2.1) (TA_K (k 3 (by decide)) I.2.2.2.2.2.1) (DA_K (k 4 (by decide)) I.2.2.2.2.2.2.1) (GA_K (k 5 (by decide)) I.2.2.2.2.2.2.2), by omega, rfl⟩
theorem ms_next {s : SD} {c b0 : Nat} (F : WF s c) (v0 : Int32) : MSpec s b0 (fun τ => M_Md_next b0 v0 τ) s (fun r => r = iI (nextS (sD s) (sB s) v0.toInt)) := by
  refine MSp (f := fun b τ => M_Md_next b v0 τ) fun B σ n M => ?_
  have e := m_next M.1 (a := v0.toInt) (iI_lo v0) (iI_hi v0)
  simp only [i_of] at e
  exact ⟨_, e, rfl⟩
theorem cs_often {s : SD} {c z u a : Nat} (F : WF s c) (hc : c < 600) (v0 : Int32) : CSpec s c z u a (fun τ => M_Bp_often a v0 τ) s (fun r => r = iI (oftenS (sD s) (sB s) v0.toInt)) := by
  intro A σ m g ha hg I
  subst ha
  obtain ⟨A1, σ1, m1, e, C1, x, k⟩ := c_often I.1 (a := v0.toInt) (iI_lo v0) (iI_hi v0)
  simp only [i_of] at e
  exact ⟨A1, σ1, m1, g, _, e, x, CI_g I C1 (by omega) (by omega) (k 0 (by decide)) (HA_K (k 2 (by decide)) I.2.2.2.2.1) (TA_K (k 3 (by decide)) I.2.2.2.2.2.1) (DA_K (k 4 (by decide)) I.2.2.2.2.2.2.1) (GA_K (k 5 (by decide)) I.2.2.2.2.2.2.2), by omega, rfl⟩
theorem ms_often {s : SD} {c b0 : Nat} (F : WF s c) (v0 : Int32) : MSpec s b0 (fun τ => M_Md_often b0 v0 τ) s (fun r => r = iI (oftenS (sD s) (sB s) v0.toInt)) := by
  refine MSp (f := fun b τ => M_Md_often b v0 τ) fun B σ n M => ?_
  have e := m_often M.1 (a := v0.toInt) (iI_lo v0) (iI_hi v0)
  simp only [i_of] at e
  exact ⟨_, e, rfl⟩
theorem cs_rings {s : SD} {c z u a : Nat} (F : WF s c) (hc : c < 600) (v0 : Int32) : CSpec s c z u a (fun τ => M_Bp_rings a v0 τ) s (fun r => r = iI (ringsS (sD s) (sB s) v0.toInt)) := by
  intro A σ m g ha hg I
  subst ha
  obtain ⟨A1, σ1, m1, e, C1, x, k⟩ := c_rings I.1 (a := v0.toInt) (iI_lo v0) (iI_hi v0)
  simp only [i_of] at e
  exact ⟨A1, σ1, m1, g, _, e, x, CI_g I C1 (by omega) (by omega) (k 0 (by decide)) (HA_K (k 2 (by decide)) I.2.2.2.2.1) (TA_K (k 3 (by decide)) I.2.2.2.2.2.1) (DA_K (k 4 (by decide)) I.2.2.2.2.2.2.1) (GA_K (k 5 (by decide)) I.2.2.2.2.2.2.2), by omega, rfl⟩
theorem ms_rings {s : SD} {c b0 : Nat} (F : WF s c) (v0 : Int32) : MSpec s b0 (fun τ => M_Md_rings b0 v0 τ) s (fun r => r = iI (ringsS (sD s) (sB s) v0.toInt)) := by
  refine MSp (f := fun b τ => M_Md_rings b v0 τ) fun B σ n M => ?_
  have e := m_rings M.1 (a := v0.toInt) (iI_lo v0) (iI_hi v0)
  simp only [i_of] at e
  exact ⟨_, e, rfl⟩
theorem cs_alike {s : SD} {c z u a : Nat} (F : WF s c) (hc : c < 600) (v0 : Int32) (v1 : Int32) : CSpec s c z u a (fun τ => M_Bp_alike a v0 v1 τ) s (fun r => r = iI (alikeS (sD s) (sB s) v0.toInt v1.toInt)) := by
  intro A σ m g ha hg I
  subst ha
  obtain ⟨A1, σ1, m1, e, C1, x, k⟩ := c_alike I.1 (a := v0.toInt) (c := v1.toInt) (iI_lo v0) (iI_hi v0) (iI_lo v1) (iI_hi v1)
  simp only [i_of] at e
  exact ⟨A1, σ1, m1, g, _, e, x, CI_g I C1 (by omega) (by omega) (k 0 (by decide)) (HA_K (k 2 (by decide)) I.2.2.2.2.1) (TA_K (k 3 (by decide)) I.2.2.2.2.2.1) (DA_K (k 4 (by decide)) I.2.2.2.2.2.2.1) (GA_K (k 5 (by decide)) I.2.2.2.2.2.2.2), by omega, rfl⟩
theorem ms_alike {s : SD} {c b0 : Nat} (F : WF s c) (v0 : Int32) (v1 : Int32) : MSpec s b0 (fun τ => M_Md_alike b0 v0 v1 τ) s (fun r => r = iI (alikeS (sD s) (sB s) v0.toInt v1.toInt)) := by
  refine MSp (f := fun b τ => M_Md_alike b v0 v1 τ) fun B σ n M => ?_
  have e := m_alike M.1 (a := v0.toInt) (c := v1.toInt) (iI_lo v0) (iI_hi v0) (iI_lo v1) (iI_hi v1)
  simp only [i_of] at e
  exact ⟨_, e, rfl⟩
theorem cs_odds {s : SD} {c z u a : Nat} (F : WF s c) (hc : c < 600) (v0 : Int32) (v1 : Int32) : CSpec s c z u a (fun τ => M_Bp_odds a v0 v1 τ) s (fun r => r = iI (oddsS (sD s) (sB s) v0.toInt v1.toInt)) := by
  intro A σ m g ha hg I
  subst ha
  obtain ⟨A1, σ1, m1, e, C1, x, k⟩ := c_odds I.1 (a := v0.toInt) (c := v1.toInt) (iI_lo v0) (iI_hi v0) (iI_lo v1) (iI_hi v1)
  simp only [i_of] at e
  exact ⟨A1, σ1, m1, g, _, e, x, CI_g I C1 (by omega) (by omega) (k 0 (by decide)) (HA_K (k 2 (by decide)) I.2.2.2.2.1) (TA_K (k 3 (by decide)) I.2.2.2.2.2.1) (DA_K (k 4 (by decide)) I.2.2.2.2.2.2.1) (GA_K (k 5 (by decide)) I.2.2.2.2.2.2.2), by omega, rfl⟩
theorem ms_odds {s : SD} {c b0 : Nat} (F : WF s c) (v0 : Int32) (v1 : Int32) : MSpec s b0 (fun τ => M_Md_odds b0 v0 v1 τ) s (fun r => r = iI (oddsS (sD s) (sB s) v0.toInt v1.toInt)) := by
  refine MSp (f := fun b τ => M_Md_odds b v0 v1 τ) fun B σ n M => ?_
  have e := m_odds M.1 (a := v0.toInt) (c := v1.toInt) (iI_lo v0) (iI_hi v0) (iI_lo v1) (iI_hi v1)
  simp only [i_of] at e
  exact ⟨_, e, rfl⟩
theorem cs_guess {s : SD} {c z u a : Nat} (F : WF s c) (hc : c < 600) (v0 : Int32) (v1 : Int32) : CSpec s c z u a (fun τ => M_Bp_guess a v0 v1 τ) s (fun r => r = iI (guessS (sD s) (sB s) v0.toInt v1.toInt)) := by
  intro A σ m g ha hg I
  subst ha
  obtain ⟨A1, σ1, m1, e, C1, x, k⟩ := c_guess I.1 (a := v0.toInt) (c := v1.toInt) (iI_lo v0) (iI_hi v0) (iI_lo v1) (iI_hi v1)
  simp only [i_of] at e
  exact ⟨A1, σ1, m1, g, _, e, x, CI_g I C1 (by omega) (by omega) (k 0 (by decide)) (HA_K (k 2 (by decide)) I.2.2.2.2.1) (TA_K (k 3 (by decide)) I.2.2.2.2.2.1) (DA_K (k 4 (by decide)) I.2.2.2.2.2.2.1) (GA_K (k 5 (by decide)) I.2.2.2.2.2.2.2), by omega, rfl⟩
theorem ms_guess {s : SD} {c b0 : Nat} (F : WF s c) (v0 : Int32) (v1 : Int32) : MSpec s b0 (fun τ => M_Md_guess b0 v0 v1 τ) s (fun r => r = iI (guessS (sD s) (sB s) v0.toInt v1.toInt)) := by
  refine MSp (f := fun b τ => M_Md_guess b v0 v1 τ) fun B σ n M => ?_
  have e := m_guess M.1 (a := v0.toInt) (c := v1.toInt) (iI_lo v0) (iI_hi v0) (iI_lo v1) (iI_hi v1)
  simp only [i_of] at e
  exact ⟨_, e, rfl⟩
theorem cs_fewest {s : SD} {c z u a : Nat} (F : WF s c) (hc : c < 600) (v0 : Int32) : CSpec s c z u a (fun τ => M_Bp_fewest a v0 τ) s (fun r => ∃ y : Int, r = iI y ∧ fewR (sD s) (sB s) 0 0 v0.toInt y) := by
  intro A σ m g ha hg I
  subst ha
  obtain ⟨r, ⟨A1, σ1, m1, e, C1, x, k⟩, hr⟩ := c_fewest I.1 (c := v0.toInt) (iI_lo v0) (iI_hi v0)
  simp only [i_of] at e
  exact ⟨A1, σ1, m1, g, _, e, x, CI_g I C1 (by omega) (by omega) (k 0 (by decide)) (HA_K (k 2 (by decide)) I.2.2.2.2.1) (TA_K (k 3 (by decide)) I.2.2.2.2.2.1) (DA_K (k 4 (by decide)) I.2.2.2.2.2.2.1) (GA_K (k 5 (by decide)) I.2.2.2.2.2.2.2), by omega, r, rfl, hr⟩
theorem ms_fewest {s : SD} {c b0 : Nat} (F : WF s c) (v0 : Int32) : MSpec s b0 (fun τ => M_Md_fewest b0 v0 τ) s (fun r => ∃ y : Int, r = iI y ∧ fewR (sD s) (sB s) 0 0 v0.toInt y) := by
  refine MSp (f := fun b τ => M_Md_fewest b v0 τ) fun B σ n M => ?_
  obtain ⟨r, e, hr⟩ := m_fewest M.1 (c := v0.toInt) (iI_lo v0) (iI_hi v0)
  simp only [i_of] at e
  exact ⟨_, e, r, rfl, hr⟩
theorem cs_fewestFor {s : SD} {c z u a : Nat} (F : WF s c) (hc : c < 600) (v0 : Int32) (v1 : Int32) (v2 : Int32) : CSpec s c z u a (fun τ => M_Bp_fewestFor a v0 v1 v2 τ) s (fun r => ∃ y : Int, r = iI y ∧ fewR (sD s) (sB s) v0.toInt v1.toInt v2.toInt y) := by
  intro A σ m g ha hg I
  subst ha
  obtain ⟨r, ⟨A1, σ1, m1, e, C1, x, k⟩, hr⟩ := c_fewestFor I.1 (q := v0.toInt) (w := v1.toInt) (c := v2.toInt) (iI_lo v0) (iI_hi v0) (iI_lo v1) (iI_hi v1) (iI_lo v2) (iI_hi v2)
  simp only [i_of] at e
  exact ⟨A1, σ1, m1, g, _, e, x, CI_g I C1 (by omega) (by omega) (k 0 (by decide)) (HA_K (k 2 (by decide)) I.2.2.2.2.1) (TA_K (k 3 (by decide)) I.2.2.2.2.2.1) (DA_K (k 4 (by decide)) I.2.2.2.2.2.2.1) (GA_K (k 5 (by decide)) I.2.2.2.2.2.2.2), by omega, r, rfl, hr⟩
theorem ms_fewestFor {s : SD} {c b0 : Nat} (F : WF s c) (v0 : Int32) (v1 : Int32) (v2 : Int32) : MSpec s b0 (fun τ => M_Md_fewestFor b0 v0 v1 v2 τ) s (fun r => ∃ y : Int, r = iI y ∧ fewR (sD s) (sB s) v0.toInt v1.toInt v2.toInt y) := by
  refine MSp (f := fun b τ => M_Md_fewestFor b v0 v1 v2 τ) fun B σ n M => ?_
  obtain ⟨r, e, hr⟩ := m_fewestFor M.1 (q := v0.toInt) (w := v1.toInt) (c := v2.toInt) (iI_lo v0) (iI_hi v0) (iI_lo v1) (iI_hi v1) (iI_lo v2) (iI_hi v2)
  simp only [i_of] at e
  exact ⟨_, e, r, rfl, hr⟩
theorem cs_runSet {s : SD} {c z u a : Nat} (F : WF s c) (hc : c < 600) (v0 : Int32) (v1 : Int32) (v2 : Int32) : CSpec s c z u a (fun τ => M_Bp_runSet a v0 v1 v2 τ) s (fun r => ∃ y : Int, r = iI y ∧ rsetX (sD s) (sB s) v0.toInt v1.toInt v2.toInt y) := by
  intro A σ m g ha hg I
  subst ha
  obtain ⟨A1, σ1, m1, r, e, C1, x, k, hA, hr⟩ := c_runSet I.1 I.2.2.2.2.1 (w := v0.toInt) (way := v1.toInt) (c := v2.toInt) (iI_lo v0) (iI_hi v0) (iI_lo v1) (iI_hi v1) (iI_lo v2) (iI_hi v2)
  simp only [i_of] at e
  exact ⟨A1, σ1, m1, g, _, e, x, CI_g I C1 (by omega) (by omega) (k 0 (by decide)) hA (TA_K (k 3 (by decide)) I.2.2.2.2.2.1) (DA_K (k 4 (by decide)) I.2.2.2.2.2.2.1) (GA_K (k 5 (by decide)) I.2.2.2.2.2.2.2), by omega, r, rfl, hr⟩
theorem ms_runSet {s : SD} {c b0 : Nat} (F : WF s c) (v0 : Int32) (v1 : Int32) (v2 : Int32) : MSpec s b0 (fun τ => M_Md_runSet b0 v0 v1 v2 τ) s (fun r => ∃ y : Int, r = iI y ∧ ∀ y', rsetX (sD s) (sB s) v0.toInt v1.toInt v2.toInt y' → y = y') := by
  refine MSp (f := fun b τ => M_Md_runSet b v0 v1 v2 τ) fun B σ n M => ?_
  obtain ⟨r, e, hr⟩ := m_runSet M.1 (w := v0.toInt) (way := v1.toInt) (c := v2.toInt) (iI_lo v0) (iI_hi v0) (iI_lo v1) (iI_hi v1) (iI_lo v2) (iI_hi v2)
  simp only [i_of] at e
  exact ⟨_, e, r, rfl, hr⟩
theorem cs_worst {s : SD} {c z u a : Nat} (F : WF s c) (hc : c < 600) (v0 : Int32) : CSpec s c z u a (fun τ => M_Bp_worst a v0 τ) s (fun r => r = iI (worstS (sD s) (sB s) v0.toInt)) := by
  intro A σ m g ha hg I
  subst ha
  obtain ⟨A1, σ1, m1, e, C1, x, k, hA⟩ := c_worst I.1 I.2.2.2.2.2.1 (a := v0.toInt) (iI_lo v0) (iI_hi v0)
  simp only [i_of] at e
  exact ⟨A1, σ1, m1, g, _, e, x, CI_g I C1 (by omega) (by omega) (k 0 (by decide)) (HA_K (k 2 (by decide)) I.2.2.2.2.1) hA (DA_K (k 4 (by decide)) I.2.2.2.2.2.2.1) (GA_K (k 5 (by decide)) I.2.2.2.2.2.2.2), by omega, rfl⟩
theorem ms_worst {s : SD} {c b0 : Nat} (F : WF s c) (v0 : Int32) : MSpec s b0 (fun τ => M_Md_worst b0 v0 τ) s (fun r => r = iI (worstS (sD s) (sB s) v0.toInt)) := by
  refine MSp (f := fun b τ => M_Md_worst b v0 τ) fun B σ n M => ?_
  have e := m_worst M.1 (a := v0.toInt) (iI_lo v0) (iI_hi v0)
  simp only [i_of] at e
  exact ⟨_, e, rfl⟩
theorem cs_mean {s : SD} {c z u a : Nat} (F : WF s c) (hc : c < 600) (v0 : Int32) (v1 : Int32) : CSpec s c z u a (fun τ => M_Bp_mean a v0 v1 τ) s (fun r => r = iI (meanS (sD s) (sB s) v0.toInt v1.toInt)) := by
  intro A σ m g ha hg I
  subst ha
  obtain ⟨A1, σ1, m1, e, C1, x, k, hA⟩ := c_mean I.1 I.2.2.2.2.2.1 (a := v0.toInt) (c := v1.toInt) (iI_lo v0) (iI_hi v0) (iI_lo v1) (iI_hi v1)
  simp only [i_of] at e
  exact ⟨A1, σ1, m1, g, _, e, x, CI_g I C1 (by omega) (by omega) (k 0 (by decide)) (HA_K (k 2 (by decide)) I.2.2.2.2.1) hA (DA_K (k 4 (by decide)) I.2.2.2.2.2.2.1) (GA_K (k 5 (by decide)) I.2.2.2.2.2.2.2), by omega, rfl⟩
theorem ms_mean {s : SD} {c b0 : Nat} (F : WF s c) (v0 : Int32) (v1 : Int32) : MSpec s b0 (fun τ => M_Md_mean b0 v0 v1 τ) s (fun r => r = iI (meanS (sD s) (sB s) v0.toInt v1.toInt)) := by
  refine MSp (f := fun b τ => M_Md_mean b v0 v1 τ) fun B σ n M => ?_
  have e := m_mean M.1 (a := v0.toInt) (c := v1.toInt) (iI_lo v0) (iI_hi v0) (iI_lo v1) (iI_hi v1)
  simp only [i_of] at e
  exact ⟨_, e, rfl⟩
theorem cs_smallest {s : SD} {c z u a : Nat} (F : WF s c) (hc : c < 600) (v0 : Int32) : CSpec s c z u a (fun τ => M_Bp_smallest a v0 τ) s (fun r => r = iI (smallS (sD s) (sB s) v0.toInt)) := by
  intro A σ m g ha hg I
  subst ha
  obtain ⟨m1, e, k⟩ := c_smallest I.1 (c := v0.toInt) (iI_lo v0) (iI_hi v0)
  simp only [i_of] at e
  exact ⟨A, σ, m1, g, _, e, Ext_r _ _, CI_k I (Ks_sub (OnF_Ks k) (by decide)), by omega, rfl⟩
theorem ms_smallest {s : SD} {c b0 : Nat} (F : WF s c) (v0 : Int32) : MSpec s b0 (fun τ => M_Md_smallest b0 v0 τ) s (fun r => r = iI (smallS (sD s) (sB s) v0.toInt)) := by
  refine MSp (f := fun b τ => M_Md_smallest b v0 τ) fun B σ n M => ?_
  have e := m_smallest M.1 (c := v0.toInt) (iI_lo v0) (iI_hi v0)
  simp only [i_of] at e
  exact ⟨_, e, rfl⟩
theorem cs_cannot {s : SD} {c z u a : Nat} (F : WF s c) (hc : c < 600) (v0 : Int32) : CSpec s c z u a (fun τ => M_Bp_cannot a v0 τ) s (fun r => ∃ y : Int, r = iI y ∧ (if 0 ≤ v0.toInt ∧ v0.toInt ≤ 6 then cnR (sB s) v0.toInt y else y = -1)) := by
  intro A σ m g ha hg I
  subst ha
  obtain ⟨m1, r, e, k, hr⟩ := c_cannot I.1 (c := v0.toInt) (iI_lo v0) (iI_hi v0)
  simp only [i_of] at e
  exact ⟨A, σ, m1, g, _, e, Ext_r _ _, CI_k I (Ks_sub (OnF_Ks k) (by decide)), by omega, r, rfl, hr⟩
theorem ms_cannot {s : SD} {c b0 : Nat} (F : WF s c) (v0 : Int32) : MSpec s b0 (fun τ => M_Md_cannot b0 v0 τ) s (fun r => ∃ y : Int, r = iI y ∧ (if 0 ≤ v0.toInt ∧ v0.toInt ≤ 6 then cnR (sB s) v0.toInt y else y = -1)) := by
  refine MSp (f := fun b τ => M_Md_cannot b v0 τ) fun B σ n M => ?_
  obtain ⟨n1, r, e, k, hr⟩ := m_cannot M.1 (c := v0.toInt) (iI_lo v0) (iI_hi v0)
  simp only [i_of] at e
  exact ⟨_, ⟨n1, e, k⟩, r, rfl, hr⟩
theorem cs_wrong {s : SD} {c z u a : Nat} (F : WF s c) (hc : c < 600) (v0 : Int32) : CSpec s c z u a (fun τ => M_Bp_wrong a v0 τ) s (fun r => r = iI (wrongS (sD s) (sB s) v0.toInt)) := by
  intro A σ m g ha hg I
  subst ha
  obtain ⟨m1, e, k, hA⟩ := c_wrong I.1 I.2.2.2.2.2.2.1 (c := v0.toInt) (iI_lo v0) (iI_hi v0)
  simp only [i_of] at e
  exact ⟨A, σ, m1, g, _, e, Ext_r _ _, CI_g I (CS0_K (Ks_sub k (by decide)) I.1) (by omega) (by omega) (k 0 (by decide)) (HA_K (k 2 (by decide)) I.2.2.2.2.1) (TA_K (k 3 (by decide)) I.2.2.2.2.2.1) hA (GA_K (k 5 (by decide)) I.2.2.2.2.2.2.2), by omega, rfl⟩
theorem ms_wrong {s : SD} {c b0 : Nat} (F : WF s c) (v0 : Int32) : MSpec s b0 (fun τ => M_Md_wrong b0 v0 τ) s (fun r => r = iI (wrongS (sD s) (sB s) v0.toInt)) := by
  refine MSp (f := fun b τ => M_Md_wrong b v0 τ) fun B σ n M => ?_
  have e := m_wrong M.1 (c := v0.toInt) (iI_lo v0) (iI_hi v0)
  simp only [i_of] at e
  exact ⟨_, e, rfl⟩
theorem cs_suspect {s : SD} {c z u a : Nat} (F : WF s c) (hc : c < 600) (v0 : Int32) : CSpec s c z u a (fun τ => M_Bp_suspect a v0 τ) s (fun r => r = iI (suspS (sD s) (sB s) v0.toInt)) := by
  intro A σ m g ha hg I
  subst ha
  obtain ⟨m1, e, k, hA⟩ := c_suspect I.1 I.2.2.2.2.2.2.1 (c := v0.toInt) (iI_lo v0) (iI_hi v0)
  simp only [i_of] at e
  exact ⟨A, σ, m1, g, _, e, Ext_r _ _, CI_g I (CS0_K (Ks_sub k (by decide)) I.1) (by omega) (by omega) (k 0 (by decide)) (HA_K (k 2 (by decide)) I.2.2.2.2.1) (TA_K (k 3 (by decide)) I.2.2.2.2.2.1) hA (GA_K (k 5 (by decide)) I.2.2.2.2.2.2.2), by omega, rfl⟩
theorem ms_suspect {s : SD} {c b0 : Nat} (F : WF s c) (v0 : Int32) : MSpec s b0 (fun τ => M_Md_suspect b0 v0 τ) s (fun r => r = iI (suspS (sD s) (sB s) v0.toInt)) := by
  refine MSp (f := fun b τ => M_Md_suspect b v0 τ) fun B σ n M => ?_
  have e := m_suspect M.1 (c := v0.toInt) (iI_lo v0) (iI_hi v0)
  simp only [i_of] at e
  exact ⟨_, e, rfl⟩
theorem cs_with {s : SD} {c z u a : Nat} (F : WF s c) (hc : c < 600) (v0 : Int32) : CSpec s c z u a (fun τ => M_Bp_with a v0 τ) s (fun r => r = iI (withS (sD s) (sB s) v0.toInt)) := by
  intro A σ m g ha hg I
  subst ha
  obtain ⟨m1, e, k, hA⟩ := c_with I.1 I.2.2.2.2.2.2.1 (c := v0.toInt) (iI_lo v0) (iI_hi v0)
  simp only [i_of] at e
  exact ⟨A, σ, m1, g, _, e, Ext_r _ _, CI_g I (CS0_K (Ks_sub k (by decide)) I.1) (by omega) (by omega) (k 0 (by decide)) (HA_K (k 2 (by decide)) I.2.2.2.2.1) (TA_K (k 3 (by decide)) I.2.2.2.2.2.1) hA (GA_K (k 5 (by decide)) I.2.2.2.2.2.2.2), by omega, rfl⟩
theorem ms_with {s : SD} {c b0 : Nat} (F : WF s c) (v0 : Int32) : MSpec s b0 (fun τ => M_Md_with b0 v0 τ) s (fun r => r = iI (withS (sD s) (sB s) v0.toInt)) := by
  refine MSp (f := fun b τ => M_Md_with b v0 τ) fun B σ n M => ?_
  have e := m_with M.1 (c := v0.toInt) (iI_lo v0) (iI_hi v0)
  simp only [i_of] at e
  exact ⟨_, e, rfl⟩
theorem cs_grown {s : SD} {c z u a : Nat} (F : WF s c) (hc : c < 600) (v0 : Int32) : CSpec s c z u a (fun τ => M_Bp_grown a v0 τ) s (fun r => ∃ y : Int, r = iI y ∧ (if 0 ≤ v0.toInt ∧ v0.toInt ≤ 2 then ∃ o, gQ (sD s) (sB s) o ∧ y = grA o v0.toInt else y = -1)) := by
  intro A σ m g ha hg I
  subst ha
  obtain ⟨r, ⟨m1, e, k, hA⟩, hr⟩ := c_grown I.1 I.2.2.2.2.2.2.2 (c := v0.toInt) (iI_lo v0) (iI_hi v0)
  simp only [i_of] at e
  exact ⟨A, σ, m1, g, _, e, Ext_r _ _, CI_g I (CS0_K (Ks_sub k (by decide)) I.1) (by omega) (by omega) (k 0 (by decide)) (HA_K (k 2 (by decide)) I.2.2.2.2.1) (TA_K (k 3 (by decide)) I.2.2.2.2.2.1) (DA_K (k 4 (by decide)) I.2.2.2.2.2.2.1) hA, by omega, r, rfl, hr⟩
theorem ms_grown {s : SD} {c b0 : Nat} (F : WF s c) (v0 : Int32) : MSpec s b0 (fun τ => M_Md_grown b0 v0 τ) s (fun r => ∃ y : Int, r = iI y ∧ (if 0 ≤ v0.toInt ∧ v0.toInt ≤ 2 then ∃ o, gQ (sD s) (sB s) o ∧ y = grA o v0.toInt else y = -1)) := by
  refine MSp (f := fun b τ => M_Md_grown b v0 τ) fun B σ n M => ?_
  obtain ⟨r, e, hr⟩ := m_grown M.1 (c := v0.toInt) (iI_lo v0) (iI_hi v0)
  simp only [i_of] at e
  exact ⟨_, e, r, rfl, hr⟩
theorem cs_bells {s : SD} {c z u a : Nat} (F : WF s c) (hc : c < 600) : CSpec s c z u a (fun τ => M_Bp_bells a  τ) s (fun r => ∃ y : Int, r = iI y ∧ belR (sD s) (sB s) y) := by
  intro A σ m g ha hg I
  subst ha
  obtain ⟨r, m1, e, hr, k⟩ := c_bells I.1
  exact ⟨A, σ, m1, g, _, e, Ext_r _ _, CI_k I k, by omega, r, rfl, hr⟩
theorem ms_bells {s : SD} {c b0 : Nat} (F : WF s c) : MSpec s b0 (fun τ => M_Md_bells b0  τ) s (fun r => ∃ y : Int, r = iI y ∧ belR (sD s) (sB s) y) := by
  refine MSp (f := fun b τ => M_Md_bells b  τ) fun B σ n M => ?_
  obtain ⟨r, n1, e, hr, k⟩ := m_bells M.1
  exact ⟨_, ⟨n1, e, k⟩, r, rfl, hr⟩
theorem cs_late {s : SD} {c z u a : Nat} (F : WF s c) (hc : c < 600) (v0 : Int32) (v1 : Int32) : CSpec s c z u a (fun τ => M_Bp_late a v0 v1 τ) s (fun r => r = iI (lateS (sD s) (sB s) v0.toInt v1.toInt)) := by
  intro A σ m g ha hg I
  subst ha
  have e := c_late I.1 (a := v0.toInt) (c := v1.toInt) (iI_lo v0) (iI_hi v0) (iI_lo v1) (iI_hi v1)
  simp only [i_of] at e
  exact ⟨A, σ, m, g, _, e, Ext_r _ _, CI_k I (Ks_r _ _), by omega, rfl⟩
theorem ms_late {s : SD} {c b0 : Nat} (F : WF s c) (v0 : Int32) (v1 : Int32) : MSpec s b0 (fun τ => M_Md_late b0 v0 v1 τ) s (fun r => r = iI (lateS (sD s) (sB s) v0.toInt v1.toInt)) := by
  refine MSp (f := fun b τ => M_Md_late b v0 v1 τ) fun B σ n M => ?_
  have e := m_late M.1 (a := v0.toInt) (c := v1.toInt) (iI_lo v0) (iI_hi v0) (iI_lo v1) (iI_hi v1)
  simp only [i_of] at e
  exact ⟨_, e, rfl⟩
theorem cs_vote {s : SD} {c z u a : Nat} (F : WF s c) (hc : c < 600) (v0 : Int32) (v1 : Int32) (v2 : Int32) : CSpec s c z u a (fun τ => M_Bp_vote a v0 v1 v2 τ) s (fun r => r = iI (votS (sD s) v0.toInt v1.toInt v2.toInt)) := by
  intro A σ m g ha hg I
  subst ha
  obtain ⟨m1, e, k⟩ := c_vote I.1 (a := v0.toInt) (c := v1.toInt) (e := v2.toInt) (iI_lo v0) (iI_hi v0) (iI_lo v1) (iI_hi v1) (iI_lo v2) (iI_hi v2)
  simp only [i_of] at e
  exact ⟨A, σ, m1, g, _, e, Ext_r _ _, CI_k I (Ks_sub (OnW_Ks k) (by decide)), by omega, rfl⟩
theorem ms_vote {s : SD} {c b0 : Nat} (F : WF s c) (v0 : Int32) (v1 : Int32) (v2 : Int32) : MSpec s b0 (fun τ => M_Md_vote b0 v0 v1 v2 τ) s (fun r => r = iI (votS (sD s) v0.toInt v1.toInt v2.toInt)) := by
  refine MSp (f := fun b τ => M_Md_vote b v0 v1 v2 τ) fun B σ n M => ?_
  have e := m_vote M.1 (a := v0.toInt) (c := v1.toInt) (e := v2.toInt) (iI_lo v0) (iI_hi v0) (iI_lo v1) (iI_hi v1) (iI_lo v2) (iI_hi v2)
  simp only [i_of] at e
  exact ⟨_, e, rfl⟩
theorem cs_swings {s : SD} {c z u a : Nat} (F : WF s c) (hc : c < 600) (v0 : Int32) (v1 : Int32) : CSpec s c z u a (fun τ => M_Bp_swings a v0 v1 τ) s (fun r => r = iI (swgS (sD s) v0.toInt v1.toInt)) := by
  intro A σ m g ha hg I
  subst ha
  obtain ⟨m1, e, k⟩ := c_swings I.1 (a := v0.toInt) (c := v1.toInt) (iI_lo v0) (iI_hi v0) (iI_lo v1) (iI_hi v1)
  simp only [i_of] at e
  exact ⟨A, σ, m1, g, _, e, Ext_r _ _, CI_k I (Ks_sub (OnW_Ks k) (by decide)), by omega, rfl⟩
theorem ms_swings {s : SD} {c b0 : Nat} (F : WF s c) (v0 : Int32) (v1 : Int32) : MSpec s b0 (fun τ => M_Md_swings b0 v0 v1 τ) s (fun r => r = iI (swgS (sD s) v0.toInt v1.toInt)) := by
  refine MSp (f := fun b τ => M_Md_swings b v0 v1 τ) fun B σ n M => ?_
  have e := m_swings M.1 (a := v0.toInt) (c := v1.toInt) (iI_lo v0) (iI_hi v0) (iI_lo v1) (iI_hi v1)
  simp only [i_of] at e
  exact ⟨_, e, rfl⟩
theorem cs_heavy {s : SD} {c z u a : Nat} (F : WF s c) (hc : c < 600) (v0 : Int32) (w1 : Bool) (v2 : Int32) : CSpec s c z u a (fun τ => M_Bp_heavy a v0 (bZ w1) v2 τ) s (fun r => r = iI (hevS (sD s) v0.toInt w1 v2.toInt)) := by
  intro A σ m g ha hg I
  subst ha
  obtain ⟨m1, e, k⟩ := c_heavy I.1 (a := v0.toInt) (c := v2.toInt) (iI_lo v0) (iI_hi v0) (iI_lo v2) (iI_hi v2) w1
  simp only [i_of] at e
  exact ⟨A, σ, m1, g, _, e, Ext_r _ _, CI_k I (Ks_sub (OnW_Ks k) (by decide)), by omega, rfl⟩
theorem ms_heavy {s : SD} {c b0 : Nat} (F : WF s c) (v0 : Int32) (w1 : Bool) (v2 : Int32) : MSpec s b0 (fun τ => M_Md_heavy b0 v0 (bZ w1) v2 τ) s (fun r => r = iI (hevS (sD s) v0.toInt w1 v2.toInt)) := by
  refine MSp (f := fun b τ => M_Md_heavy b v0 (bZ w1) v2 τ) fun B σ n M => ?_
  have e := m_heavy M.1 (a := v0.toInt) (c := v2.toInt) (iI_lo v0) (iI_hi v0) (iI_lo v2) (iI_hi v2) w1
  simp only [i_of] at e
  exact ⟨_, e, rfl⟩
theorem cs_leastSet {s : SD} {c z u a : Nat} (F : WF s c) (hc : c < 600) (v0 : Int32) (v1 : Int32) : CSpec s c z u a (fun τ => M_Bp_leastSet a v0 v1 τ) s (fun r => r = iI (lssS (sD s) v0.toInt v1.toInt)) := by
  intro A σ m g ha hg I
  subst ha
  obtain ⟨m1, e, k⟩ := c_leastSet I.1 (a := v0.toInt) (c := v1.toInt) (iI_lo v0) (iI_hi v0) (iI_lo v1) (iI_hi v1)
  simp only [i_of] at e
  exact ⟨A, σ, m1, g, _, e, Ext_r _ _, CI_k I (Ks_sub (OnW_Ks k) (by decide)), by omega, rfl⟩
theorem ms_leastSet {s : SD} {c b0 : Nat} (F : WF s c) (v0 : Int32) (v1 : Int32) : MSpec s b0 (fun τ => M_Md_leastSet b0 v0 v1 τ) s (fun r => r = iI (lssS (sD s) v0.toInt v1.toInt)) := by
  refine MSp (f := fun b τ => M_Md_leastSet b v0 v1 τ) fun B σ n M => ?_
  have e := m_leastSet M.1 (a := v0.toInt) (c := v1.toInt) (iI_lo v0) (iI_hi v0) (iI_lo v1) (iI_hi v1)
  simp only [i_of] at e
  exact ⟨_, e, rfl⟩
theorem cs_vetoes {s : SD} {c z u a : Nat} (F : WF s c) (hc : c < 600) (v0 : Int32) : CSpec s c z u a (fun τ => M_Bp_vetoes a v0 τ) s (fun r => r = iI (vetS (sD s) v0.toInt)) := by
  intro A σ m g ha hg I
  subst ha
  obtain ⟨m1, e, k⟩ := c_vetoes I.1 (a := v0.toInt) (iI_lo v0) (iI_hi v0)
  simp only [i_of] at e
  exact ⟨A, σ, m1, g, _, e, Ext_r _ _, CI_k I (Ks_sub (OnW_Ks k) (by decide)), by omega, rfl⟩
theorem ms_vetoes {s : SD} {c b0 : Nat} (F : WF s c) (v0 : Int32) : MSpec s b0 (fun τ => M_Md_vetoes b0 v0 τ) s (fun r => r = iI (vetS (sD s) v0.toInt)) := by
  refine MSp (f := fun b τ => M_Md_vetoes b v0 τ) fun B σ n M => ?_
  have e := m_vetoes M.1 (a := v0.toInt) (iI_lo v0) (iI_hi v0)
  simp only [i_of] at e
  exact ⟨_, e, rfl⟩
theorem cs_same {s : SD} {c z u a : Nat} (F : WF s c) (hc : c < 600) (v0 : Int32) (v1 : Int32) : CSpec s c z u a (fun τ => M_Bp_same a v0 v1 τ) s (fun r => r = iI (sameS (sD s) v0.toInt v1.toInt)) := by
  intro A σ m g ha hg I
  subst ha
  obtain ⟨m1, e, k⟩ := c_same I.1 (a := v0.toInt) (c := v1.toInt) (iI_lo v0) (iI_hi v0) (iI_lo v1) (iI_hi v1)
  simp only [i_of] at e
  exact ⟨A, σ, m1, g, _, e, Ext_r _ _, CI_k I (Ks_sub k (by decide)), by omega, rfl⟩
theorem ms_same {s : SD} {c b0 : Nat} (F : WF s c) (v0 : Int32) (v1 : Int32) : MSpec s b0 (fun τ => M_Md_same b0 v0 v1 τ) s (fun r => r = iI (sameS (sD s) v0.toInt v1.toInt)) := by
  refine MSp (f := fun b τ => M_Md_same b v0 v1 τ) fun B σ n M => ?_
  have e := m_same M.1 (a := v0.toInt) (c := v1.toInt) (iI_lo v0) (iI_hi v0) (iI_lo v1) (iI_hi v1)
  simp only [i_of] at e
  exact ⟨_, e, rfl⟩
theorem cs_feather {s : SD} {c z u a : Nat} (F : WF s c) (hc : c < 600) (v0 : Int32) : CSpec s c z u a (fun τ => M_Bp_feather a v0 τ) s (fun r => r = iI (feaS (sD s) (sP s) v0.toInt)) := by
  intro A σ m g ha hg I
  subst ha
  obtain ⟨m1, e, k⟩ := c_feather I.1 F.2.2.1 I.2.2.2.1 (a := v0.toInt) (iI_lo v0) (iI_hi v0)
  simp only [i_of] at e
  exact ⟨A, σ, m1, g, _, e, Ext_r _ _, CI_k I (Ks_sub (OnW_Ks k) (by decide)), by omega, rfl⟩
theorem ms_feather {s : SD} {c b0 : Nat} (F : WF s c) (v0 : Int32) : MSpec s b0 (fun τ => M_Md_feather b0 v0 τ) s (fun r => r = iI (feaS (sD s) (sP s) v0.toInt)) := by
  refine MSp (f := fun b τ => M_Md_feather b v0 τ) fun B σ n M => ?_
  have e := m_feather M.1 F.2.2.1 M.2.2.2.1 (a := v0.toInt) (iI_lo v0) (iI_hi v0)
  simp only [i_of] at e
  exact ⟨_, e, rfl⟩
theorem cs_count {s : SD} {c z u a : Nat} (F : WF s c) (hc : c < 600) (v0 : Int32) : CSpec s c z u a (fun τ => M_Bp_count a v0 τ) s (fun r => r = iI (countS (sD s) (sB s) (sP s) (sT s) v0.toInt)) := by
  intro A σ m g ha hg I
  subst ha
  have e := c_count I.1 I.2.2.2.1 I.2.2.1 (a := v0.toInt) (iI_lo v0) (iI_hi v0)
  simp only [i_of] at e
  exact ⟨A, σ, m, g, _, e, Ext_r _ _, CI_k I (Ks_r _ _), by omega, rfl⟩
theorem ms_count {s : SD} {c b0 : Nat} (F : WF s c) (v0 : Int32) : MSpec s b0 (fun τ => M_Md_count b0 v0 τ) s (fun r => r = iI (countS (sD s) (sB s) (sP s) (sT s) v0.toInt)) := by
  refine MSp (f := fun b τ => M_Md_count b v0 τ) fun B σ n M => ?_
  have e := m_count M.1 M.2.2.2.1 M.2.2.1 (a := v0.toInt) (iI_lo v0) (iI_hi v0)
  simp only [i_of] at e
  exact ⟨_, e, rfl⟩
