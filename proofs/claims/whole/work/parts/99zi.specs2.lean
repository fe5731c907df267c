/-! ===== the calls that change the state ===== -/
theorem CS0_k {d : TD} {b : BD} {g z u : Nat} {A : Nat → Nat} {σ : AM} {m m' : VM} (h : Ks [1, 10, 11, 15] m m') (C : CS0 d b g z u A σ m) : CS0 d b g z u A σ m' := by
  obtain ⟨c1, c2, c3, c4, c5, c6, c7, c8, c9, a, a1, a2, a3, a4⟩ := C
  refine ⟨c1, c2, c3, c4, CTw_k (h 10 (by decide)) c5, c6, CBk_k (h 11 (by decide)) c7, ?_, c9, a, ?_, a2, a3, fun e => ⟨RV_K (h 1 (by decide)) (a4 e).1, (a4 e).2⟩⟩
  · rw [(h 15 (by decide)).1 (27, 10) (by decide)]; exact c8
  · rw [(h 1 (by decide)).1 (35, 9) (by decide)]; exact a1
theorem cs_feed {s : SD} {c z u a : Nat} (F : WF s c) (x y w : Int64) : CSpec s c z u a (fun τ => M_Bp_feed a x y w τ) (sD s, sB s, sK s, feedT (sT s) x y w, sP s) (fun r => r = iI ((feedT (sT s) x y w).1 : Int)) := by
  intro A σ m g ha hg I
  subst ha
  obtain ⟨m1, e, t1, k⟩ := c_feed I.1.1 F.2.1 x y w I.2.2.1
  exact ⟨A, σ, m1, g, _, e, Ext_r _ _, ⟨CS0_w (CS0_k (Ks_sub k (by decide)) I.1) (by omega) (by omega), CKs_c (Nat.le_succ c) (CKs_k (k 12 (by decide)) I.2.1), t1, CPl_k (k 14 (by decide)) I.2.2.2.1, HA_K (k 2 (by decide)) I.2.2.2.2.1, TA_K (k 3 (by decide)) I.2.2.2.2.2.1, DA_K (k 4 (by decide)) I.2.2.2.2.2.2.1, GA_K (k 5 (by decide)) I.2.2.2.2.2.2.2⟩, by omega, rfl⟩
theorem MS0_k {d : TD} {b : BD} {A : Nat → Nat} {σ : AM} {m m' : VM} (h : Ks [20, 21] m m') (M : MS0 d b A σ m) : MS0 d b A σ m' := ⟨M.1, M.2.1, MT_k (h 20 (by decide)) M.2.2.1, M.2.2.2.1, MB_k (h 21 (by decide)) M.2.2.2.2⟩
theorem ms_feed {s : SD} {c b0 : Nat} (F : WF s c) (x y w : Int64) : MSpec s b0 (fun τ => M_Md_feed b0 x y w τ) (sD s, sB s, sK s, feedT (sT s) x y w, sP s) (fun r => r = iI ((feedT (sT s) x y w).1 : Int)) := by
  intro B σ n hb M
  subst hb
  obtain ⟨n1, e, t1, k⟩ := m_feed M.1.1 F.2.1 x y w M.2.2.1
  exact ⟨n1, _, e, ⟨MS0_k (Ks_sub k (by decide)) M.1, MKs_k (k 22 (by decide)) M.2.1, t1, MPl_k (k 24 (by decide)) M.2.2.2.1, MWd_k (k 25 (by decide)) M.2.2.2.2⟩, rfl⟩
theorem cs_lay {s : SD} {c z u a : Nat} (F : WF s c) (v : Int32) : CSpec s c z u a (fun τ => M_Bp_lay a v τ) (sD s, sB s, sK s, sT s, layP (sD s) (sP s) v.toInt) (fun r => r = iI (layR (sD s) (sP s) v.toInt)) := by
  intro A σ m g ha hg I
  subst ha
  obtain ⟨m1, e, t1, k⟩ := c_lay I.1 F.2.2.1 I.2.2.2.1 (a := v.toInt) (iI_lo v) (iI_hi v)
  simp only [i_of] at e
  exact ⟨A, σ, m1, g, _, e, Ext_r _ _, ⟨CS0_w (CS0_k (Ks_sub k (by decide)) I.1) (by omega) (by omega), CKs_c (Nat.le_succ c) (CKs_k (k 12 (by decide)) I.2.1), CTp_k (k 13 (by decide)) I.2.2.1, t1, HA_K (k 2 (by decide)) I.2.2.2.2.1, TA_K (k 3 (by decide)) I.2.2.2.2.2.1, DA_K (k 4 (by decide)) I.2.2.2.2.2.2.1, GA_K (k 5 (by decide)) I.2.2.2.2.2.2.2⟩, by omega, rfl⟩
theorem ms_lay {s : SD} {c b0 : Nat} (F : WF s c) (v : Int32) : MSpec s b0 (fun τ => M_Md_lay b0 v τ) (sD s, sB s, sK s, sT s, layP (sD s) (sP s) v.toInt) (fun r => r = iI (layR (sD s) (sP s) v.toInt)) := by
  intro B σ n hb M
  subst hb
  obtain ⟨n1, e, t1, k⟩ := m_lay M.1 F.2.2.1 M.2.2.2.1 (a := v.toInt) (iI_lo v) (iI_hi v)
  simp only [i_of] at e
  exact ⟨n1, _, e, ⟨MS0_k (Ks_sub k (by decide)) M.1, MKs_k (k 22 (by decide)) M.2.1, MTp_k (k 23 (by decide)) M.2.2.1, t1, MWd_k (k 25 (by decide)) M.2.2.2.2⟩, rfl⟩
theorem cs_clear {s : SD} {c z u a : Nat} : CSpec s c z u a (fun τ => M_Bp_clear a τ) (sD s, sB s, sK s, sT s, (0, (sP s).2)) (fun r => r = iI 1) := by
  intro A σ m g ha hg I
  subst ha
  obtain ⟨m1, e, t1, k⟩ := c_clear I.1.1 m (sP s).2
  exact ⟨A, σ, m1, g, _, e, Ext_r _ _, ⟨CS0_w (CS0_k (Ks_sub k (by decide)) I.1) (by omega) (by omega), CKs_c (Nat.le_succ c) (CKs_k (k 12 (by decide)) I.2.1), CTp_k (k 13 (by decide)) I.2.2.1, t1, HA_K (k 2 (by decide)) I.2.2.2.2.1, TA_K (k 3 (by decide)) I.2.2.2.2.2.1, DA_K (k 4 (by decide)) I.2.2.2.2.2.2.1, GA_K (k 5 (by decide)) I.2.2.2.2.2.2.2⟩, by omega, rfl⟩
theorem ms_clear {s : SD} {b0 : Nat} : MSpec s b0 (fun τ => M_Md_clear b0 τ) (sD s, sB s, sK s, sT s, (0, (sP s).2)) (fun r => r = iI 1) := by
  intro B σ n hb M
  subst hb
  obtain ⟨n1, e, t1, k⟩ := m_clear M.1.1 n (sP s).2
  exact ⟨n1, _, e, ⟨MS0_k (Ks_sub k (by decide)) M.1, MKs_k (k 22 (by decide)) M.2.1, MTp_k (k 23 (by decide)) M.2.2.1, t1, MWd_k (k 25 (by decide)) M.2.2.2.2⟩, rfl⟩
theorem CI_upd {s : SD} {c g g' z u : Nat} {A : Nat → Nat} {σ : AM} {m m' : VM} {b' : BD} (I : CI s c g z u A σ m) (C' : CS0 (sD s) b' g' z u A σ m') (h : Upd (sB s) g m b' g' m' [1, 2, 3, 4, 5, 10, 12, 13, 14]) : CI (sD s, b', sK s, sT s, sP s) (c + 1) g' (z + 7) (u + 6) A σ m' ∧ g' ≤ g + 1 := by
  rcases h with ⟨h1, h2, h3⟩ | ⟨h1, k⟩
  · subst h1 h2 h3
    exact ⟨CI_k I (Ks_r _ _), by omega⟩
  · subst h1
    exact ⟨⟨CS0_w C' (by omega) (by omega), CKs_c (Nat.le_succ c) (CKs_k (k 12 (by decide)) I.2.1), CTp_k (k 13 (by decide)) I.2.2.1, CPl_k (k 14 (by decide)) I.2.2.2.1, HA_up (k 2 (by decide)) I.2.2.2.2.1, TA_up (k 3 (by decide)) I.2.2.2.2.2.1, DA_up (k 4 (by decide)) I.2.2.2.2.2.2.1, GA_up (k 5 (by decide)) I.2.2.2.2.2.2.2⟩, by omega⟩
theorem cs_trial {s : SD} {c z u a : Nat} (hc : c < 600) (v : Int32) (rg : Bool) : CSpec s c z u a (fun τ => M_Bp_trial a v (bZ rg) τ) (sD s, trB (sD s) (sB s) v.toInt rg, sK s, sT s, sP s) (fun r => r = iI (trR (sD s) (sB s) v.toInt)) := by
  intro A σ m g ha hg I
  subst ha
  obtain ⟨g1, m1, e, C1, k⟩ := c_trial I.1 (by omega) (a := v.toInt) (iI_lo v) (iI_hi v) rg
  simp only [i_of] at e
  obtain ⟨I1, hg1⟩ := CI_upd I C1 k
  exact ⟨A, σ, m1, g1, _, e, Ext_r _ _, I1, by omega, rfl⟩
theorem ms_trial {s : SD} {b0 : Nat} (v : Int32) (rg : Bool) : MSpec s b0 (fun τ => M_Md_trial b0 v (bZ rg) τ) (sD s, trB (sD s) (sB s) v.toInt rg, sK s, sT s, sP s) (fun r => r = iI (trR (sD s) (sB s) v.toInt)) := by
  intro B σ n hb M
  subst hb
  obtain ⟨n1, e, t1, k⟩ := m_trial M.1 (a := v.toInt) (iI_lo v) (iI_hi v) rg
  simp only [i_of] at e
  exact ⟨n1, _, e, ⟨t1, MKs_k (k 22 (by decide)) M.2.1, MTp_k (k 23 (by decide)) M.2.2.1, MPl_k (k 24 (by decide)) M.2.2.2.1, MWd_k (k 25 (by decide)) M.2.2.2.2⟩, rfl⟩
theorem cs_hint {s : SD} {c z u a : Nat} (hc : c < 600) (v w : Int32) : CSpec s c z u a (fun τ => M_Bp_hint a v w τ) (sD s, hiB (sD s) (sB s) v.toInt w.toInt, sK s, sT s, sP s) (fun r => r = iI (hiR (sD s) (sB s) v.toInt w.toInt)) := by
  intro A σ m g ha hg I
  subst ha
  obtain ⟨g1, m1, e, C1, k⟩ := c_hint I.1 (by omega) (a := v.toInt) (c := w.toInt) (iI_lo v) (iI_hi v) (iI_lo w) (iI_hi w)
  simp only [i_of] at e
  obtain ⟨I1, hg1⟩ := CI_upd I C1 k
  exact ⟨A, σ, m1, g1, _, e, Ext_r _ _, I1, by omega, rfl⟩
theorem ms_hint {s : SD} {b0 : Nat} (v w : Int32) : MSpec s b0 (fun τ => M_Md_hint b0 v w τ) (sD s, hiB (sD s) (sB s) v.toInt w.toInt, sK s, sT s, sP s) (fun r => r = iI (hiR (sD s) (sB s) v.toInt w.toInt)) := by
  intro B σ n hb M
  subst hb
  obtain ⟨n1, e, t1, k⟩ := m_hint M.1 (a := v.toInt) (c := w.toInt) (iI_lo v) (iI_hi v) (iI_lo w) (iI_hi w)
  simp only [i_of] at e
  exact ⟨n1, _, e, ⟨t1, MKs_k (k 22 (by decide)) M.2.1, MTp_k (k 23 (by decide)) M.2.2.1, MPl_k (k 24 (by decide)) M.2.2.2.1, MWd_k (k 25 (by decide)) M.2.2.2.2⟩, rfl⟩
/-! a tower told -/
def towS (s : SD) : SD := if (twS (sT s)).1 = 0 then (twD (twS (sT s)).2, tB (sB s), (0, fun _ => 0, kT (sK s), kH (sK s)), (0, (sT s).2), (0, (sP s).2)) else (sD s, sB s, sK s, (0, (sT s).2), sP s)
theorem cs_tower {s : SD} {c z u a : Nat} (F : WF s c) (hc : c < 600) : CSpec s c z u a (fun τ => M_Bp_tower a τ) (towS s) (fun r => r = iI ((twS (sT s)).1 : Int)) := by
  intro A σ m g ha hg I
  subst ha
  obtain ⟨A1, σ1, m1, e, x, t2, k1, k2⟩ := c_tower I.1 (by omega) F.2.1 I.2.2.1
  unfold towS
  by_cases z0 : (twS (sT s)).1 = 0
  · rw [if_pos z0]
    obtain ⟨C1, l1, q1, q2, q3, q4, k⟩ := k2 z0
    obtain ⟨e0, e1, e2, e3, e4, e5⟩ := I.2.1
    refine ⟨A1, σ1, m1, g + 1, _, e, x, ⟨C1, ⟨kL (sK s) + e0, by show 0 + (kL (sK s) + e0) ≤ c + 1; omega, ?_, fun j hj => ?_, fun j hj => ?_, fun j hj => ?_⟩, ⟨t2, fun j hj => absurd hj (Nat.not_lt_zero j)⟩, ⟨l1, fun j hj => absurd hj (Nat.not_lt_zero j)⟩, HA_up (k 2 (by decide)) I.2.2.2.2.1, TA_up (k 3 (by decide)) I.2.2.2.2.2.1, DA_up (k 4 (by decide)) I.2.2.2.2.2.2.1, GA_up (k 5 (by decide)) I.2.2.2.2.2.2.2⟩, by omega, rfl⟩
    · rw [q1, e2]
      show _ = iI ((0 + (kL (sK s) + e0) : Nat) : Int)
      rw [Nat.zero_add]
    · exact q4 j hj
    · rw [q2]; exact e4 j hj
    · rw [q3]; exact e5 j hj
  · rw [if_neg z0]
    obtain ⟨y1, y2, k⟩ := k1 z0
    subst y1 y2
    exact ⟨A1, σ1, m1, g, _, e, x, ⟨CS0_w (CS0_k (Ks_sub k (by decide)) I.1) (by omega) (by omega), CKs_c (Nat.le_succ c) (CKs_k (k 12 (by decide)) I.2.1), ⟨t2, fun j hj => absurd hj (Nat.not_lt_zero j)⟩, CPl_k (k 14 (by decide)) I.2.2.2.1, HA_K (k 2 (by decide)) I.2.2.2.2.1, TA_K (k 3 (by decide)) I.2.2.2.2.2.1, DA_K (k 4 (by decide)) I.2.2.2.2.2.2.1, GA_K (k 5 (by decide)) I.2.2.2.2.2.2.2⟩, by omega, rfl⟩
theorem ms_tower {s : SD} {c b0 : Nat} (F : WF s c) : MSpec s b0 (fun τ => M_Md_tower b0 τ) (towS s) (fun r => r = iI ((twS (sT s)).1 : Int)) := by
  intro B σ n hb M
  subst hb
  obtain ⟨n1, e, t2, k1, k2⟩ := m_tower M.1.1 F.2.1 M.2.2.1 M.2.2.2.2
  unfold towS
  by_cases z0 : (twS (sT s)).1 = 0
  · rw [if_pos z0]
    obtain ⟨wd, T1, q1, q2, q3, q4, q5, q6, q7⟩ := k2 z0
    obtain ⟨⟨l1, l2, l3, ⟨b1, b2, b3, b4, b5⟩, ⟨_, c1, c2, c3, c4⟩⟩, ⟨d1, d2, d3, d4⟩, m3, m4, m5⟩ := M
    refine ⟨n1, _, e, ⟨⟨l1, wd, T1, ⟨Nat.zero_le _, Nat.zero_le _, b3, fun j hj => absurd hj (Nat.not_lt_zero j), b5⟩, ⟨⟨q3, q4⟩, fun j hj => ?_, fun j hj => ?_, fun j hj => ?_, fun j hj => ?_⟩⟩, ⟨q6, q7, fun j hj => ?_, fun j hj => ?_⟩, ⟨t2, fun j hj => absurd hj (Nat.not_lt_zero j)⟩, ⟨q5, fun j hj => absurd hj (Nat.not_lt_zero j)⟩, fun j hj => by rw [q2]; exact m5 j hj⟩, rfl⟩
    · rw [q1 21 (by decide)]; exact c1 j hj
    · rw [q1 22 (by decide)]; exact c2 j hj
    · rw [q1 23 (by decide)]; exact c3 j hj
    · rw [q1 24 (by decide)]; exact c4 j hj
    · rw [q1 38 (by decide)]; exact d3 j hj
    · rw [q1 39 (by decide)]; exact d4 j hj
  · rw [if_neg z0]
    have k := k1 z0
    exact ⟨n1, _, e, ⟨MS0_k (Ks_sub k (by decide)) M.1, MKs_k (k 22 (by decide)) M.2.1, ⟨t2, fun j hj => absurd hj (Nat.not_lt_zero j)⟩, MPl_k (k 24 (by decide)) M.2.2.2.1, MWd_k (k 25 (by decide)) M.2.2.2.2⟩, rfl⟩
/-! marks -/
def mrkS (s : SD) (a : Int) (bk : Bool) : SD := if 0 ≤ a ∧ a ≤ 3 then (if bk = true then (if kO (sK s) a.toNat = 0 then s else (sD s, bkB (sB s) (sK s) a.toNat, bkK (sK s) a.toNat, sT s, sP s)) else (sD s, sB s, mkL (sB s) (sK s) a.toNat, sT s, sP s)) else s
def mrkR (s : SD) (a : Int) (bk : Bool) : Nat := if 0 ≤ a ∧ a ≤ 3 then (if bk = true then (if kO (sK s) a.toNat = 0 then 0 else 1) else 1) else 0
theorem cs_mark {s : SD} {c z u a : Nat} (F : WF s c) (hc : c < 600) (v : Int32) (bk : Bool) : CSpec s c z u a (fun τ => M_Bp_mark a v (bZ bk) τ) (mrkS s v.toInt bk) (fun r => r = iI (mrkR s v.toInt bk : Int)) := by
  intro A σ m g ha hg I
  subst ha
  unfold mrkS mrkR
  by_cases hv : 0 ≤ v.toInt ∧ v.toInt ≤ 3
  · rw [if_pos hv, if_pos hv]
    obtain ⟨k, hk⟩ : ∃ k : Nat, v.toInt = (k : Int) := ⟨v.toInt.toNat, by omega⟩
    have ev : v = iI (k : Int) := by rw [← hk, i_of]
    have hk4 : k < 4 := by omega
    rw [hk, ev, Int.toNat_natCast]
    cases bk
    · rw [if_neg (by decide), if_neg (by decide)]
      obtain ⟨m1, e, k1, ks⟩ := c_markL I.1 I.2.1 (by omega) hk4
      exact ⟨A, σ, m1, g, _, e, Ext_r _ _, ⟨CS0_w (CS0_k (Ks_sub ks (by decide)) I.1) (by omega) (by omega), k1, CTp_k (ks 13 (by decide)) I.2.2.1, CPl_k (ks 14 (by decide)) I.2.2.2.1, HA_K (ks 2 (by decide)) I.2.2.2.2.1, TA_K (ks 3 (by decide)) I.2.2.2.2.2.1, DA_K (ks 4 (by decide)) I.2.2.2.2.2.2.1, GA_K (ks 5 (by decide)) I.2.2.2.2.2.2.2⟩, by omega, rfl⟩
    · rw [if_pos rfl, if_pos rfl]
      by_cases h0 : kO (sK s) k = 0
      · rw [if_pos h0, if_pos h0]
        have e := c_markN I.1.1 I.2.1 (by omega) hk4 h0
        exact ⟨A, σ, m, g, _, e, Ext_r _ _, CI_k I (Ks_r _ _), by omega, rfl⟩
      · rw [if_neg h0, if_neg h0]
        obtain ⟨m1, e, C1, k1, ks⟩ := c_markB I.1 (by omega) I.2.1 (by omega) F.1.1 hk4 h0 (F.1.2 k hk4 h0)
        exact ⟨A, σ, m1, g + 1, _, e, Ext_r _ _, ⟨CS0_w C1 (by omega) (by omega), CKs_c (Nat.le_succ c) k1, CTp_k (ks 13 (by decide)) I.2.2.1, CPl_k (ks 14 (by decide)) I.2.2.2.1, HA_up (ks 2 (by decide)) I.2.2.2.2.1, TA_up (ks 3 (by decide)) I.2.2.2.2.2.1, DA_up (ks 4 (by decide)) I.2.2.2.2.2.2.1, GA_up (ks 5 (by decide)) I.2.2.2.2.2.2.2⟩, by omega, rfl⟩
  · rw [if_neg hv, if_neg hv]
    have e := c_mark0 I.1.1 m (a := v.toInt) (iI_lo v) (iI_hi v) hv (bZ bk)
    rw [i_of] at e
    exact ⟨A, σ, m, g, _, e, Ext_r _ _, CI_k I (Ks_r _ _), by omega, rfl⟩
theorem ms_mark {s : SD} {c b0 : Nat} (F : WF s c) (hc : c < 600) (v : Int32) (bk : Bool) : MSpec s b0 (fun τ => M_Md_mark b0 v (bZ bk) τ) (mrkS s v.toInt bk) (fun r => r = iI (mrkR s v.toInt bk : Int)) := by
  intro B σ n hb M
  subst hb
  unfold mrkS mrkR
  by_cases hv : 0 ≤ v.toInt ∧ v.toInt ≤ 3
  · rw [if_pos hv, if_pos hv]
    obtain ⟨k, hk⟩ : ∃ k : Nat, v.toInt = (k : Int) := ⟨v.toInt.toNat, by omega⟩
    have ev : v = iI (k : Int) := by rw [← hk, i_of]
    have hk4 : k < 4 := by omega
    rw [hk, ev, Int.toNat_natCast]
    cases bk
    · rw [if_neg (by decide), if_neg (by decide)]
      obtain ⟨n1, e, k1, ks⟩ := m_markL M.1 M.2.1 hk4
      exact ⟨n1, _, e, ⟨MS0_k (Ks_sub ks (by decide)) M.1, k1, MTp_k (ks 23 (by decide)) M.2.2.1, MPl_k (ks 24 (by decide)) M.2.2.2.1, MWd_k (ks 25 (by decide)) M.2.2.2.2⟩, rfl⟩
    · rw [if_pos rfl, if_pos rfl]
      by_cases h0 : kO (sK s) k = 0
      · rw [if_pos h0, if_pos h0]
        have e := m_markN M.1.1 M.2.1 hk4 h0
        exact ⟨_, _, e, MJ_K (KM_0 n) M, rfl⟩
      · rw [if_neg h0, if_neg h0]
        obtain ⟨n1, e, C1, k1, ks⟩ := m_markB M.1 M.2.1 (c := c) (by omega) F.2.2.2 F.1.1 hk4 h0 (F.1.2 k hk4 h0)
        exact ⟨n1, _, e, ⟨C1, k1, MTp_k (ks 23 (by decide)) M.2.2.1, MPl_k (ks 24 (by decide)) M.2.2.2.1, MWd_k (ks 25 (by decide)) M.2.2.2.2⟩, rfl⟩
  · rw [if_neg hv, if_neg hv]
    have e := m_mark0 M.1.1 n (a := v.toInt) (iI_lo v) (iI_hi v) hv (bZ bk)
    rw [i_of] at e
    exact ⟨_, _, e, MJ_K (KM_0 n) M, rfl⟩
