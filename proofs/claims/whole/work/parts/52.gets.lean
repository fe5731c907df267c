/-! ===== the one-row methods ===== -/
theorem q_Bk_age {A : Nat → Nat} {σ : AM} (H : LC A σ) (m : VM) : M_Bk_age (A 27) (ov 68 A m σ) = some (m.1 27 10, (ov 68 A m σ)) := by
  unfold M_Bk_age; rw [E_Bk_age_0]; simp (disch := omega) only [cK_27 H, aR_ov, okO_ov, gd_true, aI_ov H.1, aL_ov H.1, mw_ov]
theorem q_Bk_hints {A : Nat → Nat} {σ : AM} (H : LC A σ) (m : VM) : M_Bk_hints (A 27) (ov 68 A m σ) = some (m.1 27 8, (ov 68 A m σ)) := by
  unfold M_Bk_hints; rw [E_Bk_hints_0]; simp (disch := omega) only [cK_27 H, aR_ov, okO_ov, gd_true, aI_ov H.1, aL_ov H.1, mw_ov]
theorem q_Bk_trials {A : Nat → Nat} {σ : AM} (H : LC A σ) (m : VM) : M_Bk_trials (A 27) (ov 68 A m σ) = some (m.1 27 7, (ov 68 A m σ)) := by
  unfold M_Bk_trials; rw [E_Bk_trials_0]; simp (disch := omega) only [cK_27 H, aR_ov, okO_ov, gd_true, aI_ov H.1, aL_ov H.1, mw_ov]
theorem q_Ch_made {A : Nat → Nat} {σ : AM} (H : LC A σ) (m : VM) : M_Ch_made (A 39) (ov 68 A m σ) = some (m.1 39 16, (ov 68 A m σ)) := by
  unfold M_Ch_made; rw [E_Ch_made_0]; simp (disch := omega) only [cK_39 H, aR_ov, okO_ov, gd_true, aI_ov H.1, aL_ov H.1, mw_ov]
theorem q_Ch_paid {A : Nat → Nat} {σ : AM} (H : LC A σ) (m : VM) : M_Ch_paid (A 39) (ov 68 A m σ) = some (m.1 39 18, (ov 68 A m σ)) := by
  unfold M_Ch_paid; rw [E_Ch_paid_0]; simp (disch := omega) only [cK_39 H, aR_ov, okO_ov, gd_true, aI_ov H.1, aL_ov H.1, mw_ov]
theorem q_Ch_rang {A : Nat → Nat} {σ : AM} (H : LC A σ) (m : VM) : M_Ch_rang (A 39) (ov 68 A m σ) = some (m.1 39 17, (ov 68 A m σ)) := by
  unfold M_Ch_rang; rw [E_Ch_rang_0]; simp (disch := omega) only [cK_39 H, aR_ov, okO_ov, gd_true, aI_ov H.1, aL_ov H.1, mw_ov]
theorem q_Db_fewestWrong {A : Nat → Nat} {σ : AM} (H : LC A σ) (m : VM) : M_Db_fewestWrong (A 61) (ov 68 A m σ) = some (m.1 61 7, (ov 68 A m σ)) := by
  unfold M_Db_fewestWrong; rw [E_Db_fewestWrong_0]; simp (disch := omega) only [cK_61 H, aR_ov, okO_ov, gd_true, aI_ov H.1, aL_ov H.1, mw_ov]
theorem q_Ls_allowed {A : Nat → Nat} {σ : AM} (H : LC A σ) (m : VM) : M_Ls_allowed (A 17) (ov 68 A m σ) = some (m.1 17 12, (ov 68 A m σ)) := by
  unfold M_Ls_allowed; rw [E_Ls_allowed_0]; simp (disch := omega) only [cK_17 H, aR_ov, okO_ov, gd_true, aI_ov H.1, aL_ov H.1, mw_ov]
theorem q_Ls_size {A : Nat → Nat} {σ : AM} (H : LC A σ) (m : VM) : M_Ls_size (A 17) (ov 68 A m σ) = some (m.1 17 11, (ov 68 A m σ)) := by
  unfold M_Ls_size; rw [E_Ls_size_0]; simp (disch := omega) only [cK_17 H, aR_ov, okO_ov, gd_true, aI_ov H.1, aL_ov H.1, mw_ov]
theorem q_Md_thrown {A : Nat → Nat} {σ : AM} (H : LM A σ) (m : VM) : M_Md_thrown (A 0) (ov 40 A m σ) = some (m.1 0 0, (ov 40 A m σ)) := by
  unfold M_Md_thrown; rw [E_Md_thrown_0]; simp (disch := omega) only [mK_0 H, aR_ov, okO_ov, gd_true, aI_ov H.1, aL_ov H.1, mw_ov]
theorem q_Pl_firstSet {A : Nat → Nat} {σ : AM} (H : LC A σ) (m : VM) : M_Pl_firstSet (A 48) (ov 68 A m σ) = some (m.1 48 9, (ov 68 A m σ)) := by
  unfold M_Pl_firstSet; rw [E_Pl_firstSet_0]; simp (disch := omega) only [cK_48 H, aR_ov, okO_ov, gd_true, aI_ov H.1, aL_ov H.1, mw_ov]
theorem q_Pl_trials {A : Nat → Nat} {σ : AM} (H : LC A σ) (m : VM) : M_Pl_trials (A 48) (ov 68 A m σ) = some (m.1 48 8, (ov 68 A m σ)) := by
  unfold M_Pl_trials; rw [E_Pl_trials_0]; simp (disch := omega) only [cK_48 H, aR_ov, okO_ov, gd_true, aI_ov H.1, aL_ov H.1, mw_ov]
theorem q_Rd_size {A : Nat → Nat} {σ : AM} (H : LC A σ) (m : VM) : M_Rd_size (A 1) (ov 68 A m σ) = some (m.1 1 2, (ov 68 A m σ)) := by
  unfold M_Rd_size; rw [E_Rd_size_0]; simp (disch := omega) only [cK_1 H, aR_ov, okO_ov, gd_true, aI_ov H.1, aL_ov H.1, mw_ov]
theorem q_Rs_every {A : Nat → Nat} {σ : AM} (H : LC A σ) (m : VM) : M_Rs_every (A 35) (ov 68 A m σ) = some (m.2 35 8, (ov 68 A m σ)) := by
  unfold M_Rs_every; rw [E_Rs_every_0]; simp (disch := omega) only [cK_35 H, aR_ov, okO_ov, gd_true, aI_ov H.1, aL_ov H.1, mw_ov]
theorem q_Rs_size {A : Nat → Nat} {σ : AM} (H : LC A σ) (m : VM) : M_Rs_size (A 35) (ov 68 A m σ) = some (m.1 35 5, (ov 68 A m σ)) := by
  unfold M_Rs_size; rw [E_Rs_size_0]; simp (disch := omega) only [cK_35 H, aR_ov, okO_ov, gd_true, aI_ov H.1, aL_ov H.1, mw_ov]
theorem q_Rs_some {A : Nat → Nat} {σ : AM} (H : LC A σ) (m : VM) : M_Rs_some (A 35) (ov 68 A m σ) = some (m.2 35 7, (ov 68 A m σ)) := by
  unfold M_Rs_some; rw [E_Rs_some_0]; simp (disch := omega) only [cK_35 H, aR_ov, okO_ov, gd_true, aI_ov H.1, aL_ov H.1, mw_ov]
theorem q_Rs_weights {A : Nat → Nat} {σ : AM} (H : LC A σ) (m : VM) : M_Rs_weights (A 35) (ov 68 A m σ) = some (m.1 35 6, (ov 68 A m σ)) := by
  unfold M_Rs_weights; rw [E_Rs_weights_0]; simp (disch := omega) only [cK_35 H, aR_ov, okO_ov, gd_true, aI_ov H.1, aL_ov H.1, mw_ov]
theorem q_Tw_allows {A : Nat → Nat} {σ : AM} {t : Nat} (HT : LT t A σ) (m : VM) : M_Tw_allows (A t) (ov 68 A m σ) = some (m.1 t 10, (ov 68 A m σ)) := by
  have H := HT.1; have h68 : t < 68 := by rcases HT.2 with rfl | rfl <;> decide
  unfold M_Tw_allows; rw [E_Tw_allows_0]; simp (disch := omega) only [tK HT, aR_ov, okO_ov, gd_true, aI_ov H.1 m σ h68, aL_ov H.1 m σ h68, mw_ov]
theorem q_Tw_bar {A : Nat → Nat} {σ : AM} {t : Nat} (HT : LT t A σ) (m : VM) : M_Tw_bar (A t) (ov 68 A m σ) = some (m.1 t 9, (ov 68 A m σ)) := by
  have H := HT.1; have h68 : t < 68 := by rcases HT.2 with rfl | rfl <;> decide
  unfold M_Tw_bar; rw [E_Tw_bar_0]; simp (disch := omega) only [tK HT, aR_ov, okO_ov, gd_true, aI_ov H.1 m σ h68, aL_ov H.1 m σ h68, mw_ov]
theorem q_Tw_most {A : Nat → Nat} {σ : AM} {t : Nat} (HT : LT t A σ) (m : VM) : M_Tw_most (A t) (ov 68 A m σ) = some (m.1 t 8, (ov 68 A m σ)) := by
  have H := HT.1; have h68 : t < 68 := by rcases HT.2 with rfl | rfl <;> decide
  unfold M_Tw_most; rw [E_Tw_most_0]; simp (disch := omega) only [tK HT, aR_ov, okO_ov, gd_true, aI_ov H.1 m σ h68, aL_ov H.1 m σ h68, mw_ov]
theorem q_Tw_things {A : Nat → Nat} {σ : AM} {t : Nat} (HT : LT t A σ) (m : VM) : M_Tw_things (A t) (ov 68 A m σ) = some (m.1 t 7, (ov 68 A m σ)) := by
  have H := HT.1; have h68 : t < 68 := by rcases HT.2 with rfl | rfl <;> decide
  unfold M_Tw_things; rw [E_Tw_things_0]; simp (disch := omega) only [tK HT, aR_ov, okO_ov, gd_true, aI_ov H.1 m σ h68, aL_ov H.1 m σ h68, mw_ov]
