/-! ===== the constructors ===== -/
theorem zz0 : (0 : Int32).toNatClampNeg = 0 := by decide +kernel
theorem zz1 : (1 : Int32).toNatClampNeg = 1 := by decide +kernel
theorem zz2 : (2 : Int32).toNatClampNeg = 2 := by decide +kernel
theorem zz3 : (3 : Int32).toNatClampNeg = 3 := by decide +kernel
theorem zz4 : (4 : Int32).toNatClampNeg = 4 := by decide +kernel
theorem zz5 : (5 : Int32).toNatClampNeg = 5 := by decide +kernel
theorem zz6 : (6 : Int32).toNatClampNeg = 6 := by decide +kernel
theorem zz7 : (7 : Int32).toNatClampNeg = 7 := by decide +kernel
theorem zz8 : (8 : Int32).toNatClampNeg = 8 := by decide +kernel
theorem zz9 : (9 : Int32).toNatClampNeg = 9 := by decide +kernel
theorem zz10 : (10 : Int32).toNatClampNeg = 10 := by decide +kernel
theorem zz12 : (12 : Int32).toNatClampNeg = 12 := by decide +kernel
theorem zz15 : (15 : Int32).toNatClampNeg = 15 := by decide +kernel
theorem zz32 : (32 : Int32).toNatClampNeg = 32 := by decide +kernel
theorem zz60 : (60 : Int32).toNatClampNeg = 60 := by decide +kernel
theorem zz61 : (61 : Int32).toNatClampNeg = 61 := by decide +kernel
theorem zz62 : (62 : Int32).toNatClampNeg = 62 := by decide +kernel
theorem zz64 : (64 : Int32).toNatClampNeg = 64 := by decide +kernel
theorem zz1000 : (1000 : Int32).toNatClampNeg = 1000 := by decide +kernel
theorem zz1002 : (1002 : Int32).toNatClampNeg = 1002 := by decide +kernel
theorem zz1100 : (1100 : Int32).toNatClampNeg = 1100 := by decide +kernel
theorem zz2200 : (2200 : Int32).toNatClampNeg = 2200 := by decide +kernel
theorem zz4096 : (4096 : Int32).toNatClampNeg = 4096 := by decide +kernel
theorem zz16384 : (16384 : Int32).toNatClampNeg = 16384 := by decide +kernel
theorem zz32768 : (32768 : Int32).toNatClampNeg = 32768 := by decide +kernel
theorem fill3x (σ : AM) (T : TBx) {i : Nat} (hi : i < T.length) (hk : (ent T i).1 = 101) (hn : (ent T i).2.1 = 3) (v : Int32) : M_JArr_fill2 (aZ σ + i) v (hpx σ T) = some ((), hpx σ (mdf (mdf (mdf T i (adI 0 v)) i (adI 1 v)) i (adI 2 v))) := by
  have h1 : i < (mdf T i (adI 0 v)).length := by rw [mdf_len]; exact hi
  have h2 : i < (mdf (mdf T i (adI 0 v)) i (adI 1 v)).length := by rw [mdf_len]; exact h1
  have n0 : aN (hpx σ T) (aZ σ + i) = 3 := (hx_N σ T hi).trans hn
  have k1 : (ent (mdf T i (adI 0 v)) i) = adI 0 v (ent T i) := by rw [mdf_ent _ _ _ _ hi, if_pos rfl]
  have k2 : (ent (mdf (mdf T i (adI 0 v)) i (adI 1 v)) i) = adI 1 v (adI 0 v (ent T i)) := by rw [mdf_ent _ _ _ _ h1, if_pos rfl, k1]
  have n1 : aN (hpx σ (mdf T i (adI 0 v))) (aZ σ + i) = 3 := (hx_N σ _ h1).trans (by rw [k1]; exact hn)
  have n2 : aN (hpx σ (mdf (mdf T i (adI 0 v)) i (adI 1 v))) (aZ σ + i) = 3 := (hx_N σ _ h2).trans (by rw [k2]; exact hn)
  have o0 := hx_ok σ T hi hk
  have o1 := hx_ok σ (mdf T i (adI 0 v)) (k := 101) h1 (by rw [k1]; exact hk)
  have o2 := hx_ok σ (mdf (mdf T i (adI 0 v)) i (adI 1 v)) (k := 101) h2 (by rw [k2]; exact hk)
  have e3 : nI 3 = (3 : Int32) := by decide
  have c0 : (0 : Int32) < 3 := by decide
  have c1 : (1 : Int32) < 3 := by decide
  have c2 : (2 : Int32) < 3 := by decide
  have c3 : ¬ (3 : Int32) < 3 := by decide
  have a0 : (0 : Int32) + (1 : Int32) = 1 := by decide
  have a1 : (1 : Int32) + (1 : Int32) = 2 := by decide
  have a2 : (2 : Int32) + (1 : Int32) = 3 := by decide
  have i0 : inB (0 : Int32) 3 = true := by decide
  have i1 : inB (1 : Int32) 3 = true := by decide
  have i2 : inB (2 : Int32) 3 = true := by decide
  have y0 : (0 : Int32).toNatClampNeg = 0 := by decide
  have y1 : (1 : Int32).toNatClampNeg = 1 := by decide
  have y2 : (2 : Int32).toNatClampNeg = 2 := by decide
  unfold M_JArr_fill2
  rw [E_JArr_fill2_0, o0, gd_true, n0, e3, letT_eq, E_JArr_fill2_1, if_pos c0, o0, gd_true, n0, i0, gd_true, y0, hx_sI σ T hi, letT_eq, a0, E_JArr_fill2_1, if_pos c1, o1, gd_true, n1, i1, gd_true, y1, hx_sI σ _ h1, letT_eq, a1, E_JArr_fill2_1, if_pos c2, o2, gd_true, n2, i2, gd_true, y2, hx_sI σ _ h2, letT_eq, a2, E_JArr_fill2_1, if_neg c3]
  exact mw_of (by show aZ σ + T.length ≤ aZ σ + (mdf (mdf (mdf T i _) i _) i _).length; rw [mdf_len, mdf_len, mdf_len]; exact Nat.le_refl _) (by show aU σ + suN T ≤ aU σ + suN (mdf (mdf (mdf T i _) i _) i _); rw [suN_mdf (adI 2 v) (fun _ => rfl), suN_mdf (adI 1 v) (fun _ => rfl), suN_mdf (adI 0 v) (fun _ => rfl)]; exact Nat.le_refl _)
