/-! ===== the reference cuts the TAPE: the outer loop ===== -/
def tkA (t : PD) (k : Nat) (m : VM) : Prop := ∀ i, i < k → tkE t i m
theorem tkE_w {t : PD} {k i : Nat} {m : VM} (h : tkE t i m) (hi : i ≠ k) (s p : Int32) (v : Int64) : tkE t i (sW (sV (sV m 3 k p) 2 k s) 4 k v) := by
  obtain ⟨h1, h2, h3⟩ := h
  refine ⟨?_, ?_, fun z => ?_⟩
  · rw [sW_1, sV_eq, if_neg hi, sV_ne _ _ _ _ (by decide)]; exact h1
  · rw [sW_1, sV_ne _ _ _ _ (by decide), sV_eq, if_neg hi]; exact h2
  · rw [sW_eq, if_neg hi]; exact h3 z
theorem tkE_n {t : PD} {k : Nat} {m : VM} (s : Int32) (v : Int64) (hs : s = iI (soK t k : Int)) (hv : vaE t k v) : tkE t k (sW (sV (sV m 3 k (iI (plT t k : Int))) 2 k s) 4 k v) := by
  refine ⟨?_, ?_, fun _ => ?_⟩
  · rw [sW_1, sV_eq, if_pos rfl]; exact hs
  · rw [sW_1, sV_ne _ _ _ _ (by decide), sV_eq, if_pos rfl]
  · rw [sW_eq, if_pos rfl]; exact hv
theorem tkA_s {t : PD} {k : Nat} {m : VM} (h : tkA t k m) (s : Int32) (v : Int64) (hs : s = iI (soK t k : Int)) (hv : vaE t k v) : tkA t (k + 1) (sW (sV (sV m 3 k (iI (plT t k : Int))) 2 k s) 4 k v) := fun i hi => by
  by_cases e : i = k
  · rw [e]; exact tkE_n s v hs hv
  · exact tkE_w (h i (by omega)) e _ _ _
theorem tpM_w {t : PD} {k : Nat} {m : VM} (h : tpM t m) (p : Int32) : tpM t (sV m 3 k p) := ⟨by rw [sV_ne _ _ _ _ (by decide)]; exact h.1, fun j hj => by rw [sV_ne _ _ _ _ (by decide)]; exact h.2 j hj⟩
theorem tpM_c {t : PD} {m m' : VM} (h : tpM t m) (k : OnC m m') (h3 : m'.1 0 3 = m.1 0 3) : tpM t m' := ⟨by rw [h3]; exact h.1, fun j hj => by rw [k.1 1 (by decide) (by decide) (by decide)]; exact h.2 j hj⟩
