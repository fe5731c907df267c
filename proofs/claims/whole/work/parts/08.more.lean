theorem lq_inl {S R : Type} (g : S → Option R) (s : S) : lpK g (.inl s) = g s := Eq.trans (lpK_inl g s) rfl
theorem lq_inr {S R : Type} (g : S → Option R) (r : Option R) : lpK g (.inr r) = r := Eq.trans (lpK_inr g r) rfl
theorem lq_let {S R A : Type} (g : S → Option R) (e : A) (f : A → S ⊕ Option R) : lpK g (letT e f) = letT e (fun x => lpK g (f x)) := Eq.trans (lpK_let g e f) rfl
def mxI (x y : Int32) : Int32 := if x < y then y else x
def mnI (x y : Int32) : Int32 := if y < x then y else x
theorem wMax : Cond.code Lib.Math.max.name Lib.Math.max.code 2 (some .int) ∈ lw_ok := w624
theorem wMin : Cond.code Lib.Math.min.name Lib.Math.min.code 2 (some .int) ∈ lw_ok := w640
theorem sMax : Cond.static Lib.Math.max.name ∈ lw_ok := w623
theorem sMin : Cond.static Lib.Math.min.name ∈ lw_ok := w639
theorem iMath : Cond.initialized "java/lang/Math" ∈ lw_ok := w133
def cpI (σ : AM) (a sp b dp n : Nat) : AM := (fun q j => if q = b then va_cpy (aI σ a) (aI σ b) sp dp n j else aI σ q j, σ.2)
def cpL (σ : AM) (a sp b dp n : Nat) : AM := (σ.1, fun q j => if q = b then va_cpy (aL σ a) (aL σ b) sp dp n j else aL σ q j, σ.2.2)
theorem nfw_33 : nativeFrameWords "java/lang/System" "arraycopy" 5 + 11 ≤ 33 := by decide +kernel
def okC (σ : AM) (a b : Nat) (sp dp n : Int32) : Bool := decide (¬ sp < 0) && (decide (¬ dp < 0) && (decide (¬ n < 0) && (decide (sp.toNatClampNeg + n.toNatClampNeg ≤ aN σ a) && decide (dp.toNatClampNeg + n.toNatClampNeg ≤ aN σ b))))
theorem okC_iff {σ : AM} {a b : Nat} {sp dp n : Int32} : okC σ a b sp dp n = true ↔ ¬ sp < 0 ∧ ¬ dp < 0 ∧ ¬ n < 0 ∧ sp.toNatClampNeg + n.toNatClampNeg ≤ aN σ a ∧ dp.toNatClampNeg + n.toNatClampNeg ≤ aN σ b := by
  unfold okC
  rw [Bool.and_eq_true, Bool.and_eq_true, Bool.and_eq_true, Bool.and_eq_true, decide_eq_true_eq, decide_eq_true_eq, decide_eq_true_eq, decide_eq_true_eq, decide_eq_true_eq]
/-- an array's row is written as a whole -/
theorem rp_row {G : GX} {σ σ1 : AM} {H H1 : Heap} {a t : Nat} (hR : RP G σ H) (hk : aK σ a = 100 + t) (e1 : H1[a]? = some (arrV (G.1.2 t) (aN σ a) (aV t σ1 a))) (e2 : H1.size = H.size) (e3 : ∀ q, q ≠ a → H1[q]? = H[q]?)
    (hK1 : ∀ q, aK σ1 q = aK σ q) (hN1 : ∀ q, aN σ1 q = aN σ q) (hZ1 : aZ σ1 = aZ σ)
    (hoth : ∀ q, q ≠ a → (∀ cj j, fV cj σ1 q j = fV cj σ q j) ∧ ∀ t j, aV t σ1 q j = aV t σ q j) : RP G σ1 H1 := by
  obtain ⟨r1, r2, r3, r4, r5, r6⟩ := hR
  have haB := r5 a (by rw [hk]; omega)
  refine ⟨r1, by rw [e2, hZ1]; exact r2, by rw [hZ1]; exact r3, fun q hq => by rw [e3 q (by omega)]; exact r4 q hq, fun q hq => by rw [hZ1]; exact r5 q (by rw [← hK1]; exact hq), fun q => ?_⟩
  by_cases hqa : q = a
  · subst hqa
    refine ⟨fun cj r' hk' hc' => ?_, fun t' ht => ?_⟩
    · rw [hK1, hk] at hk'
      have hlt : cj < clA.length := (List.getElem?_eq_some_iff.mp hc').1
      have : clA.length = 12 := rfl
      omega
    · rw [hK1, hk] at ht
      have htt : t' = t := by omega
      subst htt
      rw [e1, hN1]
  · obtain ⟨h1, h2⟩ := hoth q hqa
    refine ⟨fun cj r' hk' hc' => ?_, fun t ht => ?_⟩
    · rw [hK1] at hk'
      exact (((r6 q).1 cj r' hk' hc').kept (e3 q hqa)).to (fun j _ => (h1 cj j).symm)
    · rw [hK1] at ht
      rw [e3 q hqa, (r6 q).2 t ht, hN1, show aV t σ1 q = aV t σ q from funext (h2 t)]
section MR
variable {ρ : Type} {QF : ρ → AM → State → Prop} {G : GX} {p : Program} {l : Launch} {e : Env} {s : State} {m : MethodId} {args : Array Value} {below : List Frame} {meth : Method} {c : Code} {d z0 u0 nL : Nat} {X : Option (ρ × AM)} {pc : Nat} {lv : List (Nat × Value)} {st : List Value} {σ : AM} {cc : ByteArray} {own : String} {ret : Option FieldType}
variable {S : Type} {g : S → Option (ρ × AM)} {A B : S ⊕ Option (ρ × AM)}
theorem x_lve {lv' : List (Nat × Value)} (h : lv = lv') (k : VX QF G p l e s m args below meth c d z0 u0 nL X pc lv' st σ) : VX QF G p l e s m args below meth c d z0 u0 nL X pc lv st σ := h ▸ k
theorem fr_K {σ1 : AM} {k n : Nat} (h : σ1 = nw σ k n) : aK σ1 (aZ σ) = k := by rw [h, aK_nw, if_pos rfl]
theorem x_gd {b : Bool} (k : b = true → VX QF G p l e s m args below meth c d z0 u0 nL (lpK g A) pc lv st σ) : VX QF G p l e s m args below meth c d z0 u0 nL (lpK g (gdT b A)) pc lv st σ := by
  cases b with
  | true => exact k rfl
  | false => exact x_none
theorem x_die : VX QF G p l e s m args below meth c d z0 u0 nL (lpK g (.inr none)) pc lv st σ := x_none
theorem x_split {P : Prop} [Decidable P] (ka : P → VX QF G p l e s m args below meth c d z0 u0 nL (lpK g A) pc lv st σ) (kb : ¬ P → VX QF G p l e s m args below meth c d z0 u0 nL (lpK g B) pc lv st σ) : VX QF G p l e s m args below meth c d z0 u0 nL (lpK g (if P then A else B)) pc lv st σ := by
  by_cases h : P
  · rw [if_pos h]; exact ka h
  · rw [if_neg h]; exact kb h
theorem x_letI {x : Int32} {f : Int32 → S ⊕ Option (ρ × AM)} (k : ∀ y : Int32, y = x → VX QF G p l e s m args below meth c d z0 u0 nL (lpK g (f y)) pc lv (.int y :: st) σ) : VX QF G p l e s m args below meth c d z0 u0 nL (lpK g (letT x f)) pc lv (.int x :: st) σ := k x rfl
theorem x_letJ {x : Int64} {f : Int64 → S ⊕ Option (ρ × AM)} (k : ∀ y : Int64, y = x → VX QF G p l e s m args below meth c d z0 u0 nL (lpK g (f y)) pc lv (.long y :: st) σ) : VX QF G p l e s m args below meth c d z0 u0 nL (lpK g (letT x f)) pc lv (.long x :: st) σ := k x rfl
theorem x_letR {x : Nat} {f : Nat → S ⊕ Option (ρ × AM)} (k : ∀ y : Nat, y = x → VX QF G p l e s m args below meth c d z0 u0 nL (lpK g (f y)) pc lv (.ref y :: st) σ) : VX QF G p l e s m args below meth c d z0 u0 nL (lpK g (letT x f)) pc lv (.ref x :: st) σ := k x rfl
theorem x_letS {f : AM → S ⊕ Option (ρ × AM)} (k : ∀ y : AM, y = σ → VX QF G p l e s m args below meth c d z0 u0 nL (lpK g (f y)) pc lv st y) : VX QF G p l e s m args below meth c d z0 u0 nL (lpK g (letT σ f)) pc lv st σ := k σ rfl
theorem x_tabI (C : Cx G p s m args meth c cc nL own ret) {dflt lo hi : Int} {offs : Array Int} {len tgt : Nat} {x y : Int32} {off : Int} (hx : x = y) (hd : decode cc pc = .ok (.tableswitch dflt lo hi offs, len)) (h1 : ¬ y.toInt < lo) (h2 : ¬ hi < y.toInt) (ho : offs[(y.toInt - lo).toNat]? = some off) (ht : (pc : Int) + off = (tgt : Int)) (k : VX QF G p l e s m args below meth c d z0 u0 nL X tgt lv st σ) : VX QF G p l e s m args below meth c d z0 u0 nL X pc lv (.int x :: st) σ := fun r σ' h =>
  ⟨(k r σ' h).1, fun H locs ls q1 q2 hR hL hl => by subst hx; exact lv_tableIn C.1 C.2.1 hd h1 h2 ho ht ((k r σ' h).2 H locs ls q1 q2 hR hL hl)⟩
theorem x_tabO (C : Cx G p s m args meth c cc nL own ret) {dflt lo hi : Int} {offs : Array Int} {len tgt : Nat} {x : Int32} (hd : decode cc pc = .ok (.tableswitch dflt lo hi offs, len)) (hx : x.toInt < lo ∨ hi < x.toInt) (ht : (pc : Int) + dflt = (tgt : Int)) (k : VX QF G p l e s m args below meth c d z0 u0 nL X tgt lv st σ) : VX QF G p l e s m args below meth c d z0 u0 nL X pc lv (.int x :: st) σ := fun r σ' h =>
  ⟨(k r σ' h).1, fun H locs ls q1 q2 hR hL hl => lv_tableOut C.1 C.2.1 hd hx ht ((k r σ' h).2 H locs ls q1 q2 hR hL hl)⟩
theorem x_look (C : Cx G p s m args meth c cc nL own ret) {dflt : Int} {ps : Array (Int × Int)} {len tgt : Nat} {x : Int32} {off : Int} (hd : decode cc pc = .ok (.lookupswitch dflt ps, len)) (hp : (ps.toList.zip (ps.toList.drop 1)).all (fun (a, next) => a.1 < next.1) = true) (ho : Op.lookupswitch.offset ps.toList dflt x.toInt = off) (ht : (pc : Int) + off = (tgt : Int)) (k : VX QF G p l e s m args below meth c d z0 u0 nL X tgt lv st σ) : VX QF G p l e s m args below meth c d z0 u0 nL X pc lv (.int x :: st) σ := fun r σ' h =>
  ⟨(k r σ' h).1, fun H locs ls q1 q2 hR hL hl => lv_lookup C.1 C.2.1 hd hp ho ht ((k r σ' h).2 H locs ls q1 q2 hR hL hl)⟩
theorem x_gs0 (C : Cx G p s m args meth c cc nL own ret) {index : Nat} (hw : Cond.fieldLink own index "BellPlate$Reader" "WORDS" "[J" ∈ lw_ok) (hd : decode cc pc = .ok (.getstatic index, 3)) (kk : VX QF G p l e s m args below meth c d z0 u0 nL X (pc + 3) lv (.ref (G.2.2.2 0) :: st) σ) : VX QF G p l e s m args below meth c d z0 u0 nL X pc lv st σ := fun r σ' h =>
  ⟨(kk r σ' h).1, fun H locs ls h1 h2 hR hL hl => by
    obtain ⟨cf, kf, fi, f, a, cell, q1, q2, q3, q4, q5, q6, q7, q8⟩ := C.2.2.2.2.2.1.2.1.1.1
    exact W.gets C.1 C.2.1 C.2.2.2.1 (C.2.2.2.2.1 _ hw) q1 q2 q3 q4 (by rw [hR.2.2.2.1 a (by omega)]; exact q5) (fun e => by rw [e] at q6; cases q6) q7 rfl hd ((kk r σ' h).2 H locs ls h1 h2 hR hL hl)⟩
theorem x_sl0 (C : Cx G p s m args meth c cc nL own ret) {i : Int32} (hin : vp_in i 10) (hd : decode cc pc = .ok (.laload, 1)) (kk : VX QF G p l e s m args below meth c d z0 u0 nL X (pc + 1) lv (Value.long (tbWORDS i.toNatClampNeg) :: st) σ) : VX QF G p l e s m args below meth c d z0 u0 nL X pc lv (.int i :: .ref (G.2.2.2 0) :: st) σ := fun r σ' h =>
  ⟨(kk r σ' h).1, fun H locs ls h1 h2 hR hL hl => by
    obtain ⟨cell, q1, q2, q3, q4, q5, q6, q7⟩ := C.2.2.2.2.2.1.2.1.1.2
    have hlt : i.toNatClampNeg < 10 := Nat.not_le.mp fun q => hin (Or.inr q)
    exact W.lald (v := Value.long (tbWORDS i.toNatClampNeg)) C.1 C.2.1 (by rw [hR.2.2.2.1 _ (by omega)]; exact q1) q2 q3 (fun q => hin (q.elim Or.inl (fun q => Or.inr (Nat.le_trans q4 q)))) (q6 _ hlt) rfl rfl hd ((kk r σ' h).2 H locs ls h1 h2 hR hL hl)⟩
theorem x_sn0 (C : Cx G p s m args meth c cc nL own ret) (hd : decode cc pc = .ok (.arraylength, 1)) (kk : VX QF G p l e s m args below meth c d z0 u0 nL X (pc + 1) lv (.int 10 :: st) σ) : VX QF G p l e s m args below meth c d z0 u0 nL X pc lv (.ref (G.2.2.2 0) :: st) σ := fun r σ' h =>
  ⟨(kk r σ' h).1, fun H locs ls h1 h2 hR hL hl => by
    obtain ⟨cell, q1, q2, q3, q4, q5, q6, q7⟩ := C.2.2.2.2.2.1.2.1.1.2
    exact W.alen (n := 10) C.1 C.2.1 (by rw [hR.2.2.2.1 _ (by omega)]; exact q1) q2 q5 rfl rfl hd ((kk r σ' h).2 H locs ls h1 h2 hR hL hl)⟩
theorem x_gs1 (C : Cx G p s m args meth c cc nL own ret) {index : Nat} (hw : Cond.fieldLink own index "BellPlate$Sets" "WITHOUT" "[J" ∈ lw_ok) (hd : decode cc pc = .ok (.getstatic index, 3)) (kk : VX QF G p l e s m args below meth c d z0 u0 nL X (pc + 3) lv (.ref (G.2.2.2 1) :: st) σ) : VX QF G p l e s m args below meth c d z0 u0 nL X pc lv st σ := fun r σ' h =>
  ⟨(kk r σ' h).1, fun H locs ls h1 h2 hR hL hl => by
    obtain ⟨cf, kf, fi, f, a, cell, q1, q2, q3, q4, q5, q6, q7, q8⟩ := C.2.2.2.2.2.1.2.1.2.1.1
    exact W.gets C.1 C.2.1 C.2.2.2.1 (C.2.2.2.2.1 _ hw) q1 q2 q3 q4 (by rw [hR.2.2.2.1 a (by omega)]; exact q5) (fun e => by rw [e] at q6; cases q6) q7 rfl hd ((kk r σ' h).2 H locs ls h1 h2 hR hL hl)⟩
theorem x_sl1 (C : Cx G p s m args meth c cc nL own ret) {i : Int32} (hin : vp_in i 6) (hd : decode cc pc = .ok (.laload, 1)) (kk : VX QF G p l e s m args below meth c d z0 u0 nL X (pc + 1) lv (Value.long (tbWITHOUT i.toNatClampNeg) :: st) σ) : VX QF G p l e s m args below meth c d z0 u0 nL X pc lv (.int i :: .ref (G.2.2.2 1) :: st) σ := fun r σ' h =>
  ⟨(kk r σ' h).1, fun H locs ls h1 h2 hR hL hl => by
    obtain ⟨cell, q1, q2, q3, q4, q5, q6, q7⟩ := C.2.2.2.2.2.1.2.1.2.1.2
    have hlt : i.toNatClampNeg < 6 := Nat.not_le.mp fun q => hin (Or.inr q)
    exact W.lald (v := Value.long (tbWITHOUT i.toNatClampNeg)) C.1 C.2.1 (by rw [hR.2.2.2.1 _ (by omega)]; exact q1) q2 q3 (fun q => hin (q.elim Or.inl (fun q => Or.inr (Nat.le_trans q4 q)))) (q6 _ hlt) rfl rfl hd ((kk r σ' h).2 H locs ls h1 h2 hR hL hl)⟩
theorem x_sn1 (C : Cx G p s m args meth c cc nL own ret) (hd : decode cc pc = .ok (.arraylength, 1)) (kk : VX QF G p l e s m args below meth c d z0 u0 nL X (pc + 1) lv (.int 6 :: st) σ) : VX QF G p l e s m args below meth c d z0 u0 nL X pc lv (.ref (G.2.2.2 1) :: st) σ := fun r σ' h =>
  ⟨(kk r σ' h).1, fun H locs ls h1 h2 hR hL hl => by
    obtain ⟨cell, q1, q2, q3, q4, q5, q6, q7⟩ := C.2.2.2.2.2.1.2.1.2.1.2
    exact W.alen (n := 6) C.1 C.2.1 (by rw [hR.2.2.2.1 _ (by omega)]; exact q1) q2 q5 rfl rfl hd ((kk r σ' h).2 H locs ls h1 h2 hR hL hl)⟩
theorem x_gs2 (C : Cx G p s m args meth c cc nL own ret) {index : Nat} (hw : Cond.fieldLink own index "BellPlate$Sets" "OF_SIZE" "[J" ∈ lw_ok) (hd : decode cc pc = .ok (.getstatic index, 3)) (kk : VX QF G p l e s m args below meth c d z0 u0 nL X (pc + 3) lv (.ref (G.2.2.2 2) :: st) σ) : VX QF G p l e s m args below meth c d z0 u0 nL X pc lv st σ := fun r σ' h =>
  ⟨(kk r σ' h).1, fun H locs ls h1 h2 hR hL hl => by
    obtain ⟨cf, kf, fi, f, a, cell, q1, q2, q3, q4, q5, q6, q7, q8⟩ := C.2.2.2.2.2.1.2.1.2.2.1.1
    exact W.gets C.1 C.2.1 C.2.2.2.1 (C.2.2.2.2.1 _ hw) q1 q2 q3 q4 (by rw [hR.2.2.2.1 a (by omega)]; exact q5) (fun e => by rw [e] at q6; cases q6) q7 rfl hd ((kk r σ' h).2 H locs ls h1 h2 hR hL hl)⟩
theorem x_sl2 (C : Cx G p s m args meth c cc nL own ret) {i : Int32} (hin : vp_in i 7) (hd : decode cc pc = .ok (.laload, 1)) (kk : VX QF G p l e s m args below meth c d z0 u0 nL X (pc + 1) lv (Value.long (tbOF_SIZE i.toNatClampNeg) :: st) σ) : VX QF G p l e s m args below meth c d z0 u0 nL X pc lv (.int i :: .ref (G.2.2.2 2) :: st) σ := fun r σ' h =>
  ⟨(kk r σ' h).1, fun H locs ls h1 h2 hR hL hl => by
    obtain ⟨cell, q1, q2, q3, q4, q5, q6, q7⟩ := C.2.2.2.2.2.1.2.1.2.2.1.2
    have hlt : i.toNatClampNeg < 7 := Nat.not_le.mp fun q => hin (Or.inr q)
    exact W.lald (v := Value.long (tbOF_SIZE i.toNatClampNeg)) C.1 C.2.1 (by rw [hR.2.2.2.1 _ (by omega)]; exact q1) q2 q3 (fun q => hin (q.elim Or.inl (fun q => Or.inr (Nat.le_trans q4 q)))) (q6 _ hlt) rfl rfl hd ((kk r σ' h).2 H locs ls h1 h2 hR hL hl)⟩
theorem x_sn2 (C : Cx G p s m args meth c cc nL own ret) (hd : decode cc pc = .ok (.arraylength, 1)) (kk : VX QF G p l e s m args below meth c d z0 u0 nL X (pc + 1) lv (.int 7 :: st) σ) : VX QF G p l e s m args below meth c d z0 u0 nL X pc lv (.ref (G.2.2.2 2) :: st) σ := fun r σ' h =>
  ⟨(kk r σ' h).1, fun H locs ls h1 h2 hR hL hl => by
    obtain ⟨cell, q1, q2, q3, q4, q5, q6, q7⟩ := C.2.2.2.2.2.1.2.1.2.2.1.2
    exact W.alen (n := 7) C.1 C.2.1 (by rw [hR.2.2.2.1 _ (by omega)]; exact q1) q2 q5 rfl rfl hd ((kk r σ' h).2 H locs ls h1 h2 hR hL hl)⟩
theorem x_gs3 (C : Cx G p s m args meth c cc nL own ret) {index : Nat} (hw : Cond.fieldLink own index "BellPlate$Power" "FACTORIALS" "[I" ∈ lw_ok) (hd : decode cc pc = .ok (.getstatic index, 3)) (kk : VX QF G p l e s m args below meth c d z0 u0 nL X (pc + 3) lv (.ref (G.2.2.2 3) :: st) σ) : VX QF G p l e s m args below meth c d z0 u0 nL X pc lv st σ := fun r σ' h =>
  ⟨(kk r σ' h).1, fun H locs ls h1 h2 hR hL hl => by
    obtain ⟨cf, kf, fi, f, a, cell, q1, q2, q3, q4, q5, q6, q7, q8⟩ := C.2.2.2.2.2.1.2.1.2.2.2.1
    exact W.gets C.1 C.2.1 C.2.2.2.1 (C.2.2.2.2.1 _ hw) q1 q2 q3 q4 (by rw [hR.2.2.2.1 a (by omega)]; exact q5) (fun e => by rw [e] at q6; cases q6) q7 rfl hd ((kk r σ' h).2 H locs ls h1 h2 hR hL hl)⟩
theorem x_sl3 (C : Cx G p s m args meth c cc nL own ret) {i : Int32} (hin : vp_in i 7) (hd : decode cc pc = .ok (.iaload, 1)) (kk : VX QF G p l e s m args below meth c d z0 u0 nL X (pc + 1) lv (Value.int (tbFACTORIALS i.toNatClampNeg) :: st) σ) : VX QF G p l e s m args below meth c d z0 u0 nL X pc lv (.int i :: .ref (G.2.2.2 3) :: st) σ := fun r σ' h =>
  ⟨(kk r σ' h).1, fun H locs ls h1 h2 hR hL hl => by
    obtain ⟨cell, q1, q2, q3, q4, q5, q6, q7⟩ := C.2.2.2.2.2.1.2.1.2.2.2.2
    have hlt : i.toNatClampNeg < 7 := Nat.not_le.mp fun q => hin (Or.inr q)
    exact W.iald (v := Value.int (tbFACTORIALS i.toNatClampNeg)) C.1 C.2.1 (by rw [hR.2.2.2.1 _ (by omega)]; exact q1) q2 q3 (fun q => hin (q.elim Or.inl (fun q => Or.inr (Nat.le_trans q4 q)))) (q6 _ hlt) rfl rfl hd ((kk r σ' h).2 H locs ls h1 h2 hR hL hl)⟩
theorem x_sn3 (C : Cx G p s m args meth c cc nL own ret) (hd : decode cc pc = .ok (.arraylength, 1)) (kk : VX QF G p l e s m args below meth c d z0 u0 nL X (pc + 1) lv (.int 7 :: st) σ) : VX QF G p l e s m args below meth c d z0 u0 nL X pc lv (.ref (G.2.2.2 3) :: st) σ := fun r σ' h =>
  ⟨(kk r σ' h).1, fun H locs ls h1 h2 hR hL hl => by
    obtain ⟨cell, q1, q2, q3, q4, q5, q6, q7⟩ := C.2.2.2.2.2.1.2.1.2.2.2.2
    exact W.alen (n := 7) C.1 C.2.1 (by rw [hR.2.2.2.1 _ (by omega)]; exact q1) q2 q5 rfl rfl hd ((kk r σ' h).2 H locs ls h1 h2 hR hL hl)⟩
theorem x_ldS (C : Cx G p s m args meth c cc nL own ret) (how : own = "BellPlate$Reader") (hd : decode cc pc = .ok (.ldc 95, 2)) (kk : VX QF G p l e s m args below meth c d z0 u0 nL X (pc + 2) lv (.ref (G.2.2.2 4) :: st) σ) : VX QF G p l e s m args below meth c d z0 u0 nL X pc lv st σ := fun r σ' h =>
  ⟨(kk r σ' h).1, fun H locs ls h1 h2 hR hL hl => by
    subst how
    exact va_ldcS C.1 C.2.1 C.2.2.2.1 C.2.2.2.2.2.1.2.2.1 hd ((kk r σ' h).2 H locs ls h1 h2 hR hL hl)⟩
theorem x_sgV (C : Cx G p s m args meth c cc nL own ret) {index : Nat} (hw : Cond.fieldLink own index "java/lang/String" "value" "[B" ∈ lw_ok) (hd : decode cc pc = .ok (.getfield index, 3)) (kk : VX QF G p l e s m args below meth c d z0 u0 nL X (pc + 3) lv (.ref (G.2.2.2 5) :: st) σ) : VX QF G p l e s m args below meth c d z0 u0 nL X pc lv (.ref (G.2.2.2 4) :: st) σ := fun r σ' h =>
  ⟨(kk r σ' h).1, fun H locs ls h1 h2 hR hL hl => by
    obtain ⟨cf, k, fi, f, cell, q1, q2, q3, q4, q5, q6⟩ := (C.2.2.2.2.2.1.2.2.2.1.1 0 (by decide)).2.2.1
    exact W.getf C.1 C.2.1 C.2.2.2.1 (C.2.2.2.2.1 _ hw) q1 q2 (by rw [hR.2.2.2.1 _ (Nat.not_le.mp q6)]; exact q3) q4 q5 rfl rfl hd ((kk r σ' h).2 H locs ls h1 h2 hR hL hl)⟩
theorem x_sgC (C : Cx G p s m args meth c cc nL own ret) {index : Nat} (hw : Cond.fieldLink own index "java/lang/String" "coder" "B" ∈ lw_ok) (hd : decode cc pc = .ok (.getfield index, 3)) (kk : VX QF G p l e s m args below meth c d z0 u0 nL X (pc + 3) lv (.int 0 :: st) σ) : VX QF G p l e s m args below meth c d z0 u0 nL X pc lv (.ref (G.2.2.2 4) :: st) σ := fun r σ' h =>
  ⟨(kk r σ' h).1, fun H locs ls h1 h2 hR hL hl => by
    obtain ⟨cf, k, fi, f, cell, q1, q2, q3, q4, q5, q6⟩ := (C.2.2.2.2.2.1.2.2.2.1.1 0 (by decide)).2.1
    exact W.getf C.1 C.2.1 C.2.2.2.1 (C.2.2.2.2.1 _ hw) q1 q2 (by rw [hR.2.2.2.1 _ (Nat.not_le.mp q6)]; exact q3) q4 q5 rfl rfl hd ((kk r σ' h).2 H locs ls h1 h2 hR hL hl)⟩
theorem x_gsC (C : Cx G p s m args meth c cc nL own ret) {index : Nat} (hw : Cond.fieldLink own index "java/lang/String" "COMPACT_STRINGS" "Z" ∈ lw_ok) (hd : decode cc pc = .ok (.getstatic index, 3)) (kk : VX QF G p l e s m args below meth c d z0 u0 nL X (pc + 3) lv (.int 1 :: st) σ) : VX QF G p l e s m args below meth c d z0 u0 nL X pc lv st σ := fun r σ' h =>
  ⟨(kk r σ' h).1, fun H locs ls h1 h2 hR hL hl => by
    obtain ⟨cf, kf, fi, f, a, cell, q1, q2, q3, q4, q5, q6, q7, q8⟩ := C.2.2.2.2.2.1.2.2.2.2
    exact W.gets C.1 C.2.1 C.2.2.2.1 (C.2.2.2.2.1 _ hw) q1 q2 q3 q4 (by rw [hR.2.2.2.1 a (by omega)]; exact q5) (fun e => by rw [e] at q6; cases q6) q7 rfl hd ((kk r σ' h).2 H locs ls h1 h2 hR hL hl)⟩
theorem x_sl5 (C : Cx G p s m args meth c cc nL own ret) {i : Int32} (hin : vp_in i 8) (hd : decode cc pc = .ok (.baload, 1)) (kk : VX QF G p l e s m args below meth c d z0 u0 nL X (pc + 1) lv (.int (tbSIGNS i.toNatClampNeg) :: st) σ) : VX QF G p l e s m args below meth c d z0 u0 nL X pc lv (.int i :: .ref (G.2.2.2 5) :: st) σ := fun r σ' h =>
  ⟨(kk r σ' h).1, fun H locs ls h1 h2 hR hL hl => by
    obtain ⟨cell, q1, q2, q3, q4, q5, q6, q7⟩ := (C.2.2.2.2.2.1.2.2.2.1.1 0 (by decide)).2.2.2
    have hlt : i.toNatClampNeg < 8 := Nat.not_le.mp fun q => hin (Or.inr q)
    exact W.bald (v := Value.int (tbSIGNS i.toNatClampNeg)) C.1 C.2.1 (by rw [hR.2.2.2.1 _ (Nat.not_le.mp q7)]; exact q1) q2 q3 (fun q => hin (q.elim Or.inl (fun q => Or.inr (Nat.le_trans q4 q)))) (q6 _ hlt) rfl rfl hd ((kk r σ' h).2 H locs ls h1 h2 hR hL hl)⟩
theorem x_sn5 (C : Cx G p s m args meth c cc nL own ret) (hd : decode cc pc = .ok (.arraylength, 1)) (kk : VX QF G p l e s m args below meth c d z0 u0 nL X (pc + 1) lv (.int 8 :: st) σ) : VX QF G p l e s m args below meth c d z0 u0 nL X pc lv (.ref (G.2.2.2 5) :: st) σ := fun r σ' h =>
  ⟨(kk r σ' h).1, fun H locs ls h1 h2 hR hL hl => by
    obtain ⟨cell, q1, q2, q3, q4, q5, q6, q7⟩ := (C.2.2.2.2.2.1.2.2.2.1.1 0 (by decide)).2.2.2
    exact W.alen (n := 8) C.1 C.2.1 (by rw [hR.2.2.2.1 _ (Nat.not_le.mp q7)]; exact q1) q2 q5 rfl rfl hd ((kk r σ' h).2 H locs ls h1 h2 hR hL hl)⟩
theorem x_mmax (C : Cx G p s m args meth c cc nL own ret) {index : Nat} {x y : Int32} (hlink : Cond.methodLink own index Lib.Math.max.name ∈ lw_ok) (hd1 : 1 ≤ d) (hrm : (st.map fun v => v.category).sum ≤ 8) (hd : decode cc pc = .ok (.invokestatic index, 3)) (kk : VX QF G p l e s m args below meth c d z0 u0 nL X (pc + 3) lv (.int (mxI x y) :: st) σ) : VX QF G p l e s m args below meth c d z0 u0 nL X pc lv (.int y :: .int x :: st) σ := fun r σ' h =>
  ⟨(kk r σ' h).1, fun H locs ls h1 h2 hR hL hl => va_mmax C.1 C.2.1 (C.2.2.1.trans hl.1.symm) C.2.2.2.1 (C.2.2.2.2.1 _ hlink) (C.2.2.2.2.1 _ sMax) (C.2.2.2.2.1 _ iMath) (C.2.2.2.2.1 _ wMax) (by show 1 ≤ d; exact hd1) (by show _ + 13 ≤ 41 * d; omega) (by have := (kk r σ' h).1.1; show aZ σ - z0 ≤ aZ σ' - z0; omega) (by have := (kk r σ' h).1.2; show aU σ - u0 ≤ aU σ' - u0; omega) hd ((kk r σ' h).2 H locs ls h1 h2 hR hL hl)⟩
theorem x_mmin (C : Cx G p s m args meth c cc nL own ret) {index : Nat} {x y : Int32} (hlink : Cond.methodLink own index Lib.Math.min.name ∈ lw_ok) (hd1 : 1 ≤ d) (hrm : (st.map fun v => v.category).sum ≤ 8) (hd : decode cc pc = .ok (.invokestatic index, 3)) (kk : VX QF G p l e s m args below meth c d z0 u0 nL X (pc + 3) lv (.int (mnI x y) :: st) σ) : VX QF G p l e s m args below meth c d z0 u0 nL X pc lv (.int y :: .int x :: st) σ := fun r σ' h =>
  ⟨(kk r σ' h).1, fun H locs ls h1 h2 hR hL hl => va_mmin C.1 C.2.1 (C.2.2.1.trans hl.1.symm) C.2.2.2.1 (C.2.2.2.2.1 _ hlink) (C.2.2.2.2.1 _ sMin) (C.2.2.2.2.1 _ iMath) (C.2.2.2.2.1 _ wMin) (by show 1 ≤ d; exact hd1) (by show _ + 13 ≤ 41 * d; omega) (by have := (kk r σ' h).1.1; show aZ σ - z0 ≤ aZ σ' - z0; omega) (by have := (kk r σ' h).1.2; show aU σ - u0 ≤ aU σ' - u0; omega) hd ((kk r σ' h).2 H locs ls h1 h2 hR hL hl)⟩
theorem x_callT (C : Cx G p s m args meth c cc nL own ret) {d2 index n : Nat} {y : MethodName} {bytes : ByteArray} {maxL : Nat} {As : List Value} {rt : Option FieldType} {Y : Option (Int32 × AM)} {f : Int32 → AM → S ⊕ Option (ρ × AM)} (hY : CT eI G l d2 y bytes maxL rt (Value.ref (G.2.2.2 4) :: As) σ Y) (hinst : Cond.instanceMethod y ∈ lw_ok) (hsel : Cond.selects "java/lang/String" y y ∈ lw_ok) (hlink : Cond.methodLink own index y ∈ lw_ok) (hcode : Cond.code y bytes maxL rt ∈ lw_ok) (hini : Cond.initialized y.cls ∈ lw_ok)
    (hy : y.cls ≠ "java/lang/invoke/MethodHandle" ∧ y.cls ≠ "java/lang/invoke/VarHandle" ∧ (parseMethodDescriptor y.desc).map (fun d => d.parameters.length) = some n) (hn : As.length = n) (hd2 : d2 + 1 ≤ d) (hmx : maxL ≤ 22) {rest : List Value} {st0 : List Value} (hst : st0 = As.reverse ++ Value.ref (G.2.2.2 4) :: rest) (hrm : (rest.map fun v => v.category).sum ≤ 8)
    (hd : decode cc pc = .ok (.invokevirtual index, 3)) (kk : ∀ (r2 : Int32) (σ2 : AM), VX QF G p l e s m args below meth c d z0 u0 nL (lpK g (f r2 σ2)) (pc + 3) lv (.int r2 :: rest) σ2) : VX QF G p l e s m args below meth c d z0 u0 nL (lpK g (bndT Y f)) pc lv st0 σ := fun r σ' h => by
  subst hst
  cases hYe : Y with
  | none => rw [hYe] at h; cases h
  | some q =>
    obtain ⟨r2, σ2⟩ := q
    rw [hYe] at h
    obtain ⟨⟨m1, m2⟩, hM⟩ := hY r2 σ2 hYe
    obtain ⟨⟨k1, k2⟩, kk2⟩ := kk r2 σ2 r σ' h
    refine ⟨⟨by omega, by omega⟩, fun H locs ls h1 h2 hR hL hl => ?_⟩
    have cb : CallB (RM d z0 u0 σ') s args own index y bytes maxL rt (Cond.code y bytes maxL rt :: lw_ok) (RM d2 (aZ σ) (aU σ) σ2) (aZ σ2 - aZ σ) (aU σ2 - aU σ) n := callB_of n C.2.2.2.2.1 (ok_in hcode) rfl rfl rfl (C.2.2.2.2.1 _ hini) (C.2.2.2.2.1 _ hlink) hy ⟨by show d2 + 1 ≤ d; exact hd2, by show 8 + (maxL + 11) + 41 * d2 ≤ 41 * d; omega⟩
    have hcB : ∃ cellB : Cell, H[G.2.2.2 4]? = some cellB ∧ cellB.vm.isStatics = false ∧ s.vm.findClass "java/lang/String" = some cellB.cls := by
      obtain ⟨cell, q1, q2, q3, q4⟩ := (C.2.2.2.2.2.1.2.2.2.1.1 0 (by decide)).1
      exact ⟨cell, by rw [hR.2.2.2.1 _ (Nat.not_le.mp q4)]; exact q1, q2, q3⟩
    have hrun := va_runV (e := e) (below := below) (meth := meth) (rest := rest) (g := F0 m pc ls (As.reverse ++ Value.ref (G.2.2.2 4) :: rest)) (locs := locs) ⟨C.1, C.2.1, C.2.2.1, C.2.2.2.1, C.2.2.2.2.1⟩ hM ⟨cb, C.2.2.2.2.1 _ hinst, C.2.2.2.2.1 _ hsel⟩ ⟨pc_blind, hcB, fun U hU hW => ⟨rfl, by rw [hU]; exact hR, C.2.2.2.2.2.1.moved hW⟩⟩ rfl hn hl.1 rfl (by show 2 * 0 + _ ≤ 8; omega) hd ⟨by show aZ σ - z0 + (aZ σ2 - aZ σ) ≤ aZ σ' - z0; omega, by show aU σ - u0 + (aU σ2 - aU σ) ≤ aU σ' - u0; omega⟩
    refine q_call hrun hL (fun H1 locs1 hR1 hL1 => ?_)
    have kq := kk2 H1 locs1 ls (by omega) (by omega) hR1 hL1 hl
    rw [show aZ σ - z0 + (aZ σ2 - aZ σ) = aZ σ2 - z0 by omega, show aU σ - u0 + (aU σ2 - aU σ) = aU σ2 - u0 by omega]
    exact kq
theorem x_cpyI (C : Cx G p s m args meth c cc nL own ret) {index a b : Nat} {sp dp n : Int32} (hlink : Cond.methodLink own index arraycopyName ∈ lw_ok) (hnat : Cond.native arraycopyName ∈ lw_ok) (hstat : Cond.static arraycopyName ∈ lw_ok) (hini : Cond.initialized "java/lang/System" ∈ lw_ok) (hka : aK σ a = 101) (hkb : aK σ b = 101) (hok : okC σ a b sp dp n = true) (hd1 : 1 ≤ d) (hrm : (st.map fun v => v.category).sum ≤ 8) (hd : decode cc pc = .ok (.invokestatic index, 3)) (kk : VX QF G p l e s m args below meth c d z0 u0 nL X (pc + 3) lv st (cpI σ a sp.toNatClampNeg b dp.toNatClampNeg n.toNatClampNeg)) : VX QF G p l e s m args below meth c d z0 u0 nL X pc lv (.int n :: .int dp :: .ref b :: .int sp :: .ref a :: st) σ := fun r σ' h =>
  ⟨(kk r σ' h).1, fun H locs ls q1 q2 hR hL hl => by
    obtain ⟨h1, h2, h3, h4, h5⟩ := okC_iff.mp hok
    have nn : ∀ z : Int32, ¬ z < 0 → z.toInt = (z.toNatClampNeg : Int) := by
      intro z hz
      have hz0 : (0 : Int) ≤ z.toInt := by
        have := Int32.not_lt.mp hz
        simpa using Int32.le_iff_toInt_le.mp this
      show z.toInt = ((z.toInt.toNat : Nat) : Int)
      omega
    intro T hT X
    have hc0 := (hR.2.2.2.2.2 a).2 1 hka
    have hc1 := (hR.2.2.2.2.2 b).2 1 hkb
    obtain ⟨-, k0, hk0, cm0, hkk0⟩ := (C.2.2.2.2.2.1.1.2 0 _ rfl).1 (aN σ a) (aV 1 σ a)
    obtain ⟨-, k1, hk1, cm1, hkk1⟩ := (C.2.2.2.2.2.1.1.2 0 _ rfl).1 (aN σ b) (aV 1 σ b)
    obtain ⟨vm', X', step⟩ := X.arraycopy C.1 C.2.2.2.1 (C.2.2.2.2.1 _ hlink) (C.2.2.2.2.1 _ hnat) (C.2.2.2.2.1 _ hstat) (C.2.2.2.2.1 _ hini) (src := a) (dst := b) (cs := arrV (G.1.2 1) (aN σ a) (aV 1 σ a)) (cd := arrV (G.1.2 1) (aN σ b) (aV 1 σ b)) (srcPos := sp) (destPos := dp) (n := n) (by rw [hT]; exact hc0) (by rw [hT]; exact hc1)
      (fun _ h => by cases h) (fun _ h => by cases h) (fun h => by cases h) (fun h => by cases h) hk0 hk1 hkk0 hkk1 (by simp [refKind]) h1 h2 h3
      (by rw [nn sp h1, nn n h3, arrV_size]; omega) (by rw [nn dp h2, nn n h3, arrV_size]; omega)
      (fun vm₁ _ i hi => by
        have e : (arrV (G.1.2 1) (aN σ a) (aV 1 σ a)).slots.getD (sp.toNatClampNeg + i) .null = .int (aI σ a (sp.toNatClampNeg + i)) := by
          rw [Array.getD_eq_getD_getElem?, arrV_read _ _ (by omega)]
          rfl
        refine ⟨?_, ?_⟩
        · rw [e]; rfl
        · rw [e]; exact trivial)
      (g := F0 m pc ls (.int n :: .int dp :: .ref b :: .int sp :: .ref a :: st)) rfl (hl.1.trans C.2.2.1.symm) (rest := st) rfl (by rw [C.2.1]; exact hd) (by show 1 ≤ d; exact hd1) (by have := nfw_33; show 2 * 0 + _ + _ ≤ 41 * d; omega)
    have e1 : copied (arrV (G.1.2 1) (aN σ a) (aV 1 σ a)) (arrV (G.1.2 1) (aN σ b) (aV 1 σ b)) sp dp n = arrV (G.1.2 1) (aN σ b) (aV 1 (cpI σ a sp.toNatClampNeg b dp.toNatClampNeg n.toNatClampNeg) b) := by
      refine (va_copied (fun z => .int z) (G.1.2 1) (G.1.2 1) (aI σ a) (aI σ b) h4).trans ?_
      show arrV _ _ _ = arrV _ _ _
      congr 1
      funext j
      show _ = Value.int (if b = b then _ else _)
      rw [if_pos rfl]
    rw [e1] at X' step
    have hlb : b < H.size := (Array.getElem?_eq_some_iff.mp hc1).1
    obtain ⟨tt, a1, b1⟩ := (kk r σ' h).2 (H.setIfInBounds b (arrV (G.1.2 1) (aN σ b) (aV 1 (cpI σ a sp.toNatClampNeg b dp.toNatClampNeg n.toNatClampNeg) b))) _ ls q1 q2 (rp_row (t := 1) hR hkb (by simp [Array.getElem?_setIfInBounds, hlb]) (by simp) (fun q hq => by simp [Array.getElem?_setIfInBounds, Ne.symm hq]) (fun _ => rfl) (fun _ => rfl) rfl (fun q hq => by
        have hu : ∀ j, aI (cpI σ a sp.toNatClampNeg b dp.toNatClampNeg n.toNatClampNeg) q j = aI σ q j := fun j => if_neg hq
        exact ⟨fun cj j => by unfold fV; rw [hu j]; rfl, fun t j => by unfold aV; rw [hu j]; rfl⟩)) (fun q hq => by
      rcases List.mem_append.mp hq with hq | hq
      · exact hL q hq
      · obtain ⟨z, -, hz⟩ := List.mem_map.mp hq
        rw [← hz]
        exact (hR.2.2.2.2.1 b (by rw [hkb]; decide)).1) hl _ (by rw [← hT]; rfl) X'
    exact ⟨tt, step tt a1, b1⟩⟩
theorem x_cpyJ (C : Cx G p s m args meth c cc nL own ret) {index a b : Nat} {sp dp n : Int32} (hlink : Cond.methodLink own index arraycopyName ∈ lw_ok) (hnat : Cond.native arraycopyName ∈ lw_ok) (hstat : Cond.static arraycopyName ∈ lw_ok) (hini : Cond.initialized "java/lang/System" ∈ lw_ok) (hka : aK σ a = 102) (hkb : aK σ b = 102) (hok : okC σ a b sp dp n = true) (hd1 : 1 ≤ d) (hrm : (st.map fun v => v.category).sum ≤ 8) (hd : decode cc pc = .ok (.invokestatic index, 3)) (kk : VX QF G p l e s m args below meth c d z0 u0 nL X (pc + 3) lv st (cpL σ a sp.toNatClampNeg b dp.toNatClampNeg n.toNatClampNeg)) : VX QF G p l e s m args below meth c d z0 u0 nL X pc lv (.int n :: .int dp :: .ref b :: .int sp :: .ref a :: st) σ := fun r σ' h =>
  ⟨(kk r σ' h).1, fun H locs ls q1 q2 hR hL hl => by
    obtain ⟨h1, h2, h3, h4, h5⟩ := okC_iff.mp hok
    have nn : ∀ z : Int32, ¬ z < 0 → z.toInt = (z.toNatClampNeg : Int) := by
      intro z hz
      have hz0 : (0 : Int) ≤ z.toInt := by
        have := Int32.not_lt.mp hz
        simpa using Int32.le_iff_toInt_le.mp this
      show z.toInt = ((z.toInt.toNat : Nat) : Int)
      omega
    intro T hT X
    have hc0 := (hR.2.2.2.2.2 a).2 2 hka
    have hc1 := (hR.2.2.2.2.2 b).2 2 hkb
    obtain ⟨-, k0, hk0, cm0, hkk0⟩ := (C.2.2.2.2.2.1.1.2 1 _ rfl).1 (aN σ a) (aV 2 σ a)
    obtain ⟨-, k1, hk1, cm1, hkk1⟩ := (C.2.2.2.2.2.1.1.2 1 _ rfl).1 (aN σ b) (aV 2 σ b)
    obtain ⟨vm', X', step⟩ := X.arraycopy C.1 C.2.2.2.1 (C.2.2.2.2.1 _ hlink) (C.2.2.2.2.1 _ hnat) (C.2.2.2.2.1 _ hstat) (C.2.2.2.2.1 _ hini) (src := a) (dst := b) (cs := arrV (G.1.2 2) (aN σ a) (aV 2 σ a)) (cd := arrV (G.1.2 2) (aN σ b) (aV 2 σ b)) (srcPos := sp) (destPos := dp) (n := n) (by rw [hT]; exact hc0) (by rw [hT]; exact hc1)
      (fun _ h => by cases h) (fun _ h => by cases h) (fun h => by cases h) (fun h => by cases h) hk0 hk1 hkk0 hkk1 (by simp [refKind]) h1 h2 h3
      (by rw [nn sp h1, nn n h3, arrV_size]; omega) (by rw [nn dp h2, nn n h3, arrV_size]; omega)
      (fun vm₁ _ i hi => by
        have e : (arrV (G.1.2 2) (aN σ a) (aV 2 σ a)).slots.getD (sp.toNatClampNeg + i) .null = .long (aL σ a (sp.toNatClampNeg + i)) := by
          rw [Array.getD_eq_getD_getElem?, arrV_read _ _ (by omega)]
          rfl
        refine ⟨?_, ?_⟩
        · rw [e]; rfl
        · rw [e]; exact trivial)
      (g := F0 m pc ls (.int n :: .int dp :: .ref b :: .int sp :: .ref a :: st)) rfl (hl.1.trans C.2.2.1.symm) (rest := st) rfl (by rw [C.2.1]; exact hd) (by show 1 ≤ d; exact hd1) (by have := nfw_33; show 2 * 0 + _ + _ ≤ 41 * d; omega)
    have e1 : copied (arrV (G.1.2 2) (aN σ a) (aV 2 σ a)) (arrV (G.1.2 2) (aN σ b) (aV 2 σ b)) sp dp n = arrV (G.1.2 2) (aN σ b) (aV 2 (cpL σ a sp.toNatClampNeg b dp.toNatClampNeg n.toNatClampNeg) b) := by
      refine (va_copied (fun z => .long z) (G.1.2 2) (G.1.2 2) (aL σ a) (aL σ b) h4).trans ?_
      show arrV _ _ _ = arrV _ _ _
      congr 1
      funext j
      show _ = Value.long (if b = b then _ else _)
      rw [if_pos rfl]
    rw [e1] at X' step
    have hlb : b < H.size := (Array.getElem?_eq_some_iff.mp hc1).1
    obtain ⟨tt, a1, b1⟩ := (kk r σ' h).2 (H.setIfInBounds b (arrV (G.1.2 2) (aN σ b) (aV 2 (cpL σ a sp.toNatClampNeg b dp.toNatClampNeg n.toNatClampNeg) b))) _ ls q1 q2 (rp_row (t := 2) hR hkb (by simp [Array.getElem?_setIfInBounds, hlb]) (by simp) (fun q hq => by simp [Array.getElem?_setIfInBounds, Ne.symm hq]) (fun _ => rfl) (fun _ => rfl) rfl (fun q hq => by
        have hu : ∀ j, aL (cpL σ a sp.toNatClampNeg b dp.toNatClampNeg n.toNatClampNeg) q j = aL σ q j := fun j => if_neg hq
        exact ⟨fun cj j => by unfold fV; rw [hu j]; rfl, fun t j => by unfold aV; rw [hu j]; rfl⟩)) (fun q hq => by
      rcases List.mem_append.mp hq with hq | hq
      · exact hL q hq
      · obtain ⟨z, -, hz⟩ := List.mem_map.mp hq
        rw [← hz]
        exact (hR.2.2.2.2.1 b (by rw [hkb]; decide)).1) hl _ (by rw [← hT]; rfl) X'
    exact ⟨tt, step tt a1, b1⟩⟩
end MR
