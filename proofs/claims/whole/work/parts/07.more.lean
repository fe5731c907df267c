section MR
variable {ρ : Type} {enc : ρ → Option Value} {G : GX} {p : Program} {l : Launch} {e : Env} {s : State} {m : MethodId} {args : Array Value} {below : List Frame} {meth : Method} {c : Code} {d z0 u0 nL : Nat} {X : Option (ρ × AM)} {pc : Nat} {lv : List (Nat × Value)} {st : List Value} {σ : AM} {cc : ByteArray} {own : String} {ret : Option FieldType}
variable {S : Type} {g : S → Option (ρ × AM)} {A B : S ⊕ Option (ρ × AM)}
theorem x_lve {lv' : List (Nat × Value)} (h : lv = lv') (k : VX enc G p l e s m args below meth c d z0 u0 nL X pc lv' st σ) : VX enc G p l e s m args below meth c d z0 u0 nL X pc lv st σ := h ▸ k
theorem fr_K {σ1 : AM} {k n : Nat} (h : σ1 = nw σ k n) : aK σ1 (aZ σ) = k := by rw [h, aK_nw, if_pos rfl]
theorem x_gd {b : Bool} (k : b = true → VX enc G p l e s m args below meth c d z0 u0 nL (lpK g A) pc lv st σ) : VX enc G p l e s m args below meth c d z0 u0 nL (lpK g (gdT b A)) pc lv st σ := by
  cases b with
  | true => exact k rfl
  | false => exact x_none
theorem x_die : VX enc G p l e s m args below meth c d z0 u0 nL (lpK g (.inr none)) pc lv st σ := x_none
theorem x_split {P : Prop} [Decidable P] (ka : P → VX enc G p l e s m args below meth c d z0 u0 nL (lpK g A) pc lv st σ) (kb : ¬ P → VX enc G p l e s m args below meth c d z0 u0 nL (lpK g B) pc lv st σ) : VX enc G p l e s m args below meth c d z0 u0 nL (lpK g (if P then A else B)) pc lv st σ := by
  by_cases h : P
  · rw [if_pos h]; exact ka h
  · rw [if_neg h]; exact kb h
theorem x_letI {x : Int32} {f : Int32 → S ⊕ Option (ρ × AM)} (k : ∀ y : Int32, y = x → VX enc G p l e s m args below meth c d z0 u0 nL (lpK g (f y)) pc lv (.int y :: st) σ) : VX enc G p l e s m args below meth c d z0 u0 nL (lpK g (letT x f)) pc lv (.int x :: st) σ := k x rfl
theorem x_letJ {x : Int64} {f : Int64 → S ⊕ Option (ρ × AM)} (k : ∀ y : Int64, y = x → VX enc G p l e s m args below meth c d z0 u0 nL (lpK g (f y)) pc lv (.long y :: st) σ) : VX enc G p l e s m args below meth c d z0 u0 nL (lpK g (letT x f)) pc lv (.long x :: st) σ := k x rfl
theorem x_letR {x : Nat} {f : Nat → S ⊕ Option (ρ × AM)} (k : ∀ y : Nat, y = x → VX enc G p l e s m args below meth c d z0 u0 nL (lpK g (f y)) pc lv (.ref y :: st) σ) : VX enc G p l e s m args below meth c d z0 u0 nL (lpK g (letT x f)) pc lv (.ref x :: st) σ := k x rfl
theorem x_letS {f : AM → S ⊕ Option (ρ × AM)} (k : ∀ y : AM, y = σ → VX enc G p l e s m args below meth c d z0 u0 nL (lpK g (f y)) pc lv st y) : VX enc G p l e s m args below meth c d z0 u0 nL (lpK g (letT σ f)) pc lv st σ := k σ rfl
theorem x_tabI (C : Cx G p s m args meth c cc nL own ret) {dflt lo hi : Int} {offs : Array Int} {len tgt : Nat} {x y : Int32} {off : Int} (hx : x = y) (hd : decode cc pc = .ok (.tableswitch dflt lo hi offs, len)) (h1 : ¬ y.toInt < lo) (h2 : ¬ hi < y.toInt) (ho : offs[(y.toInt - lo).toNat]? = some off) (ht : (pc : Int) + off = (tgt : Int)) (k : VX enc G p l e s m args below meth c d z0 u0 nL X tgt lv st σ) : VX enc G p l e s m args below meth c d z0 u0 nL X pc lv (.int x :: st) σ := fun r σ' h =>
  ⟨(k r σ' h).1, fun H locs ls q1 q2 hR hL hl => by subst hx; exact lv_tableIn C.1 C.2.1 hd h1 h2 ho ht ((k r σ' h).2 H locs ls q1 q2 hR hL hl)⟩
theorem x_tabO (C : Cx G p s m args meth c cc nL own ret) {dflt lo hi : Int} {offs : Array Int} {len tgt : Nat} {x : Int32} (hd : decode cc pc = .ok (.tableswitch dflt lo hi offs, len)) (hx : x.toInt < lo ∨ hi < x.toInt) (ht : (pc : Int) + dflt = (tgt : Int)) (k : VX enc G p l e s m args below meth c d z0 u0 nL X tgt lv st σ) : VX enc G p l e s m args below meth c d z0 u0 nL X pc lv (.int x :: st) σ := fun r σ' h =>
  ⟨(k r σ' h).1, fun H locs ls q1 q2 hR hL hl => lv_tableOut C.1 C.2.1 hd hx ht ((k r σ' h).2 H locs ls q1 q2 hR hL hl)⟩
theorem x_look (C : Cx G p s m args meth c cc nL own ret) {dflt : Int} {ps : Array (Int × Int)} {len tgt : Nat} {x : Int32} {off : Int} (hd : decode cc pc = .ok (.lookupswitch dflt ps, len)) (hp : (ps.toList.zip (ps.toList.drop 1)).all (fun (a, next) => a.1 < next.1) = true) (ho : Op.lookupswitch.offset ps.toList dflt x.toInt = off) (ht : (pc : Int) + off = (tgt : Int)) (k : VX enc G p l e s m args below meth c d z0 u0 nL X tgt lv st σ) : VX enc G p l e s m args below meth c d z0 u0 nL X pc lv (.int x :: st) σ := fun r σ' h =>
  ⟨(k r σ' h).1, fun H locs ls q1 q2 hR hL hl => lv_lookup C.1 C.2.1 hd hp ho ht ((k r σ' h).2 H locs ls q1 q2 hR hL hl)⟩
end MR
