/-! Both objects are made: a memory that lies z cells higher. -/
def lift (z : Nat) (R : Me) : Me := (z + R.1, fun q => if q < z then 99 else R.2.1 (q - z), fun q => if q < z then 0 else R.2.2.1 (q - z), fun q j => if q < z then 0 else R.2.2.2.1 (q - z) j, fun q j => if q < z then 0 else R.2.2.2.2.1 (q - z) j, fun q j => if q < z then none else (R.2.2.2.2.2 (q - z) j).map (fun p => z + p))
theorem me_ext {σ σ' : Me} (h1 : σ.1 = σ'.1) (h2 : ∀ q, σ.2.1 q = σ'.2.1 q) (h3 : ∀ q, σ.2.2.1 q = σ'.2.2.1 q) (h4 : ∀ q j, σ.2.2.2.1 q j = σ'.2.2.2.1 q j) (h5 : ∀ q j, σ.2.2.2.2.1 q j = σ'.2.2.2.2.1 q j) (h6 : ∀ q j, σ.2.2.2.2.2 q j = σ'.2.2.2.2.2 q j) : σ = σ' := Prod.ext h1 (Prod.ext (funext h2) (Prod.ext (funext h3) (Prod.ext (funext fun q => funext (h4 q)) (Prod.ext (funext fun q => funext (h5 q)) (funext fun q => funext (h6 q))))))
theorem up_if {α : Type} (f : Nat → α) (a : Nat) (v : α) (b : Nat) : va_up f a v b = if b = a then v else f b := by
  unfold va_up
  rfl
theorem if_lift {α : Type} (z o q : Nat) (x d : α) (f : Nat → α) : (if q = z + o then x else if q < z then d else f (q - z)) = if q < z then d else if q - z = o then x else f (q - z) := by
  by_cases c : q < z
  · rw [if_neg (by omega), if_pos c, if_pos c]
  · rw [if_neg c, if_neg c]
    by_cases e : q = z + o
    · rw [if_pos e, if_pos (by omega)]
    · rw [if_neg e, if_neg (by omega)]
theorem lift_0 (z : Nat) : me0 z = lift z (me0 0) := by
  refine me_ext rfl (fun q => ?_) (fun q => ?_) (fun q j => ?_) (fun q j => ?_) (fun q j => ?_)
  · show 99 = if q < z then 99 else 99
    rw [ite_self]
  · show 0 = if q < z then 0 else 0
    rw [ite_self]
  · show 0 = if q < z then 0 else 0
    rw [ite_self]
  · show 0 = if q < z then 0 else 0
    rw [ite_self]
  · show none = if q < z then none else none
    rw [ite_self]
theorem lift_nw (z : Nat) (R : Me) (t n : Nat) : nw (lift z R) t n = lift z (nw R t n) := by
  refine me_ext rfl (fun q => ?_) (fun q => ?_) (fun q j => ?_) (fun q j => ?_) (fun q j => ?_)
  · show va_up (fun q => if q < z then 99 else R.2.1 (q - z)) (z + R.1) t q = if q < z then 99 else va_up R.2.1 R.1 t (q - z)
    rw [up_if, up_if]
    exact if_lift z R.1 q t 99 R.2.1
  · show va_up (fun q => if q < z then 0 else R.2.2.1 (q - z)) (z + R.1) n q = if q < z then 0 else va_up R.2.2.1 R.1 n (q - z)
    rw [up_if, up_if]
    exact if_lift z R.1 q n 0 R.2.2.1
  · show va_up (fun q j => if q < z then 0 else R.2.2.2.1 (q - z) j) (z + R.1) (fun _ => 0) q j = if q < z then 0 else va_up R.2.2.2.1 R.1 (fun _ => 0) (q - z) j
    rw [up_if, up_if]
    by_cases c : q < z
    · rw [if_neg (by omega), if_pos c, if_pos c]
    · rw [if_neg c]
      by_cases e : q = z + R.1
      · rw [if_pos e, if_pos (by omega)]
      · rw [if_neg e, if_neg c, if_neg (show ¬ q - z = R.1 by omega)]
  · show va_up (fun q j => if q < z then 0 else R.2.2.2.2.1 (q - z) j) (z + R.1) (fun _ => 0) q j = if q < z then 0 else va_up R.2.2.2.2.1 R.1 (fun _ => 0) (q - z) j
    rw [up_if, up_if]
    by_cases c : q < z
    · rw [if_neg (by omega), if_pos c, if_pos c]
    · rw [if_neg c]
      by_cases e : q = z + R.1
      · rw [if_pos e, if_pos (by omega)]
      · rw [if_neg e, if_neg c, if_neg (show ¬ q - z = R.1 by omega)]
  · show va_up (fun q j => if q < z then none else (R.2.2.2.2.2 (q - z) j).map (fun p => z + p)) (z + R.1) (fun _ => none) q j = if q < z then none else (va_up R.2.2.2.2.2 R.1 (fun _ => none) (q - z) j).map (fun p => z + p)
    rw [up_if, up_if]
    by_cases c : q < z
    · rw [if_neg (by omega), if_pos c, if_pos c]
    · rw [if_neg c]
      by_cases e : q = z + R.1
      · rw [if_pos e, if_pos (by omega)]
        rfl
      · rw [if_neg e, if_neg c, if_neg (show ¬ q - z = R.1 by omega)]
theorem lift_mz (z : Nat) (R : Me) : mz (lift z R) = lift z (mz R) := by
  refine me_ext rfl (fun q => ?_) (fun q => ?_) (fun q j => ?_) (fun q j => ?_) (fun q j => ?_)
  · show (if q = z + R.1 then 26 else if z + R.1 < q ∧ q ≤ z + R.1 + 4 then 23 else if q < z then 99 else R.2.1 (q - z)) = if q < z then 99 else if q - z = R.1 then 26 else if R.1 < q - z ∧ q - z ≤ R.1 + 4 then 23 else R.2.1 (q - z)
    by_cases c : q < z
    · rw [if_neg (by omega), if_neg (by omega), if_pos c, if_pos c]
    · rw [if_neg c, if_neg c]
      by_cases e : q = z + R.1
      · rw [if_pos e, if_pos (by omega)]
      · rw [if_neg e, if_neg (show ¬ q - z = R.1 by omega)]
        by_cases e2 : z + R.1 < q ∧ q ≤ z + R.1 + 4
        · rw [if_pos e2, if_pos (by omega)]
        · rw [if_neg e2, if_neg (by omega)]
  · show (if q = z + R.1 then 4 else if z + R.1 < q ∧ q ≤ z + R.1 + 4 then 25 else if q < z then 0 else R.2.2.1 (q - z)) = if q < z then 0 else if q - z = R.1 then 4 else if R.1 < q - z ∧ q - z ≤ R.1 + 4 then 25 else R.2.2.1 (q - z)
    by_cases c : q < z
    · rw [if_neg (by omega), if_neg (by omega), if_pos c, if_pos c]
    · rw [if_neg c, if_neg c]
      by_cases e : q = z + R.1
      · rw [if_pos e, if_pos (by omega)]
      · rw [if_neg e, if_neg (show ¬ q - z = R.1 by omega)]
        by_cases e2 : z + R.1 < q ∧ q ≤ z + R.1 + 4
        · rw [if_pos e2, if_pos (by omega)]
        · rw [if_neg e2, if_neg (by omega)]
  · show (if z + R.1 ≤ q ∧ q ≤ z + R.1 + 4 then 0 else if q < z then 0 else R.2.2.2.1 (q - z) j) = if q < z then 0 else if R.1 ≤ q - z ∧ q - z ≤ R.1 + 4 then 0 else R.2.2.2.1 (q - z) j
    by_cases c : q < z
    · rw [if_neg (by omega), if_pos c, if_pos c]
    · rw [if_neg c, if_neg c]
      by_cases e2 : z + R.1 ≤ q ∧ q ≤ z + R.1 + 4
      · rw [if_pos e2, if_pos (by omega)]
      · rw [if_neg e2, if_neg (by omega)]
  · show (if z + R.1 ≤ q ∧ q ≤ z + R.1 + 4 then 0 else if q < z then 0 else R.2.2.2.2.1 (q - z) j) = if q < z then 0 else if R.1 ≤ q - z ∧ q - z ≤ R.1 + 4 then 0 else R.2.2.2.2.1 (q - z) j
    by_cases c : q < z
    · rw [if_neg (by omega), if_pos c, if_pos c]
    · rw [if_neg c, if_neg c]
      by_cases e2 : z + R.1 ≤ q ∧ q ≤ z + R.1 + 4
      · rw [if_pos e2, if_pos (by omega)]
      · rw [if_neg e2, if_neg (by omega)]
  · show (if q = z + R.1 then (if j < 4 then some (z + R.1 + 1 + j) else none) else if z + R.1 < q ∧ q ≤ z + R.1 + 4 then none else if q < z then none else (R.2.2.2.2.2 (q - z) j).map (fun p => z + p)) = if q < z then none else (if q - z = R.1 then (if j < 4 then some (R.1 + 1 + j) else none) else if R.1 < q - z ∧ q - z ≤ R.1 + 4 then none else R.2.2.2.2.2 (q - z) j).map (fun p => z + p)
    by_cases c : q < z
    · rw [if_neg (by omega), if_neg (by omega), if_pos c, if_pos c]
    · rw [if_neg c, if_neg c]
      by_cases e : q = z + R.1
      · rw [if_pos e, if_pos (show q - z = R.1 by omega)]
        by_cases e3 : j < 4
        · rw [if_pos e3, if_pos e3]
          show some (z + R.1 + 1 + j) = some (z + (R.1 + 1 + j))
          congr 1
          omega
        · rw [if_neg e3, if_neg e3]
          rfl
      · rw [if_neg e, if_neg (show ¬ q - z = R.1 by omega)]
        by_cases e2 : z + R.1 < q ∧ q ≤ z + R.1 + 4
        · rw [if_pos e2, if_pos (by omega)]
          rfl
        · rw [if_neg e2, if_neg (by omega)]
theorem lift_sI (z : Nat) (R : Me) (o k : Nat) (v : Int32) : sI (lift z R) (z + o) k v = lift z (sI R o k v) := by
  refine me_ext rfl (fun q => rfl) (fun q => rfl) (fun q j => ?_) (fun q j => rfl) (fun q j => rfl)
  show (if q = z + o ∧ j = k then v else if q < z then 0 else R.2.2.2.1 (q - z) j) = if q < z then 0 else if q - z = o ∧ j = k then v else R.2.2.2.1 (q - z) j
  by_cases c : q < z
  · rw [if_neg (by omega), if_pos c, if_pos c]
  · rw [if_neg c, if_neg c]
    by_cases e : q = z + o ∧ j = k
    · rw [if_pos e, if_pos (by omega)]
    · rw [if_neg e, if_neg (by omega)]
theorem lift_sL (z : Nat) (R : Me) (o k : Nat) (v : Int64) : sL (lift z R) (z + o) k v = lift z (sL R o k v) := by
  refine me_ext rfl (fun q => rfl) (fun q => rfl) (fun q j => rfl) (fun q j => ?_) (fun q j => rfl)
  show (if q = z + o ∧ j = k then v else if q < z then 0 else R.2.2.2.2.1 (q - z) j) = if q < z then 0 else if q - z = o ∧ j = k then v else R.2.2.2.2.1 (q - z) j
  by_cases c : q < z
  · rw [if_neg (by omega), if_pos c, if_pos c]
  · rw [if_neg c, if_neg c]
    by_cases e : q = z + o ∧ j = k
    · rw [if_pos e, if_pos (by omega)]
    · rw [if_neg e, if_neg (by omega)]
theorem lift_sP (z : Nat) (R : Me) (o k p : Nat) : sP (lift z R) (z + o) k (some (z + p)) = lift z (sP R o k (some p)) := by
  refine me_ext rfl (fun q => rfl) (fun q => rfl) (fun q j => rfl) (fun q j => rfl) (fun q j => ?_)
  show (if q = z + o ∧ j = k then some (z + p) else if q < z then none else (R.2.2.2.2.2 (q - z) j).map (fun p => z + p)) = if q < z then none else (if q - z = o ∧ j = k then some p else R.2.2.2.2.2 (q - z) j).map (fun p => z + p)
  by_cases c : q < z
  · rw [if_neg (by omega), if_pos c, if_pos c]
  · rw [if_neg c, if_neg c]
    by_cases e : q = z + o ∧ j = k
    · rw [if_pos e, if_pos (by omega)]
      rfl
    · rw [if_neg e, if_neg (by omega)]
theorem lT (z : Nat) (R : Me) (o : Nat) : gT (lift z R) (z + o) = gT R o := by
  show (if z + o < z then 99 else R.2.1 (z + o - z)) = _
  rw [if_neg (by omega), Nat.add_sub_cancel_left]
  rfl
theorem lG_N (z : Nat) (R : Me) (o : Nat) : gN (lift z R) (z + o) = gN R o := by
  show (if z + o < z then 0 else R.2.2.1 (z + o - z)) = _
  rw [if_neg (by omega), Nat.add_sub_cancel_left]
  rfl
theorem lG_I (z : Nat) (R : Me) (o j : Nat) : gI (lift z R) (z + o) j = gI R o j := by
  show (if z + o < z then 0 else R.2.2.2.1 (z + o - z) j) = _
  rw [if_neg (by omega), Nat.add_sub_cancel_left]
  rfl
theorem lG_L (z : Nat) (R : Me) (o j : Nat) : gL (lift z R) (z + o) j = gL R o j := by
  show (if z + o < z then 0 else R.2.2.2.2.1 (z + o - z) j) = _
  rw [if_neg (by omega), Nat.add_sub_cancel_left]
  rfl
theorem lG_P (z : Nat) (R : Me) (o j : Nat) : gP (lift z R) (z + o) j = (gP R o j).map (fun p => z + p) := by
  show (if z + o < z then none else (R.2.2.2.2.2 (z + o - z) j).map (fun p => z + p)) = _
  rw [if_neg (by omega), Nat.add_sub_cancel_left]
  rfl
theorem l_T {z : Nat} {R : Me} {o t : Nat} (h : gT R o = t) : gT (lift z R) (z + o) = t := (lT z R o).trans h
theorem l_N {z : Nat} {R : Me} {o t : Nat} (h : gN R o = t) : gN (lift z R) (z + o) = t := (lG_N z R o).trans h
theorem l_P {z : Nat} {R : Me} {o j p : Nat} (h : gP R o j = some p) : gP (lift z R) (z + o) j = some (z + p) := by
  rw [lG_P, h]
  rfl
theorem l_obj {z : Nat} {R R' : Me} {t n p : Nat} {K : Nat → Me → Prop} (hp : R.1 = p) (e : nw R t n = R') (hK : K (z + p) (lift z R')) : ∀ (b : Nat) (σ2 : Me), b = gz (lift z R) → σ2 = nw (lift z R) t n → K b σ2 := by
  rintro b σ2 e1 e2
  rw [lift_nw, e] at e2
  have e1' : b = z + R.1 := e1
  rw [hp] at e1'
  subst e1' e2
  exact hK
theorem l_fld {z : Nat} {R R' : Me} {o t n k c p : Nat} {K : Me → Prop} (hp : R.1 = p) (e : sP (nw R t n) o k (some p) = R') (hT : gT (nw R t n) o = c) (hK : K (lift z R')) : ∀ (b : Nat) (σ2 : Me), b = gz (lift z R) → σ2 = nw (lift z R) t n → gT σ2 (z + o) = c ∧ ∀ σ4 : Me, σ4 = sP σ2 (z + o) k (some b) → K σ4 := by
  refine l_obj hp rfl ⟨l_T hT, ?_⟩
  rintro _ rfl
  rw [lift_sP, e]
  exact hK
theorem l_mz {z : Nat} {R R' : Me} {o k c p : Nat} {K : Me → Prop} (hp : R.1 = p) (e : sP (mz R) o k (some p) = R') (hT : gT (mz R) o = c) (hK : K (lift z R')) : ∀ (b : Nat) (σ2 : Me), b = gz (lift z R) → σ2 = mz (lift z R) → gT σ2 (z + o) = c ∧ ∀ σ4 : Me, σ4 = sP σ2 (z + o) k (some b) → K σ4 := by
  rintro b σ2 e1 e2
  rw [lift_mz] at e2
  have e1' : b = z + R.1 := e1
  rw [hp] at e1'
  subst e1' e2
  refine ⟨l_T hT, ?_⟩
  rintro _ rfl
  rw [lift_sP, e]
  exact hK
theorem l_set {z : Nat} {R R' : Me} {o k p : Nat} {K : Me → Prop} (e : sP R o k (some p) = R') (hK : K (lift z R')) : ∀ σ4 : Me, σ4 = sP (lift z R) (z + o) k (some (z + p)) → K σ4 := by
  rintro _ rfl
  rw [lift_sP, e]
  exact hK
theorem l_sI {z : Nat} {R R' : Me} {o k : Nat} {v : Int32} {K : Me → Prop} (e : sI R o k v = R') (hK : K (lift z R')) : ∀ σ4 : Me, σ4 = sI (lift z R) (z + o) k v → K σ4 := by
  rintro _ rfl
  rw [lift_sI, e]
  exact hK
theorem l_sL {z : Nat} {R R' : Me} {o k : Nat} {v : Int64} {K : Me → Prop} (e : sL R o k v = R') (hK : K (lift z R')) : ∀ σ4 : Me, σ4 = sL (lift z R) (z + o) k v → K σ4 := by
  rintro _ rfl
  rw [lift_sL, e]
  exact hK
