/-! What both sides have to do, over memories alone. -/
theorem gT_sI (σ : Me) (a k : Nat) (v : Int32) : gT (sI σ a k v) = gT σ := rfl
theorem gN_sI (σ : Me) (a k : Nat) (v : Int32) : gN (sI σ a k v) = gN σ := rfl
theorem gL_sI (σ : Me) (a k : Nat) (v : Int32) : gL (sI σ a k v) = gL σ := rfl
theorem gP_sI (σ : Me) (a k : Nat) (v : Int32) : gP (sI σ a k v) = gP σ := rfl
theorem gz_sI (σ : Me) (a k : Nat) (v : Int32) : gz (sI σ a k v) = gz σ := rfl
theorem gT_sL (σ : Me) (a k : Nat) (v : Int64) : gT (sL σ a k v) = gT σ := rfl
theorem gN_sL (σ : Me) (a k : Nat) (v : Int64) : gN (sL σ a k v) = gN σ := rfl
theorem gI_sL (σ : Me) (a k : Nat) (v : Int64) : gI (sL σ a k v) = gI σ := rfl
theorem gP_sL (σ : Me) (a k : Nat) (v : Int64) : gP (sL σ a k v) = gP σ := rfl
theorem gz_sL (σ : Me) (a k : Nat) (v : Int64) : gz (sL σ a k v) = gz σ := rfl
theorem gT_sP (σ : Me) (a k : Nat) (v : Option Nat) : gT (sP σ a k v) = gT σ := rfl
theorem gN_sP (σ : Me) (a k : Nat) (v : Option Nat) : gN (sP σ a k v) = gN σ := rfl
theorem gI_sP (σ : Me) (a k : Nat) (v : Option Nat) : gI (sP σ a k v) = gI σ := rfl
theorem gL_sP (σ : Me) (a k : Nat) (v : Option Nat) : gL (sP σ a k v) = gL σ := rfl
theorem gz_sP (σ : Me) (a k : Nat) (v : Option Nat) : gz (sP σ a k v) = gz σ := rfl
theorem gI_sI (σ : Me) (a k b j : Nat) (v : Int32) : gI (sI σ a k v) b j = if b = a ∧ j = k then v else gI σ b j := rfl
theorem gL_sL (σ : Me) (a k b j : Nat) (v : Int64) : gL (sL σ a k v) b j = if b = a ∧ j = k then v else gL σ b j := rfl
theorem gP_sP (σ : Me) (a k b j : Nat) (v : Option Nat) : gP (sP σ a k v) b j = if b = a ∧ j = k then v else gP σ b j := rfl
theorem gI_sI_eq {σ : Me} {a k : Nat} {v : Int32} : gI (sI σ a k v) a k = v := up2_eq
theorem gI_sI_ne {σ : Me} {a k b j : Nat} {v : Int32} (h : b ≠ a) : gI (sI σ a k v) b j = gI σ b j := up2_ne h
theorem gI_sI_nk {σ : Me} {a k b j : Nat} {v : Int32} (h : j ≠ k) : gI (sI σ a k v) b j = gI σ b j := up2_nk h
theorem gL_sL_eq {σ : Me} {a k : Nat} {v : Int64} : gL (sL σ a k v) a k = v := up2_eq
theorem gL_sL_ne {σ : Me} {a k b j : Nat} {v : Int64} (h : b ≠ a) : gL (sL σ a k v) b j = gL σ b j := up2_ne h
theorem gL_sL_nk {σ : Me} {a k b j : Nat} {v : Int64} (h : j ≠ k) : gL (sL σ a k v) b j = gL σ b j := up2_nk h
/-- a cell is as it was -/
def sameC (σ σ' : Me) (q : Nat) : Prop := gT σ' q = gT σ q ∧ gN σ' q = gN σ q ∧ (∀ j, gI σ' q j = gI σ q j) ∧ (∀ j, gL σ' q j = gL σ q j) ∧ (∀ j, gP σ' q j = gP σ q j)
theorem sameC.rf {σ : Me} {q : Nat} : sameC σ σ q := ⟨rfl, rfl, fun _ => rfl, fun _ => rfl, fun _ => rfl⟩
theorem sameC.tr {σ σ' σ'' : Me} {q : Nat} (h : sameC σ σ' q) (h' : sameC σ' σ'' q) : sameC σ σ'' q := ⟨h'.1.trans h.1, h'.2.1.trans h.2.1, fun j => (h'.2.2.1 j).trans (h.2.2.1 j), fun j => (h'.2.2.2.1 j).trans (h.2.2.2.1 j), fun j => (h'.2.2.2.2 j).trans (h.2.2.2.2 j)⟩
theorem sameC.sI {σ : Me} {a k q : Nat} {v : Int32} (h : q ≠ a) : sameC σ (sI σ a k v) q := ⟨rfl, rfl, fun _ => up2_ne h, fun _ => rfl, fun _ => rfl⟩
theorem sameC.sL {σ : Me} {a k q : Nat} {v : Int64} (h : q ≠ a) : sameC σ (sL σ a k v) q := ⟨rfl, rfl, fun _ => rfl, fun _ => up2_ne h, fun _ => rfl⟩
theorem sameC.sP {σ : Me} {a k q : Nat} {v : Option Nat} (h : q ≠ a) : sameC σ (sP σ a k v) q := ⟨rfl, rfl, fun _ => rfl, fun _ => rfl, fun _ => up2_ne h⟩
theorem sameC.nw {σ : Me} {t n q : Nat} (h : q ≠ gz σ) : sameC σ (nw σ t n) q := ⟨gT_nw h, gN_nw h, gI_nw h, gL_nw h, gP_nw h⟩
/-- the class's own call: nothing of the reference's world changes; the reference's: nothing else -/
def frM (z : Nat) (σ σ' : Me) : Prop := ∀ q, z + 36 ≤ q → q < z + 59 → sameC σ σ' q
def frX (z : Nat) (σ σ' : Me) : Prop := gz σ' = gz σ ∧ ∀ q, (q < z + 36 ∨ z + 59 ≤ q) → sameC σ σ' q
theorem frM.rf {z : Nat} {σ : Me} : frM z σ σ := fun _ _ _ => .rf
theorem frX.rf {z : Nat} {σ : Me} : frX z σ σ := ⟨rfl, fun _ _ => .rf⟩
theorem frM.tr {z : Nat} {σ σ' σ'' : Me} (h : frM z σ σ') (h' : frM z σ' σ'') : frM z σ σ'' := fun q h1 h2 => (h q h1 h2).tr (h' q h1 h2)
theorem frX.tr {z : Nat} {σ σ' σ'' : Me} (h : frX z σ σ') (h' : frX z σ' σ'') : frX z σ σ'' := ⟨h'.1.trans h.1, fun q h1 => (h.2 q h1).tr (h'.2 q h1)⟩
theorem frM.sI {z : Nat} {σ : Me} {a k : Nat} {v : Int32} (h : a < z + 36 ∨ z + 59 ≤ a) : frM z σ (sI σ a k v) := fun q _ _ => .sI (by omega)
theorem frM.sL {z : Nat} {σ : Me} {a k : Nat} {v : Int64} (h : a < z + 36 ∨ z + 59 ≤ a) : frM z σ (sL σ a k v) := fun q _ _ => .sL (by omega)
theorem frM.sP {z : Nat} {σ : Me} {a k : Nat} {v : Option Nat} (h : a < z + 36 ∨ z + 59 ≤ a) : frM z σ (sP σ a k v) := fun q _ _ => .sP (by omega)
theorem frX.sI {z : Nat} {σ : Me} {a k : Nat} {v : Int32} (h1 : z + 36 ≤ a) (h2 : a < z + 59) : frX z σ (sI σ a k v) := ⟨rfl, fun q _ => .sI (by omega)⟩
theorem frX.sL {z : Nat} {σ : Me} {a k : Nat} {v : Int64} (h1 : z + 36 ≤ a) (h2 : a < z + 59) : frX z σ (sL σ a k v) := ⟨rfl, fun q _ => .sL (by omega)⟩
/-- the common state: the reference's fields and rows by the fields' numbers, the two told numbers -/
abbrev Ab : Type := (Nat → Nat → Int32) × Int64 × Int64
def aS (A : Ab) (f j : Nat) (v : Int32) : Ab := (up2 A.1 f j v, A.2)
/-- a finding is met -/
def fnd (A : Ab) (k : Nat) : Ab := aS (aS A 0 0 (nI k)) 1 k (A.1 1 k + 1)
abbrev inr (x a b : Int32) : Prop := a ≤ x ∧ x ≤ b
theorem inr_ix {x : Int32} {n : Nat} (h : inr x 0 (nI n)) (hn : n < 2 ^ 30) : ∃ j : Nat, j ≤ n ∧ x = nI j := by
  have h0 : ¬ x < 0 := fun q => by
    have a := Int32.le_iff_toInt_le.mp h.1
    have b := Int32.lt_iff_toInt_lt.mp q
    omega
  exact nI_of2 (nI_toInt (by omega)) h0 h.2
theorem inr_of {x a b : Int32} : (if x < a then (0 : Int32) else if b < x then (0 : Int32) else (1 : Int32)) = 0 ↔ ¬ inr x a b := by
  unfold inr
  by_cases h1 : x < a
  · rw [if_pos h1]
    refine ⟨fun _ q => ?_, fun _ => rfl⟩
    have a1 := Int32.lt_iff_toInt_lt.mp h1
    have a2 := Int32.le_iff_toInt_le.mp q.1
    omega
  · rw [if_neg h1]
    by_cases h2 : b < x
    · rw [if_pos h2]
      refine ⟨fun _ q => ?_, fun _ => rfl⟩
      have a1 := Int32.lt_iff_toInt_lt.mp h2
      have a2 := Int32.le_iff_toInt_le.mp q.2
      omega
    · rw [if_neg h2]
      refine ⟨fun q => absurd q (by decide), fun q => absurd ⟨?_, ?_⟩ q⟩
      · exact Int32.le_iff_toInt_le.mpr (by have : ¬ x.toInt < a.toInt := fun q => h1 (Int32.lt_iff_toInt_lt.mpr q); omega)
      · exact Int32.le_iff_toInt_le.mpr (by have : ¬ b.toInt < x.toInt := fun q => h2 (Int32.lt_iff_toInt_lt.mpr q); omega)
theorem inr_01 {x a b : Int32} : (if x < a then (0 : Int32) else if b < x then (0 : Int32) else (1 : Int32)) = 0 ∨ (if x < a then (0 : Int32) else if b < x then (0 : Int32) else (1 : Int32)) = 1 := by
  split
  · exact Or.inl rfl
  · split
    · exact Or.inl rfl
    · exact Or.inr rfl
/-- a test of a range, on either side -/
theorem e_within {σ : Me} {x a b : Int32} {Q : Int32 → Me → Prop} (ht : inr x a b → Q 1 σ) (hf : ¬ inr x a b → Q 0 σ) : pX11_isWithin σ x a b Q := by
  rintro v rfl
  refine ⟨inr_01, ?_⟩
  by_cases h : inr x a b
  · rw [inr_01.resolve_left (fun q => inr_of.mp q h)]
    exact ht h
  · rw [inr_of.mpr h]
    exact hf h
theorem e_in {σ : Me} {x a b : Int32} {Q : Int32 → Me → Prop} (ht : inr x a b → Q 1 σ) (hf : ¬ inr x a b → Q 0 σ) : pX12_in σ x a b Q := by
  rintro v rfl
  refine ⟨inr_01, ?_⟩
  by_cases h : inr x a b
  · rw [inr_01.resolve_left (fun q => inr_of.mp q h)]
    exact ht h
  · rw [inr_of.mpr h]
    exact hf h
theorem e_isBook {σ : Me} {x : Int32} {Q : Int32 → Me → Prop} (ht : inr x 0 3 → Q 1 σ) (hf : ¬ inr x 0 3 → Q 0 σ) : pX11_isBook σ x Q := e_within (fun h => ⟨Or.inr rfl, ht h⟩) (fun h => ⟨Or.inl rfl, hf h⟩)
theorem e_isSheet {σ : Me} {x : Int32} {Q : Int32 → Me → Prop} (ht : inr x 0 3 → Q 1 σ) (hf : ¬ inr x 0 3 → Q 0 σ) : pX11_isSheet σ x Q := e_within (fun h => ⟨Or.inr rfl, ht h⟩) (fun h => ⟨Or.inl rfl, hf h⟩)
theorem e_isDemand {σ : Me} {x : Int32} {Q : Int32 → Me → Prop} (ht : inr x 0 6 → Q 1 σ) (hf : ¬ inr x 0 6 → Q 0 σ) : pX11_isDemand σ x Q := e_within (fun h => ⟨Or.inr rfl, ht h⟩) (fun h => ⟨Or.inl rfl, hf h⟩)
theorem e_isPosition {σ : Me} {x : Int32} {Q : Int32 → Me → Prop} (ht : inr x (-12) 36 → Q 1 σ) (hf : ¬ inr x (-12) 36 → Q 0 σ) : pX11_isPosition σ x Q := e_within (fun h => ⟨Or.inr rfl, ht h⟩) (fun h => ⟨Or.inl rfl, hf h⟩)
theorem e_isPrice {σ : Me} {x : Int32} {Q : Int32 → Me → Prop} (ht : inr x 0 100 → Q 1 σ) (hf : ¬ inr x 0 100 → Q 0 σ) : pX11_isPrice σ x Q := e_within (fun h => ⟨Or.inr rfl, ht h⟩) (fun h => ⟨Or.inl rfl, hf h⟩)
theorem e_areDays {σ : Me} {x : Int32} {Q : Int32 → Me → Prop} (ht : inr x 1 6 → Q 1 σ) (hf : ¬ inr x 1 6 → Q 0 σ) : pX11_areDays σ x Q := e_within (fun h => ⟨Or.inr rfl, ht h⟩) (fun h => ⟨Or.inl rfl, hf h⟩)
theorem e_isPlace {σ : Me} {x : Int32} {Q : Int32 → Me → Prop} (ht : inr x 0 3 → Q 1 σ) (hf : ¬ inr x 0 3 → Q 0 σ) : pX12_isPlace σ x Q := e_in (fun h => ⟨Or.inr rfl, ht h⟩) (fun h => ⟨Or.inl rfl, hf h⟩)
/-! The reference's world: the object at m, its rows behind it in the order in which they are made. -/
/-- fields that are rows: field, place, kind, length -/
def rowsM : List (Nat × Nat × Nat × Nat) := [(1, 1, 20, 6), (4, 2, 22, 4), (5, 3, 20, 28), (6, 4, 20, 7), (7, 5, 20, 4), (8, 6, 23, 100), (10, 7, 20, 12), (11, 8, 20, 12), (12, 9, 20, 12), (13, 10, 20, 12), (14, 11, 20, 12), (15, 12, 23, 300), (16, 13, 22, 12), (30, 14, 20, 17000), (31, 15, 21, 17000), (33, 16, 20, 17000), (34, 17, 21, 17000), (36, 18, 20, 17000), (37, 19, 20, 17000), (45, 20, 21, 17000), (46, 21, 21, 17000), (56, 22, 20, 6)]
/-- the scalar fields that the common state holds -/
def scM : List Nat := [0, 9, 17, 18, 19, 20, 21, 22, 23, 48, 49, 55]
/-- the rows that it holds: field, place, length -/
def arM : List (Nat × Nat × Nat) := [(1, 1, 6), (4, 2, 4), (5, 3, 28), (7, 5, 4), (8, 6, 100), (10, 7, 12), (11, 8, 12), (12, 9, 12), (13, 10, 12), (14, 11, 12), (15, 12, 300), (16, 13, 12), (56, 22, 6)]
def shM (m : Nat) (σ : Me) : Prop := gT σ m = 12 ∧ ∀ q ∈ rowsM, gP σ m q.1 = some (m + q.2.1) ∧ gT σ (m + q.2.1) = q.2.2.1 ∧ gN σ (m + q.2.1) = q.2.2.2
/-- the stamps: none is above the last one; the last one is small -/
def stM (m n : Nat) (σ : Me) : Prop := ∃ t : Nat, gI σ m 38 = nI t ∧ t ≤ 2000 * n ∧ ∀ j, j < 17000 → ∃ u : Nat, gI σ (m + 19) j = nI u ∧ u ≤ t
def RM (m n : Nat) (σ : Me) (A : Ab) : Prop := shM m σ ∧ (∀ f ∈ scM, gI σ m f = A.1 f 0) ∧ (∀ q ∈ arM, ∀ j, j < q.2.2 → gI σ (m + q.2.1) j = A.1 q.1 j) ∧ gL σ m 2 = A.2.1 ∧ gL σ m 3 = A.2.2 ∧ stM m n σ
theorem shM.row {m : Nat} {σ : Me} (h : shM m σ) (q : Nat × Nat × Nat × Nat) (hq : q ∈ rowsM) : gP σ m q.1 = some (m + q.2.1) ∧ gT σ (m + q.2.1) = q.2.2.1 ∧ gN σ (m + q.2.1) = q.2.2.2 := h.2 q hq
theorem RM.sc {m n : Nat} {σ : Me} {A : Ab} (h : RM m n σ A) (f : Nat) (hf : f ∈ scM) : gI σ m f = A.1 f 0 := h.2.1 f hf
theorem RM.ar {m n : Nat} {σ : Me} {A : Ab} (h : RM m n σ A) (q : Nat × Nat × Nat) (hq : q ∈ arM) {j : Nat} (hj : j < q.2.2) : gI σ (m + q.2.1) j = A.1 q.1 j := h.2.2.1 q hq j hj
theorem RM.same {m n : Nat} {σ σ' : Me} {A : Ab} (h : RM m n σ A) (hs : ∀ q, m ≤ q → q < m + 23 → sameC σ σ' q) : RM m n σ' A := by
  have hb : ∀ q ∈ rowsM, q.2.1 < 23 := by decide
  have hb2 : ∀ q ∈ arM, q.2.1 < 23 := by decide
  obtain ⟨⟨h1, h2⟩, h3, h4, h5, h6, t, h7, h8, h9⟩ := h
  have s0 := hs m (Nat.le_refl _) (by omega)
  refine ⟨⟨by rw [s0.1]; exact h1, fun q hq => ?_⟩, fun f hf => by rw [s0.2.2.1]; exact h3 f hf, fun q hq j hj => ?_, by rw [s0.2.2.2.1]; exact h5, by rw [s0.2.2.2.1]; exact h6, t, by rw [s0.2.2.1]; exact h7, h8, fun j hj => ?_⟩
  · obtain ⟨a1, a2, a3⟩ := h2 q hq
    have s1 := hs (m + q.2.1) (by omega) (by have := hb q hq; omega)
    exact ⟨by rw [s0.2.2.2.2]; exact a1, by rw [s1.1]; exact a2, by rw [s1.2.1]; exact a3⟩
  · have s1 := hs (m + q.2.1) (by omega) (by have := hb2 q hq; omega)
    rw [s1.2.2.1]
    exact h4 q hq j hj
  · have s1 := hs (m + 19) (by omega) (by omega)
    rw [s1.2.2.1]
    exact h9 j hj
theorem RM.frM {z n : Nat} {σ σ' : Me} {A : Ab} (h : RM (z + 36) n σ A) (hf : frM z σ σ') : RM (z + 36) n σ' A := h.same (fun q h1 h2 => hf q (by omega) (by omega))
theorem RM.up {m n : Nat} {σ : Me} {A : Ab} (h : RM m n σ A) : RM m (n + 1) σ A := by
  obtain ⟨h1, h3, h4, h5, h6, t, h7, h8, h9⟩ := h
  exact ⟨h1, h3, h4, h5, h6, t, h7, by omega, h9⟩
theorem RM.setS {m n : Nat} {σ : Me} {A : Ab} (h : RM m n σ A) {f : Nat} (hf : f ∈ scM) (v : Int32) : RM m n (sI σ m f v) (aS A f 0 v) := by
  obtain ⟨h1, h3, h4, h5, h6, t, h7, h8, h9⟩ := h
  have n38 : ∀ f ∈ scM, (38 : Nat) ≠ f := by decide
  have nar : ∀ f ∈ scM, ∀ q ∈ arM, q.1 ≠ f := by decide
  have pos : ∀ q ∈ arM, q.2.1 ≠ 0 := by decide
  refine ⟨h1, fun g hg => ?_, fun q hq j hj => ?_, h5, h6, t, by rw [gI_sI_nk (n38 f hf)]; exact h7, h8, fun j hj => by rw [gI_sI_ne (by omega)]; exact h9 j hj⟩
  · show up2 _ m f v m g = up2 A.1 f 0 v g 0
    by_cases e : g = f
    · subst e
      rw [up2_eq, up2_eq]
    · rw [up2_nk e, up2_ne e]
      exact h3 g hg
  · have := pos q hq
    rw [gI_sI_ne (by omega)]
    show _ = up2 A.1 f 0 v q.1 j
    rw [up2_ne (nar f hf q hq)]
    exact h4 q hq j hj
theorem RM.setA {m n : Nat} {σ : Me} {A : Ab} (h : RM m n σ A) {q : Nat × Nat × Nat} (hq : q ∈ arM) (j : Nat) (v : Int32) : RM m n (sI σ (m + q.2.1) j v) (aS A q.1 j v) := by
  obtain ⟨h1, h3, h4, h5, h6, t, h7, h8, h9⟩ := h
  have pos : ∀ q ∈ arM, q.2.1 ≠ 0 ∧ q.2.1 ≠ 19 := by decide
  have nsc : ∀ q ∈ arM, ∀ f ∈ scM, f ≠ q.1 := by decide
  have inj : ∀ q ∈ arM, ∀ r ∈ arM, (q.2.1 = r.2.1 → q = r) ∧ (q.1 = r.1 → q = r) := by decide
  have p0 := pos q hq
  refine ⟨h1, fun g hg => ?_, fun r hr i hi => ?_, h5, h6, t, by rw [gI_sI_ne (by omega)]; exact h7, h8, fun i hi => by rw [gI_sI_ne (by omega)]; exact h9 i hi⟩
  · rw [gI_sI_ne (by omega)]
    show _ = up2 A.1 q.1 j v g 0
    rw [up2_ne (nsc q hq g hg)]
    exact h3 g hg
  · show up2 _ (m + q.2.1) j v (m + r.2.1) i = up2 A.1 q.1 j v r.1 i
    by_cases e : r = q
    · subst e
      by_cases e2 : i = j
      · subst e2
        rw [up2_eq, up2_eq]
      · rw [up2_nk e2, up2_nk e2]
        exact h4 r hr i hi
    · rw [up2_ne (fun x => e ((inj r hr q hq).1 (by omega))), up2_ne (fun x => e ((inj r hr q hq).2 x))]
      exact h4 r hr i hi
/-- a scalar field that the common state doesn't hold -/
theorem RM.scrS {m n : Nat} {σ : Me} {A : Ab} (h : RM m n σ A) {k : Nat} (hk : k ∉ scM ∧ k ≠ 38) (v : Int32) : RM m n (sI σ m k v) A := by
  obtain ⟨h1, h3, h4, h5, h6, t, h7, h8, h9⟩ := h
  have pos : ∀ q ∈ arM, q.2.1 ≠ 0 := by decide
  refine ⟨h1, fun g hg => ?_, fun q hq j hj => ?_, h5, h6, t, by rw [gI_sI_nk (Ne.symm hk.2)]; exact h7, h8, fun j hj => by rw [gI_sI_ne (by omega)]; exact h9 j hj⟩
  · rw [gI_sI_nk (show g ≠ k from fun e => hk.1 (by rw [← e]; exact hg))]
    exact h3 g hg
  · have := pos q hq
    rw [gI_sI_ne (by omega)]
    exact h4 q hq j hj
theorem RM.scrA {m n : Nat} {σ : Me} {A : Ab} (h : RM m n σ A) {o : Nat} (ho : (o = 4 ∨ o = 14 ∨ o = 16 ∨ o = 18)) (j : Nat) (v : Int32) : RM m n (sI σ (m + o) j v) A := by
  obtain ⟨h1, h3, h4, h5, h6, t, h7, h8, h9⟩ := h
  have pos : ∀ q ∈ arM, q.2.1 ≠ 4 ∧ q.2.1 ≠ 14 ∧ q.2.1 ≠ 16 ∧ q.2.1 ≠ 18 := by decide
  refine ⟨h1, fun g hg => by rw [gI_sI_ne (by omega)]; exact h3 g hg, fun q hq i hi => ?_, h5, h6, t, by rw [gI_sI_ne (by omega)]; exact h7, h8, fun i hi => by rw [gI_sI_ne (by omega)]; exact h9 i hi⟩
  have := pos q hq
  rw [gI_sI_ne (by omega)]
  exact h4 q hq i hi
theorem RM.scrL {m n : Nat} {σ : Me} {A : Ab} (h : RM m n σ A) {a k : Nat} (hk : a ≠ m ∨ (k ≠ 2 ∧ k ≠ 3)) (v : Int64) : RM m n (sL σ a k v) A := by
  obtain ⟨h1, h3, h4, h5, h6, h7⟩ := h
  refine ⟨h1, h3, h4, ?_, ?_, h7⟩
  · rcases hk with hk | hk
    · rw [gL_sL_ne (Ne.symm hk)]; exact h5
    · rw [gL_sL_nk (Ne.symm hk.1)]; exact h5
  · rcases hk with hk | hk
    · rw [gL_sL_ne (Ne.symm hk)]; exact h6
    · rw [gL_sL_nk (Ne.symm hk.2)]; exact h6
theorem RM.tell {m n : Nat} {σ : Me} {A : Ab} (h : RM m n σ A) (u v : Int64) : RM m n (sL (sL σ m 2 u) m 3 v) (A.1, u, v) := by
  obtain ⟨h1, h3, h4, h5, h6, h7⟩ := h
  exact ⟨h1, h3, h4, by rw [gL_sL_nk (by decide), gL_sL_eq], gL_sL_eq, h7⟩
/-- the reference meets a finding -/
theorem M_meets {m n : Nat} {σ : Me} {A : Ab} (h : RM m n σ A) {k : Nat} (hk : k < 6) {Q : Int32 → Me → Prop} (hQ : ∀ σ', RM m n σ' (fnd A k) → (∀ q, q ≠ m → q ≠ m + 1 → sameC σ σ' q) → gz σ' = gz σ → Q (-3) σ') : pX12_meets σ m (nI k) Q := by
  have r1 := h.1.row (1, 1, 20, 6) (by decide)
  have hin : vp_in (nI k) 6 := vp_in_nI hk (by omega)
  refine ⟨h.1.1, ?_⟩
  rintro _ rfl
  refine ⟨m + 1, r1.1, r1.2.1, by rw [gN_sI, r1.2.2]; exact hin, by rw [gN_sI, r1.2.2]; exact hin, ?_⟩
  rintro _ rfl
  have h1 := h.setS (f := 0) (by decide) (nI k)
  have e : gI (sI σ m 0 (nI k)) (m + 1) (nI k).toNatClampNeg = A.1 1 k := by
    rw [nI_clamp (by omega), gI_sI_ne (by omega)]
    exact h.ar (1, 1, 6) (by decide) hk
  rw [e]
  refine hQ _ ?_ (fun q q1 q2 => .tr (.sI q1) (.sI q2)) rfl
  rw [nI_clamp (by omega)]
  exact h1.setA (q := (1, 1, 6)) (by decide) k (A.1 1 k + 1)
