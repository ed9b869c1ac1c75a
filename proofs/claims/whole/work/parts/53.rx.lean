/-! The class's world: the object at z, what it made behind it, the rules' objects from z + 59 on. -/
def tgX : List (Nat × Nat × Nat) := [(0, 11, 0), (1, 24, 4), (2, 26, 4), (3, 23, 25), (4, 23, 25), (5, 23, 25), (6, 23, 25), (7, 20, 4), (8, 25, 12), (9, 6, 0), (10, 20, 25), (11, 20, 25), (12, 20, 25), (13, 20, 6), (14, 20, 6), (15, 1, 0), (16, 20, 7), (17, 1, 0), (18, 20, 7), (19, 1, 0), (20, 20, 7), (21, 1, 0), (22, 20, 7), (23, 8, 0), (24, 21, 481), (25, 21, 481), (26, 20, 481), (27, 20, 481), (28, 10, 0), (29, 20, 49), (30, 22, 49), (31, 4, 0), (32, 21, 325), (33, 21, 325), (34, 7, 0), (35, 20, 3)]
def rfX : List (Nat × Nat × Nat) := [(0, 0, 1), (0, 1, 2), (0, 2, 7), (0, 3, 8), (0, 5, 9), (0, 6, 28), (0, 7, 31), (0, 8, 34), (0, 12, 13), (0, 17, 14), (1, 0, 15), (1, 1, 17), (1, 2, 19), (1, 3, 21), (2, 0, 3), (2, 1, 4), (2, 2, 5), (2, 3, 6), (9, 7, 10), (9, 8, 11), (9, 9, 12), (15, 1, 16), (17, 1, 18), (19, 1, 20), (21, 1, 22), (28, 0, 9), (28, 1, 23), (28, 2, 29), (28, 3, 30), (31, 0, 9), (34, 0, 23), (34, 1, 35)]
/-- where the common state's ints stand: field, place in it, cell, slot -/
def ceX : List (Nat × Nat × Nat × Nat) := [(9, 0, 0, 4), (0, 0, 0, 16), (55, 0, 0, 13), (17, 0, 9, 0), (18, 0, 9, 1), (19, 0, 9, 2), (20, 0, 9, 3), (21, 0, 9, 4), (22, 0, 9, 5), (23, 0, 9, 6), (4, 0, 15, 0), (4, 1, 17, 0), (4, 2, 19, 0), (4, 3, 21, 0), (5, 0, 16, 0), (5, 1, 16, 1), (5, 2, 16, 2), (5, 3, 16, 3), (5, 4, 16, 4), (5, 5, 16, 5), (5, 6, 16, 6), (5, 7, 18, 0), (5, 8, 18, 1), (5, 9, 18, 2), (5, 10, 18, 3), (5, 11, 18, 4), (5, 12, 18, 5), (5, 13, 18, 6), (5, 14, 20, 0), (5, 15, 20, 1), (5, 16, 20, 2), (5, 17, 20, 3), (5, 18, 20, 4), (5, 19, 20, 5), (5, 20, 20, 6), (5, 21, 22, 0), (5, 22, 22, 1), (5, 23, 22, 2), (5, 24, 22, 3), (5, 25, 22, 4), (5, 26, 22, 5), (5, 27, 22, 6), (7, 0, 7, 0), (7, 1, 7, 1), (7, 2, 7, 2), (7, 3, 7, 3), (8, 0, 3, 0), (8, 1, 3, 1), (8, 2, 3, 2), (8, 3, 3, 3), (8, 4, 3, 4), (8, 5, 3, 5), (8, 6, 3, 6), (8, 7, 3, 7), (8, 8, 3, 8), (8, 9, 3, 9), (8, 10, 3, 10), (8, 11, 3, 11), (8, 12, 3, 12), (8, 13, 3, 13), (8, 14, 3, 14), (8, 15, 3, 15), (8, 16, 3, 16), (8, 17, 3, 17), (8, 18, 3, 18), (8, 19, 3, 19), (8, 20, 3, 20), (8, 21, 3, 21), (8, 22, 3, 22), (8, 23, 3, 23), (8, 24, 3, 24), (8, 25, 4, 0), (8, 26, 4, 1), (8, 27, 4, 2), (8, 28, 4, 3), (8, 29, 4, 4), (8, 30, 4, 5), (8, 31, 4, 6), (8, 32, 4, 7), (8, 33, 4, 8), (8, 34, 4, 9), (8, 35, 4, 10), (8, 36, 4, 11), (8, 37, 4, 12), (8, 38, 4, 13), (8, 39, 4, 14), (8, 40, 4, 15), (8, 41, 4, 16), (8, 42, 4, 17), (8, 43, 4, 18), (8, 44, 4, 19), (8, 45, 4, 20), (8, 46, 4, 21), (8, 47, 4, 22), (8, 48, 4, 23), (8, 49, 4, 24), (8, 50, 5, 0), (8, 51, 5, 1), (8, 52, 5, 2), (8, 53, 5, 3), (8, 54, 5, 4), (8, 55, 5, 5), (8, 56, 5, 6), (8, 57, 5, 7), (8, 58, 5, 8), (8, 59, 5, 9), (8, 60, 5, 10), (8, 61, 5, 11), (8, 62, 5, 12), (8, 63, 5, 13), (8, 64, 5, 14), (8, 65, 5, 15), (8, 66, 5, 16), (8, 67, 5, 17), (8, 68, 5, 18), (8, 69, 5, 19), (8, 70, 5, 20), (8, 71, 5, 21), (8, 72, 5, 22), (8, 73, 5, 23), (8, 74, 5, 24), (8, 75, 6, 0), (8, 76, 6, 1), (8, 77, 6, 2), (8, 78, 6, 3), (8, 79, 6, 4), (8, 80, 6, 5), (8, 81, 6, 6), (8, 82, 6, 7), (8, 83, 6, 8), (8, 84, 6, 9), (8, 85, 6, 10), (8, 86, 6, 11), (8, 87, 6, 12), (8, 88, 6, 13), (8, 89, 6, 14), (8, 90, 6, 15), (8, 91, 6, 16), (8, 92, 6, 17), (8, 93, 6, 18), (8, 94, 6, 19), (8, 95, 6, 20), (8, 96, 6, 21), (8, 97, 6, 22), (8, 98, 6, 23), (8, 99, 6, 24), (56, 0, 13, 0), (56, 1, 13, 1), (56, 2, 13, 2), (56, 3, 13, 3), (56, 4, 13, 4), (56, 5, 13, 5), (1, 0, 14, 0), (1, 1, 14, 1), (1, 2, 14, 2), (1, 3, 14, 3), (1, 4, 14, 4), (1, 5, 14, 5)]
def shX (z : Nat) (σ : Me) : Prop := (∀ q ∈ tgX, gT σ (z + q.1) = q.2.1 ∧ gN σ (z + q.1) = q.2.2) ∧ (∀ q ∈ rfX, gP σ (z + q.1) q.2.1 = some (z + q.2.2)) ∧ z + 59 ≤ gz σ
/-- the spread between two calls: tomorrow is empty, today's weights lie at the listed places -/
def spX (z : Nat) (σ : Me) : Prop := ∃ a b c d : Nat, ((a = 24 ∧ b = 25 ∧ c = 26 ∧ d = 27) ∨ (a = 25 ∧ b = 24 ∧ c = 27 ∧ d = 26)) ∧ gP σ (z + 23) 0 = some (z + a) ∧ gP σ (z + 23) 1 = some (z + b) ∧ gP σ (z + 23) 2 = some (z + c) ∧ gP σ (z + 23) 3 = some (z + d) ∧ gI σ (z + 23) 5 = 0 ∧ (∀ p, p < 481 → gL σ (z + b) p = 0) ∧ ∃ k, k ≤ 481 ∧ gI σ (z + 23) 4 = nI k ∧ (∀ i, i < k → ∃ p, p < 481 ∧ gI σ (z + c) i = nI p) ∧ ∀ p, p < 481 → gL σ (z + a) p ≠ 0 → ∃ i, i < k ∧ gI σ (z + c) i = nI p
def plX (z : Nat) (σ : Me) : Prop := (gP σ (z + 31) 1 = some (z + 32) ∧ gP σ (z + 31) 2 = some (z + 33)) ∨ (gP σ (z + 31) 1 = some (z + 33) ∧ gP σ (z + 31) 2 = some (z + 32))
/-- a rule's object -/
def ruO (z : Nat) (σ : Me) (q : Nat) (A : Ab) (r : Nat) : Prop :=
  (A.1 10 r = 0 ∧ gT σ q = 9 ∧ ∃ y k : Nat, gP σ q 0 = some y ∧ (z + 59 ≤ y ∧ y < gz σ) ∧ gT σ y = 23 ∧ gN σ y = k ∧ k ≤ 25 ∧ A.1 14 r = nI k ∧ ∀ i, i < k → gI σ y i = A.1 15 (25 * r + i)) ∨
  (A.1 10 r = 1 ∧ gT σ q = 0 ∧ gI σ q 0 = A.1 12 r) ∨ (A.1 10 r = 2 ∧ gT σ q = 3 ∧ gI σ q 0 = A.1 12 r ∧ gI σ q 1 = A.1 11 r) ∨ (A.1 10 r = 3 ∧ gT σ q = 2 ∧ gI σ q 0 = A.1 11 r ∧ gI σ q 1 = A.1 13 r)
def ruX (z : Nat) (σ : Me) (A : Ab) : Prop := ∀ r, r < 12 → (r < ix (A.1 9 0) ∧ A.1 16 r = 0 → ∃ q, gP σ (z + 8) r = some q ∧ (z + 59 ≤ q ∧ q < gz σ) ∧ ruO z σ q A r) ∧ (¬ (r < ix (A.1 9 0) ∧ A.1 16 r = 0) → gP σ (z + 8) r = none)
def prX (z : Nat) (σ : Me) (A : Ab) : Prop := (gI σ z 9 = 0 ∧ A.1 48 0 = -9 ∧ A.1 49 0 = -9) ∨ (gI σ z 9 = 1 ∧ gI σ z 10 = A.1 48 0 ∧ gI σ z 11 = A.1 49 0)
def RX (z : Nat) (σ : Me) (A : Ab) : Prop := shX z σ ∧ (∀ q ∈ ceX, gI σ (z + q.2.2.1) q.2.2.2 = A.1 q.1 q.2.1) ∧ (gL σ z 14 = A.2.1 ∧ gL σ z 15 = A.2.2) ∧ prX z σ A ∧ ruX z σ A ∧ spX z σ ∧ plX z σ
theorem ce4 : ∀ b, b < 4 → (4, b, 15 + 2 * b, 0) ∈ ceX := by decide
theorem ce5f : ∀ (b : Fin 4) (d : Fin 7), (5, 7 * b.val + d.val, 16 + 2 * b.val, d.val) ∈ ceX := by decide +kernel
theorem ce5 (b : Nat) (hb : b < 4) (d : Nat) (hd : d < 7) : (5, 7 * b + d, 16 + 2 * b, d) ∈ ceX := ce5f ⟨b, hb⟩ ⟨d, hd⟩
theorem ce7 : ∀ s, s < 4 → (7, s, 7, s) ∈ ceX := by decide
theorem ce8f : ∀ (s : Fin 4) (i : Fin 25), (8, 25 * s.val + i.val, 3 + s.val, i.val) ∈ ceX := by decide +kernel
theorem ce8 (s : Nat) (hs : s < 4) (i : Nat) (hi : i < 25) : (8, 25 * s + i, 3 + s, i) ∈ ceX := ce8f ⟨s, hs⟩ ⟨i, hi⟩
theorem ce56 : ∀ k, k < 6 → (56, k, 13, k) ∈ ceX := by decide
theorem ce1 : ∀ k, k < 6 → (1, k, 14, k) ∈ ceX := by decide
theorem ce_b : ∀ q ∈ ceX, q.2.2.1 < 23 ∧ ¬ (10 ≤ q.2.2.1 ∧ q.2.2.1 ≤ 12) ∧ (q.2.2.1 = 0 → q.2.2.2 = 4 ∨ q.2.2.2 = 13 ∨ q.2.2.2 = 16) ∧ q.2.2.1 ≠ 8 := by decide +kernel
theorem ce_f : ∀ q ∈ ceX, q.1 ≠ 10 ∧ q.1 ≠ 11 ∧ q.1 ≠ 12 ∧ q.1 ≠ 13 ∧ q.1 ≠ 14 ∧ q.1 ≠ 15 ∧ q.1 ≠ 16 ∧ q.1 ≠ 48 ∧ q.1 ≠ 49 := by decide +kernel
set_option maxRecDepth 100000 in
theorem ce_inj : ∀ q ∈ ceX, ∀ r ∈ ceX, (q.2.2 = r.2.2 → q = r) ∧ ((q.1, q.2.1) = (r.1, r.2.1) → q = r) := by decide +kernel
theorem tg_b : ∀ q ∈ tgX, q.1 < 36 := by decide
theorem rf_b : ∀ q ∈ rfX, q.1 < 36 ∧ ¬ (10 ≤ q.1 ∧ q.1 ≤ 12) := by decide
theorem shX.tg {z : Nat} {σ : Me} (h : shX z σ) (q : Nat × Nat × Nat) (hq : q ∈ tgX) : gT σ (z + q.1) = q.2.1 ∧ gN σ (z + q.1) = q.2.2 := h.1 q hq
theorem shX.rf {z : Nat} {σ : Me} (h : shX z σ) (q : Nat × Nat × Nat) (hq : q ∈ rfX) : gP σ (z + q.1) q.2.1 = some (z + q.2.2) := h.2.1 q hq
theorem RX.ce {z : Nat} {σ : Me} {A : Ab} (h : RX z σ A) (q : Nat × Nat × Nat × Nat) (hq : q ∈ ceX) : gI σ (z + q.2.2.1) q.2.2.2 = A.1 q.1 q.2.1 := h.2.1 q hq
/-- cells of the class's world that hold nothing of the common state -/
def scr (o : Nat) : Prop := (10 ≤ o ∧ o ≤ 12) ∨ (23 ≤ o ∧ o ≤ 35)
theorem ruO.same {z : Nat} {σ σ' : Me} {q r : Nat} {A : Ab} (h : ruO z σ q A r) (hq : z + 59 ≤ q ∧ q < gz σ) (hs : ∀ y, z + 59 ≤ y → y < gz σ → sameC σ σ' y) (hz : gz σ ≤ gz σ') : ruO z σ' q A r := by
  have s0 := hs q hq.1 hq.2
  rcases h with ⟨a1, a2, y, k, b1, b2, b3, b4, b5, b6, b7⟩ | ⟨a1, a2, a3⟩ | ⟨a1, a2, a3, a4⟩ | ⟨a1, a2, a3, a4⟩
  · have s1 := hs y b2.1 b2.2
    exact Or.inl ⟨a1, by rw [s0.1]; exact a2, y, k, by rw [s0.2.2.2.2]; exact b1, ⟨b2.1, by omega⟩, by rw [s1.1]; exact b3, by rw [s1.2.1]; exact b4, b5, b6, fun i hi => by rw [s1.2.2.1]; exact b7 i hi⟩
  · exact Or.inr (Or.inl ⟨a1, by rw [s0.1]; exact a2, by rw [s0.2.2.1]; exact a3⟩)
  · exact Or.inr (Or.inr (Or.inl ⟨a1, by rw [s0.1]; exact a2, by rw [s0.2.2.1]; exact a3, by rw [s0.2.2.1]; exact a4⟩))
  · exact Or.inr (Or.inr (Or.inr ⟨a1, by rw [s0.1]; exact a2, by rw [s0.2.2.1]; exact a3, by rw [s0.2.2.1]; exact a4⟩))
/-- only cells that hold nothing of the common state have changed -/
theorem RX.scrd {z : Nat} {σ σ' : Me} {A : Ab} (h : RX z σ A) (hs : ∀ q, (q < z + 36 ∨ z + 59 ≤ q) → (∀ o, q = z + o → ¬ scr o) → sameC σ σ' q) (hz : gz σ ≤ gz σ') (h1 : shX z σ') (h2 : spX z σ') (h3 : plX z σ') : RX z σ' A := by
  have hs0 : sameC σ σ' z := hs z (by omega) (fun o e => by unfold scr; omega)
  have hs8 : sameC σ σ' (z + 8) := hs _ (by omega) (fun o e => by unfold scr; omega)
  have hsr : ∀ y, z + 59 ≤ y → y < gz σ → sameC σ σ' y := fun y hy _ => hs y (by omega) (fun o e => by unfold scr; omega)
  refine ⟨h1, fun q hq => ?_, ⟨by rw [hs0.2.2.2.1]; exact h.2.2.1.1, by rw [hs0.2.2.2.1]; exact h.2.2.1.2⟩, ?_, fun r hr => ⟨fun hc => ?_, fun hc => ?_⟩, h2, h3⟩
  · have b := ce_b q hq
    rw [(hs (z + q.2.2.1) (by omega) (fun o e => by unfold scr; omega)).2.2.1]
    exact h.2.1 q hq
  · rcases h.2.2.2.1 with ⟨a1, a2⟩ | ⟨a1, a2, a3⟩
    · exact Or.inl ⟨by rw [hs0.2.2.1]; exact a1, a2⟩
    · exact Or.inr ⟨by rw [hs0.2.2.1]; exact a1, by rw [hs0.2.2.1]; exact a2, by rw [hs0.2.2.1]; exact a3⟩
  · obtain ⟨q, a1, a2, a3⟩ := (h.2.2.2.2.1 r hr).1 hc
    exact ⟨q, by rw [hs8.2.2.2.2]; exact a1, ⟨a2.1, by omega⟩, a3.same a2 hsr hz⟩
  · rw [hs8.2.2.2.2]
    exact (h.2.2.2.2.1 r hr).2 hc
theorem spX.same {z : Nat} {σ σ' : Me} (h : spX z σ) (hs : ∀ o, 23 ≤ o → o ≤ 27 → sameC σ σ' (z + o)) : spX z σ' := by
  obtain ⟨a, b, c, d, e, p0, p1, p2, p3, n5, w, k, hk, n4, l1, l2⟩ := h
  have s0 := hs 23 (by omega) (by omega)
  have sa := hs a (by omega) (by omega)
  have sb := hs b (by omega) (by omega)
  have sc := hs c (by omega) (by omega)
  exact ⟨a, b, c, d, e, by rw [s0.2.2.2.2]; exact p0, by rw [s0.2.2.2.2]; exact p1, by rw [s0.2.2.2.2]; exact p2, by rw [s0.2.2.2.2]; exact p3, by rw [s0.2.2.1]; exact n5, fun p hp => by rw [sb.2.2.2.1]; exact w p hp, k, hk, by rw [s0.2.2.1]; exact n4, fun i hi => by rw [sc.2.2.1]; exact l1 i hi, fun p hp q => by
    rw [sa.2.2.2.1] at q
    obtain ⟨i, hi, ei⟩ := l2 p hp q
    exact ⟨i, hi, by rw [sc.2.2.1]; exact ei⟩⟩
theorem plX.same {z : Nat} {σ σ' : Me} (h : plX z σ) (hs : sameC σ σ' (z + 31)) : plX z σ' := by
  unfold plX
  rw [hs.2.2.2.2, hs.2.2.2.2]
  exact h
theorem shX.same {z : Nat} {σ σ' : Me} (h : shX z σ) (hT : ∀ o, o < 36 → gT σ' (z + o) = gT σ (z + o)) (hN : ∀ o, o < 36 → gN σ' (z + o) = gN σ (z + o)) (hP : ∀ q ∈ rfX, gP σ' (z + q.1) q.2.1 = gP σ (z + q.1) q.2.1) (hz : gz σ ≤ gz σ') : shX z σ' := by
  refine ⟨fun q hq => ?_, fun q hq => by rw [hP q hq]; exact h.2.1 q hq, Nat.le_trans h.2.2 hz⟩
  have b := tg_b q hq
  rw [hT q.1 b, hN q.1 b]
  exact h.1 q hq
theorem RX.frX {z : Nat} {σ σ' : Me} {A : Ab} (h : RX z σ A) (hf : frX z σ σ') : RX z σ' A := by
  have hs : ∀ o, o < 36 → sameC σ σ' (z + o) := fun o ho => hf.2 _ (by omega)
  refine h.scrd (fun q hq _ => hf.2 q hq) (by rw [hf.1]; exact Nat.le_refl _) (h.1.same (fun o ho => (hs o ho).1) (fun o ho => (hs o ho).2.1) (fun q hq => (hs q.1 (rf_b q hq).1).2.2.2.2 _) (by rw [hf.1]; exact Nat.le_refl _)) (h.2.2.2.2.2.1.same (fun o _ _ => hs o (by omega))) (h.2.2.2.2.2.2.same (hs 31 (by omega)))
/-- one int of the common state (not the number of rules) is set -/
theorem RX.set {z : Nat} {σ : Me} {A : Ab} (h : RX z σ A) {q : Nat × Nat × Nat × Nat} (hq : q ∈ ceX) (h9 : q.1 ≠ 9) (v : Int32) : RX z (sI σ (z + q.2.2.1) q.2.2.2 v) (aS A q.1 q.2.1 v) := by
  have b := ce_b q hq
  have f := ce_f q hq
  have hne : ∀ o, o ≠ q.2.2.1 → sameC σ (sI σ (z + q.2.2.1) q.2.2.2 v) (z + o) := fun o ho => .sI (by omega)
  have eA : ∀ g j, g ≠ q.1 → (aS A q.1 q.2.1 v).1 g j = A.1 g j := fun g j hg => up2_ne hg
  refine ⟨h.1, fun r hr => ?_, h.2.2.1, ?_, fun r hr => ?_, h.2.2.2.2.2.1.same (fun o h1 h2 => hne o (by omega)), h.2.2.2.2.2.2⟩
  · by_cases e : r = q
    · subst e
      rw [gI_sI_eq]
      exact up2_eq.symm
    · have e1 : ¬ (z + r.2.2.1 = z + q.2.2.1 ∧ r.2.2.2 = q.2.2.2) := fun x => e ((ce_inj r hr q hq).1 (Prod.ext (by omega) x.2))
      have e2 : ¬ (r.1 = q.1 ∧ r.2.1 = q.2.1) := fun x => e ((ce_inj r hr q hq).2 (Prod.ext x.1 x.2))
      show up2 _ _ _ _ _ _ = up2 _ _ _ _ _ _
      unfold up2
      rw [if_neg e1, if_neg e2]
      exact h.2.1 r hr
  · have k9 : ∀ k, (k = 9 ∨ k = 10 ∨ k = 11) → gI (sI σ (z + q.2.2.1) q.2.2.2 v) z k = gI σ z k := fun k hk => by
      by_cases e : q.2.2.1 = 0
      · rw [gI_sI_nk (by have := b.2.2.1 e; omega)]
      · rw [gI_sI_ne (by omega)]
    unfold prX
    rw [k9 9 (by omega), k9 10 (by omega), k9 11 (by omega), eA 48 0 (Ne.symm f.2.2.2.2.2.2.2.1), eA 49 0 (Ne.symm f.2.2.2.2.2.2.2.2)]
    exact h.2.2.2.1
  · have e8 : ∀ j, gP (sI σ (z + q.2.2.1) q.2.2.2 v) (z + 8) j = gP σ (z + 8) j := fun j => rfl
    rw [eA 9 0 (Ne.symm h9), eA 16 r (Ne.symm f.2.2.2.2.2.2.1)]
    refine ⟨fun hc => ?_, fun hc => (h.2.2.2.2.1 r hr).2 hc⟩
    obtain ⟨y, a1, a2, a3⟩ := (h.2.2.2.2.1 r hr).1 hc
    refine ⟨y, a1, a2, ?_⟩
    have a4 := a3.same (σ' := sI σ (z + q.2.2.1) q.2.2.2 v) a2 (fun x hx _ => .sI (by omega)) (Nat.le_refl _)
    unfold ruO at a4 ⊢
    simp only [eA 10 _ (Ne.symm f.1), eA 11 _ (Ne.symm f.2.1), eA 12 _ (Ne.symm f.2.2.1), eA 13 _ (Ne.symm f.2.2.2.1), eA 14 _ (Ne.symm f.2.2.2.2.1), eA 15 _ (Ne.symm f.2.2.2.2.2.1)]
    exact a4
theorem RX.tell {z : Nat} {σ : Me} {A : Ab} (h : RX z σ A) (u v : Int64) : RX z (sL (sL σ z 14 u) z 15 v) (A.1, u, v) := by
  have hs : ∀ o, 0 < o → sameC σ (sL (sL σ z 14 u) z 15 v) (z + o) := fun o ho => .tr (.sL (by omega)) (.sL (by omega))
  refine ⟨h.1, h.2.1, ⟨by rw [gL_sL_nk (by decide), gL_sL_eq], gL_sL_eq⟩, h.2.2.2.1, fun r hr => ⟨fun hc => ?_, (h.2.2.2.2.1 r hr).2⟩, h.2.2.2.2.2.1.same (fun o h1 h2 => hs o (by omega)), h.2.2.2.2.2.2⟩
  obtain ⟨y, a1, a2, a3⟩ := (h.2.2.2.2.1 r hr).1 hc
  exact ⟨y, a1, a2, a3.same a2 (fun x hx _ => .tr (.sL (by omega)) (.sL (by omega))) (Nat.le_refl _)⟩
