/-! What the common state keeps to is kept. -/
def okV (f j : Nat) (v : Int32) : Prop := (f = 4 → j < 4 → v = 0 ∨ v = 1) ∧ (f = 5 → j < 28 → ∃ w, w ≤ 9 ∧ v = nI w) ∧ (f = 7 → j < 4 → v = -1 ∨ ∃ k, k ≤ 25 ∧ v = nI k) ∧ (f = 8 → j < 100 → v.toInt8.toInt32 = v) ∧ (f = 9 → j = 0 → ∃ r, r ≤ 12 ∧ v = nI r) ∧ (f = 17 → j = 0 → ∃ k, 1 ≤ k ∧ k ≤ 12 ∧ v = nI k) ∧ (f = 18 → j = 0 → ∃ k, k ≤ 2 ∧ v = nI k) ∧ (f = 19 → j = 0 → v = 0 ∨ v = 1) ∧ ((f = 20 ∨ f = 21 ∨ f = 22 ∨ f = 23) → j = 0 → ∃ k, k ≤ 100 ∧ v = nI k) ∧ (f = 55 → j = 0 → ∃ k, k ≤ 6 ∧ v = nI k) ∧ (f = 56 → j < 6 → ∃ d, d ≤ 6 ∧ v = nI d)
theorem WF.ok {A : Ab} (h : WF A) (f j : Nat) : okV f j (A.1 f j) := by
  obtain ⟨h1, h2, h3, h4, h5, h6, h7, h8, h9, h10, h11⟩ := h
  exact ⟨fun e hj => by subst e; exact h1 j hj, fun e hj => by subst e; exact h2 j hj, fun e hj => by subst e; exact h3 j hj, fun e hj => by subst e; exact h4 j hj, fun e hj => by subst e hj; exact h5, fun e hj => by subst e hj; exact h6, fun e hj => by subst e hj; exact h7, fun e hj => by subst e hj; exact h8, fun e hj => by subst hj; exact h9 f e, fun e hj => by subst e hj; exact h10, fun e hj => by subst e; exact h11 j hj⟩
theorem WF.of {A : Ab} (h : ∀ f j, okV f j (A.1 f j)) : WF A := ⟨fun b hb => (h 4 b).1 rfl hb, fun b hb => (h 5 b).2.1 rfl hb, fun b hb => (h 7 b).2.2.1 rfl hb, fun b hb => (h 8 b).2.2.2.1 rfl hb, (h 9 0).2.2.2.2.1 rfl rfl, (h 17 0).2.2.2.2.2.1 rfl rfl, (h 18 0).2.2.2.2.2.2.1 rfl rfl, (h 19 0).2.2.2.2.2.2.2.1 rfl rfl, fun f hf => (h f 0).2.2.2.2.2.2.2.2.1 hf rfl, (h 55 0).2.2.2.2.2.2.2.2.2.1 rfl rfl, fun j hj => (h 56 j).2.2.2.2.2.2.2.2.2.2 rfl hj⟩
theorem ok4 {j : Nat} {v : Int32} (h : j < 4 → v = 0 ∨ v = 1) : okV 4 j v := ⟨fun _ hj => h hj, fun e => absurd e (by decide), fun e => absurd e (by decide), fun e => absurd e (by decide), fun e => absurd e (by decide), fun e => absurd e (by decide), fun e => absurd e (by decide), fun e => absurd e (by decide), fun e => absurd e (by decide), fun e => absurd e (by decide), fun e => absurd e (by decide)⟩
theorem ok5 {j : Nat} {v : Int32} (h : j < 28 → ∃ w, w ≤ 9 ∧ v = nI w) : okV 5 j v := ⟨fun e => absurd e (by decide), fun _ hj => h hj, fun e => absurd e (by decide), fun e => absurd e (by decide), fun e => absurd e (by decide), fun e => absurd e (by decide), fun e => absurd e (by decide), fun e => absurd e (by decide), fun e => absurd e (by decide), fun e => absurd e (by decide), fun e => absurd e (by decide)⟩
theorem ok7 {j : Nat} {v : Int32} (h : j < 4 → v = -1 ∨ ∃ k, k ≤ 25 ∧ v = nI k) : okV 7 j v := ⟨fun e => absurd e (by decide), fun e => absurd e (by decide), fun _ hj => h hj, fun e => absurd e (by decide), fun e => absurd e (by decide), fun e => absurd e (by decide), fun e => absurd e (by decide), fun e => absurd e (by decide), fun e => absurd e (by decide), fun e => absurd e (by decide), fun e => absurd e (by decide)⟩
theorem ok8 {j : Nat} {v : Int32} (h : j < 100 → v.toInt8.toInt32 = v) : okV 8 j v := ⟨fun e => absurd e (by decide), fun e => absurd e (by decide), fun e => absurd e (by decide), fun _ hj => h hj, fun e => absurd e (by decide), fun e => absurd e (by decide), fun e => absurd e (by decide), fun e => absurd e (by decide), fun e => absurd e (by decide), fun e => absurd e (by decide), fun e => absurd e (by decide)⟩
theorem ok9 {j : Nat} {v : Int32} (h : ∃ r, r ≤ 12 ∧ v = nI r) : okV 9 j v := ⟨fun e => absurd e (by decide), fun e => absurd e (by decide), fun e => absurd e (by decide), fun e => absurd e (by decide), fun _ _ => h, fun e => absurd e (by decide), fun e => absurd e (by decide), fun e => absurd e (by decide), fun e => absurd e (by decide), fun e => absurd e (by decide), fun e => absurd e (by decide)⟩
theorem ok17 {j : Nat} {v : Int32} (h : ∃ k, 1 ≤ k ∧ k ≤ 12 ∧ v = nI k) : okV 17 j v := ⟨fun e => absurd e (by decide), fun e => absurd e (by decide), fun e => absurd e (by decide), fun e => absurd e (by decide), fun e => absurd e (by decide), fun _ _ => h, fun e => absurd e (by decide), fun e => absurd e (by decide), fun e => absurd e (by decide), fun e => absurd e (by decide), fun e => absurd e (by decide)⟩
theorem ok18 {j : Nat} {v : Int32} (h : ∃ k, k ≤ 2 ∧ v = nI k) : okV 18 j v := ⟨fun e => absurd e (by decide), fun e => absurd e (by decide), fun e => absurd e (by decide), fun e => absurd e (by decide), fun e => absurd e (by decide), fun e => absurd e (by decide), fun _ _ => h, fun e => absurd e (by decide), fun e => absurd e (by decide), fun e => absurd e (by decide), fun e => absurd e (by decide)⟩
theorem ok19 {j : Nat} {v : Int32} (h : v = 0 ∨ v = 1) : okV 19 j v := ⟨fun e => absurd e (by decide), fun e => absurd e (by decide), fun e => absurd e (by decide), fun e => absurd e (by decide), fun e => absurd e (by decide), fun e => absurd e (by decide), fun e => absurd e (by decide), fun _ _ => h, fun e => absurd e (by decide), fun e => absurd e (by decide), fun e => absurd e (by decide)⟩
theorem ok20 {j : Nat} {v : Int32} (h : ∃ k, k ≤ 100 ∧ v = nI k) : okV 20 j v := ⟨fun e => absurd e (by decide), fun e => absurd e (by decide), fun e => absurd e (by decide), fun e => absurd e (by decide), fun e => absurd e (by decide), fun e => absurd e (by decide), fun e => absurd e (by decide), fun e => absurd e (by decide), fun _ _ => h, fun e => absurd e (by decide), fun e => absurd e (by decide)⟩
theorem ok21 {j : Nat} {v : Int32} (h : ∃ k, k ≤ 100 ∧ v = nI k) : okV 21 j v := ⟨fun e => absurd e (by decide), fun e => absurd e (by decide), fun e => absurd e (by decide), fun e => absurd e (by decide), fun e => absurd e (by decide), fun e => absurd e (by decide), fun e => absurd e (by decide), fun e => absurd e (by decide), fun _ _ => h, fun e => absurd e (by decide), fun e => absurd e (by decide)⟩
theorem ok22 {j : Nat} {v : Int32} (h : ∃ k, k ≤ 100 ∧ v = nI k) : okV 22 j v := ⟨fun e => absurd e (by decide), fun e => absurd e (by decide), fun e => absurd e (by decide), fun e => absurd e (by decide), fun e => absurd e (by decide), fun e => absurd e (by decide), fun e => absurd e (by decide), fun e => absurd e (by decide), fun _ _ => h, fun e => absurd e (by decide), fun e => absurd e (by decide)⟩
theorem ok23 {j : Nat} {v : Int32} (h : ∃ k, k ≤ 100 ∧ v = nI k) : okV 23 j v := ⟨fun e => absurd e (by decide), fun e => absurd e (by decide), fun e => absurd e (by decide), fun e => absurd e (by decide), fun e => absurd e (by decide), fun e => absurd e (by decide), fun e => absurd e (by decide), fun e => absurd e (by decide), fun _ _ => h, fun e => absurd e (by decide), fun e => absurd e (by decide)⟩
theorem ok55 {j : Nat} {v : Int32} (h : ∃ k, k ≤ 6 ∧ v = nI k) : okV 55 j v := ⟨fun e => absurd e (by decide), fun e => absurd e (by decide), fun e => absurd e (by decide), fun e => absurd e (by decide), fun e => absurd e (by decide), fun e => absurd e (by decide), fun e => absurd e (by decide), fun e => absurd e (by decide), fun e => absurd e (by decide), fun _ _ => h, fun e => absurd e (by decide)⟩
theorem ok56 {j : Nat} {v : Int32} (h : j < 6 → ∃ d, d ≤ 6 ∧ v = nI d) : okV 56 j v := ⟨fun e => absurd e (by decide), fun e => absurd e (by decide), fun e => absurd e (by decide), fun e => absurd e (by decide), fun e => absurd e (by decide), fun e => absurd e (by decide), fun e => absurd e (by decide), fun e => absurd e (by decide), fun e => absurd e (by decide), fun e => absurd e (by decide), fun _ hj => h hj⟩
theorem ok10 {j : Nat} {v : Int32} : okV 10 j v := ⟨fun e => absurd e (by decide), fun e => absurd e (by decide), fun e => absurd e (by decide), fun e => absurd e (by decide), fun e => absurd e (by decide), fun e => absurd e (by decide), fun e => absurd e (by decide), fun e => absurd e (by decide), fun e => absurd e (by decide), fun e => absurd e (by decide), fun e => absurd e (by decide)⟩
theorem ok11 {j : Nat} {v : Int32} : okV 11 j v := ⟨fun e => absurd e (by decide), fun e => absurd e (by decide), fun e => absurd e (by decide), fun e => absurd e (by decide), fun e => absurd e (by decide), fun e => absurd e (by decide), fun e => absurd e (by decide), fun e => absurd e (by decide), fun e => absurd e (by decide), fun e => absurd e (by decide), fun e => absurd e (by decide)⟩
theorem ok12 {j : Nat} {v : Int32} : okV 12 j v := ⟨fun e => absurd e (by decide), fun e => absurd e (by decide), fun e => absurd e (by decide), fun e => absurd e (by decide), fun e => absurd e (by decide), fun e => absurd e (by decide), fun e => absurd e (by decide), fun e => absurd e (by decide), fun e => absurd e (by decide), fun e => absurd e (by decide), fun e => absurd e (by decide)⟩
theorem ok13 {j : Nat} {v : Int32} : okV 13 j v := ⟨fun e => absurd e (by decide), fun e => absurd e (by decide), fun e => absurd e (by decide), fun e => absurd e (by decide), fun e => absurd e (by decide), fun e => absurd e (by decide), fun e => absurd e (by decide), fun e => absurd e (by decide), fun e => absurd e (by decide), fun e => absurd e (by decide), fun e => absurd e (by decide)⟩
theorem ok14 {j : Nat} {v : Int32} : okV 14 j v := ⟨fun e => absurd e (by decide), fun e => absurd e (by decide), fun e => absurd e (by decide), fun e => absurd e (by decide), fun e => absurd e (by decide), fun e => absurd e (by decide), fun e => absurd e (by decide), fun e => absurd e (by decide), fun e => absurd e (by decide), fun e => absurd e (by decide), fun e => absurd e (by decide)⟩
theorem ok15 {j : Nat} {v : Int32} : okV 15 j v := ⟨fun e => absurd e (by decide), fun e => absurd e (by decide), fun e => absurd e (by decide), fun e => absurd e (by decide), fun e => absurd e (by decide), fun e => absurd e (by decide), fun e => absurd e (by decide), fun e => absurd e (by decide), fun e => absurd e (by decide), fun e => absurd e (by decide), fun e => absurd e (by decide)⟩
theorem ok16 {j : Nat} {v : Int32} : okV 16 j v := ⟨fun e => absurd e (by decide), fun e => absurd e (by decide), fun e => absurd e (by decide), fun e => absurd e (by decide), fun e => absurd e (by decide), fun e => absurd e (by decide), fun e => absurd e (by decide), fun e => absurd e (by decide), fun e => absurd e (by decide), fun e => absurd e (by decide), fun e => absurd e (by decide)⟩
theorem ok48 {j : Nat} {v : Int32} : okV 48 j v := ⟨fun e => absurd e (by decide), fun e => absurd e (by decide), fun e => absurd e (by decide), fun e => absurd e (by decide), fun e => absurd e (by decide), fun e => absurd e (by decide), fun e => absurd e (by decide), fun e => absurd e (by decide), fun e => absurd e (by decide), fun e => absurd e (by decide), fun e => absurd e (by decide)⟩
theorem ok49 {j : Nat} {v : Int32} : okV 49 j v := ⟨fun e => absurd e (by decide), fun e => absurd e (by decide), fun e => absurd e (by decide), fun e => absurd e (by decide), fun e => absurd e (by decide), fun e => absurd e (by decide), fun e => absurd e (by decide), fun e => absurd e (by decide), fun e => absurd e (by decide), fun e => absurd e (by decide), fun e => absurd e (by decide)⟩
theorem ok0 {j : Nat} {v : Int32} : okV 0 j v := ⟨fun e => absurd e (by decide), fun e => absurd e (by decide), fun e => absurd e (by decide), fun e => absurd e (by decide), fun e => absurd e (by decide), fun e => absurd e (by decide), fun e => absurd e (by decide), fun e => absurd e (by decide), fun e => absurd e (by decide), fun e => absurd e (by decide), fun e => absurd e (by decide)⟩
theorem ok1 {j : Nat} {v : Int32} : okV 1 j v := ⟨fun e => absurd e (by decide), fun e => absurd e (by decide), fun e => absurd e (by decide), fun e => absurd e (by decide), fun e => absurd e (by decide), fun e => absurd e (by decide), fun e => absurd e (by decide), fun e => absurd e (by decide), fun e => absurd e (by decide), fun e => absurd e (by decide), fun e => absurd e (by decide)⟩
theorem ok9' {j : Nat} {v : Int32} (h : j ≠ 0) : okV 9 j v := ⟨fun e => absurd e (by decide), fun e => absurd e (by decide), fun e => absurd e (by decide), fun e => absurd e (by decide), fun _ e => absurd e h, fun e => absurd e (by decide), fun e => absurd e (by decide), fun e => absurd e (by decide), fun e => absurd e (by decide), fun e => absurd e (by decide), fun e => absurd e (by decide)⟩
def GA (A : Ab) : Prop := WF A ∧ WFu A
def fU (f : Nat) : Prop := f = 9 ∨ (10 ≤ f ∧ f ≤ 14) ∨ f = 16
theorem WFr.same {A A' : Ab} {r : Nat} (h : WFr A r) (hs : ∀ f, 10 ≤ f → f ≤ 14 → A'.1 f r = A.1 f r) : WFr A' r := by
  unfold WFr at h ⊢
  rw [hs 10 (by omega) (by omega), hs 11 (by omega) (by omega), hs 12 (by omega) (by omega), hs 13 (by omega) (by omega), hs 14 (by omega) (by omega)]
  exact h
theorem WFu.same {A A' : Ab} (h : WFu A) (hs : ∀ f j, fU f → A'.1 f j = A.1 f j) : WFu A' := by
  obtain ⟨⟨R, hR, e9, hr⟩, h16⟩ := h
  exact ⟨⟨R, hR, by rw [hs 9 0 (by unfold fU; omega)]; exact e9, fun r hr' => (hr r hr').same (fun f h1 h2 => hs f r (by unfold fU; omega))⟩, fun r hr' => by rw [hs 16 r (by unfold fU; omega)]; exact h16 r hr'⟩
theorem GA.of {A A' : Ab} (h : GA A) (hv : ∀ f j, A'.1 f j = A.1 f j ∨ okV f j (A'.1 f j)) (hs : ∀ f j, fU f → A'.1 f j = A.1 f j) : GA A' := ⟨WF.of (fun f j => by
  rcases hv f j with e | e
  · rw [e]
    exact h.1.ok f j
  · exact e), h.2.same hs⟩
theorem GA.set {A : Ab} (h : GA A) {f j : Nat} {v : Int32} (hv : okV f j v) (hf : ¬ fU f) : GA (aS A f j v) := by
  refine h.of (fun g i => ?_) (fun g i hg => ?_)
  · by_cases c : g = f ∧ i = j
    · right
      obtain ⟨rfl, rfl⟩ := c
      show okV g i (up2 A.1 g i v g i)
      rw [up2_eq]
      exact hv
    · left
      exact if_neg c
  · exact if_neg (fun c => hf (by rw [← c.1]; exact hg))
theorem GA.fill {A : Ab} (h : GA A) {f lo n : Nat} {v : Int32} (hv : ∀ j, okV f j v) (hf : ¬ fU f) : GA (aF A f lo n v) := by
  refine h.of (fun g i => ?_) (fun g i hg => ?_)
  · by_cases c : g = f ∧ lo ≤ i ∧ i < lo + n
    · right
      have e : (aF A f lo n v).1 g i = v := if_pos c
      rw [e, c.1]
      exact hv i
    · left
      exact if_neg c
  · exact if_neg (fun c => hf (by rw [← c.1]; exact hg))
theorem GA.fnd {A : Ab} (h : GA A) (k : Nat) : GA (fnd A k) := (h.set ok0 (by unfold fU; omega)).set ok1 (by unfold fU; omega)
theorem GA.tell {A : Ab} (h : GA A) (u l : Nat) : GA (sTell A u l) := h
section GP
variable {A : Ab}
theorem g_book (h : GA A) (x : Int32) : GA (sBook A x).2 := by
  unfold sBook
  split
  · exact (h.set (ok4 (fun _ => Or.inr rfl)) (by unfold fU; omega)).fill (fun j => ok5 (fun _ => ⟨0, by omega, rfl⟩)) (by unfold fU; omega)
  · exact h
theorem g_weigh (h : GA A) (x d w : Int32) : GA (sWeigh A x d w).2 := by
  unfold sWeigh
  split
  · rename_i c
    split
    · exact h.fnd 1
    · split
      · obtain ⟨k, hk, e⟩ := inr_ix (n := 9) c.2 (by omega)
        exact h.set (ok5 (fun _ => ⟨k, hk, e⟩)) (by unfold fU; omega)
      · exact h.fnd 2
  · exact h
theorem g_close (h : GA A) (x : Int32) : GA (sClose A x).2 := by
  unfold sClose
  split
  · split
    · exact h.fnd 1
    · exact h.set (ok4 (fun _ => Or.inl rfl)) (by unfold fU; omega)
  · exact h
theorem g_copy (h : GA A) (b i t j m : Int32) : GA (sCopy A b i t j m).2 := by
  unfold sCopy
  split
  · rename_i c
    split
    · exact h.fnd 1
    · split
      · rename_i c3
        obtain ⟨b, hb, rfl⟩ := i3 c.1
        obtain ⟨a, m', rfl, rfl, ham⟩ := str_nat c3.1
        rw [ixn (show b < 2 ^ 31 by omega), ixn (show a < 2 ^ 31 by omega), ixn (show m' < 2 ^ 31 by omega)]
        refine h.of (fun g k => ?_) (fun g k hg => if_neg (fun y => by unfold fU at hg; omega))
        by_cases c4 : g = 5 ∧ 7 * ix t + ix j ≤ k ∧ k < 7 * ix t + ix j + m'
        · right
          have e : (aC A b a (ix t) (ix j) m').1 g k = A.1 5 (7 * b + a + (k - (7 * ix t + ix j))) := if_pos c4
          rw [e, c4.1]
          exact ok5 (fun _ => h.1.2.1 _ (by omega))
        · left
          exact if_neg c4
      · exact h.fnd 2
  · exact h
theorem g_mean (h : GA A) (x : Int32) : GA (sMean A x).2 := by
  unfold sMean
  split
  · split
    · exact h.fnd 1
    · split
      · exact h.fnd 4
      · exact h
  · exact h
theorem b_fix (v : Int32) : v.toInt8.toInt32.toInt8.toInt32 = v.toInt8.toInt32 := by
  have : v.toInt8.toInt32.toInt8 = v.toInt8 := by simp
  rw [this]
theorem g_sheet (h : GA A) (x n : Int32) : GA (sSheet A x n).2 := by
  unfold sSheet
  split
  · split
    · rename_i c2
      split
      · rename_i c3
        obtain ⟨k, hk, e⟩ := inr_ix (n := 25) ⟨c3, c2⟩ (by omega)
        exact (h.set (ok7 (fun _ => Or.inr ⟨k, hk, e⟩)) (by unfold fU; omega)).fill (fun j => ok8 (fun _ => by decide)) (by unfold fU; omega)
      · exact h.fnd 5
    · exact h
  · exact h
theorem g_lay (h : GA A) (x i v : Int32) : GA (sLay A x i v).2 := by
  unfold sLay
  split
  · split
    · split
      · exact h.set (ok8 (fun _ => b_fix v)) (by unfold fU; omega)
      · exact h.fnd 2
    · exact h.fnd 1
  · exact h
theorem g_tear (h : GA A) (x : Int32) : GA (sTear A x).2 := by
  unfold sTear
  split
  · split
    · exact h.set (ok7 (fun _ => Or.inl rfl)) (by unfold fU; omega)
    · exact h.fnd 1
  · exact h
theorem g_adR (h : GA A) {R : Nat} (hR : R < 12) (e9 : A.1 9 0 = nI R) {k l t q s : Int32} (hn : WFr (adR A k l t q s) R) : GA (adR A k l t q s) := by
  have ei : ix (A.1 9 0) = R := by rw [e9]; exact ixn (by omega)
  have e9' : (adR A k l t q s).1 9 0 = nI (R + 1) := by rw [adR_9, e9]; exact sc1 R
  refine ⟨WF.of (fun f j => ?_), ⟨R + 1, by omega, e9', fun r hr => ?_⟩, fun r hr => ?_⟩
  · by_cases c : f ≠ 9 ∧ f ≠ 10 ∧ f ≠ 11 ∧ f ≠ 12 ∧ f ≠ 13 ∧ f ≠ 14 ∧ f ≠ 16
    · rw [adR_ne c]
      exact h.1.ok f j
    · have : f = 9 ∨ f = 10 ∨ f = 11 ∨ f = 12 ∨ f = 13 ∨ f = 14 ∨ f = 16 := by omega
      rcases this with rfl | rfl | rfl | rfl | rfl | rfl | rfl
      · by_cases c2 : j = 0
        · subst c2
          rw [e9']
          exact ok9 ⟨R + 1, by omega, rfl⟩
        · exact ok9' c2
      · exact ok10
      · exact ok11
      · exact ok12
      · exact ok13
      · exact ok14
      · exact ok16
  · by_cases c : r = R
    · rw [c]
      exact hn
    · obtain ⟨⟨R', hR', e9'', hr'⟩, -⟩ := h.2
      have eR : R' = R := (nI_eq (by omega) (by omega)).mp (e9''.symm.trans e9)
      subst eR
      exact (hr' r (by omega)).same (fun f h1 h2 => adR_nj (by omega) (by rw [ei]; exact c))
  · by_cases c : r = R
    · left
      have := adR_16 (A := A) (k := k) (l := l) (t := t) (q := q) (s := s)
      rw [ei] at this
      rw [c]
      exact this
    · rw [adR_nj (by decide) (by rw [ei]; exact c)]
      exact h.2.2 r hr
theorem R_lt (h : GA A) (h12 : ¬ A.1 9 0 = 12) : ∃ R, R < 12 ∧ A.1 9 0 = nI R := by
  obtain ⟨⟨R, hR, e9, -⟩, -⟩ := h.2
  refine ⟨R, ?_, e9⟩
  rcases Nat.lt_or_eq_of_le hR with c | c
  · exact c
  · rw [e9, c] at h12
    exact absurd rfl h12
theorem m12_t : (-12 : Int32).toInt = -12 := by decide
theorem g_rule (h : GA A) (k a b : Int32) : GA (sRule A k a b).2 := by
  unfold sRule
  split
  · rename_i c
    split
    · exact h
    · rename_i c2
      obtain ⟨R, hR, e9⟩ := R_lt h c2
      have ei : ix (A.1 9 0) = R := by rw [e9]; exact ixn (by omega)
      have key : ∀ k l t q s : Int32, ((k = 0 ∧ l = -9 ∧ t = -9 ∧ q = -9 ∧ ∃ i, i ≤ 25 ∧ s = nI i) ∨ (k = 1 ∧ l = -9 ∧ q = -9 ∧ s = -9 ∧ ∃ i, i ≤ 12 ∧ t = nI i) ∨ (k = 2 ∧ q = -9 ∧ s = -9 ∧ ∃ i : Nat, i ≤ 12 ∧ t = nI i ∧ -12 ≤ l.toInt ∧ l.toInt < i) ∨ (k = 3 ∧ t = -9 ∧ s = -9 ∧ -12 ≤ l.toInt ∧ l.toInt ≤ 12 ∧ ∃ i, 1 ≤ i ∧ i ≤ 12 ∧ q = nI i)) → GA (adR A k l t q s) := fun k l t q s hk => by
        refine g_adR h hR e9 ?_
        unfold WFr
        have h10 := adR_10 (A := A) (k := k) (l := l) (t := t) (q := q) (s := s)
        have h11 := adR_11 (A := A) (k := k) (l := l) (t := t) (q := q) (s := s)
        have h12 := adR_12 (A := A) (k := k) (l := l) (t := t) (q := q) (s := s)
        have h13 := adR_13 (A := A) (k := k) (l := l) (t := t) (q := q) (s := s)
        have h14 := adR_14 (A := A) (k := k) (l := l) (t := t) (q := q) (s := s)
        rw [ei] at h10 h11 h12 h13 h14
        rw [h10, h11, h12, h13, h14]
        exact hk
      show GA (if k = 1 then _ else if k = 2 then _ else _)
      rcases c with ⟨e, ca⟩ | ⟨e, cb, ca⟩ | ⟨e, ca, cb⟩
      · rw [if_pos e]
        obtain ⟨i, hi, ea⟩ := inr_ix (n := 12) ca (by omega)
        exact key _ _ _ _ _ (Or.inr (Or.inl ⟨rfl, rfl, rfl, rfl, i, hi, ea⟩))
      · rw [if_neg (by rw [e]; decide), if_pos e]
        obtain ⟨i, hi, rfl⟩ := inr_ix (n := 12) cb (by omega)
        refine key _ _ _ _ _ (Or.inr (Or.inr (Or.inl ⟨rfl, rfl, rfl, i, hi, rfl, ?_, ?_⟩)))
        · have := Int32.le_iff_toInt_le.mp ca.1
          rw [m12_t] at this
          exact this
        · have := Int32.le_iff_toInt_le.mp ca.2
          rw [iI_n, show (1 : Int32) = iI 1 by decide, iI_sub, iI_t (by omega) (by omega)] at this
          omega
      · rw [if_neg (by rw [e]; decide), if_neg (by rw [e]; decide)]
        have cb' : ∃ i, 1 ≤ i ∧ i ≤ 12 ∧ b = nI i := by
          have h0 : (0 : Int32) ≤ b := by
            have a1 := Int32.le_iff_toInt_le.mp cb.1
            have e1 : (1 : Int32).toInt = 1 := by decide
            have e0 : (0 : Int32).toInt = 0 := by decide
            exact Int32.le_iff_toInt_le.mpr (by omega)
          obtain ⟨i, h1, rfl⟩ := inr_ix (n := 12) ⟨h0, cb.2⟩ (by omega)
          refine ⟨i, ?_, h1, rfl⟩
          have := (nI_leI (a := 1) (by omega) (by omega)).mp cb.1
          exact this
        refine key _ _ _ _ _ (Or.inr (Or.inr (Or.inr ⟨rfl, rfl, rfl, ?_, ?_, cb'⟩)))
        · have := Int32.le_iff_toInt_le.mp ca.1
          rw [m12_t] at this
          exact this
        · have := Int32.le_iff_toInt_le.mp ca.2
          have e12 : (12 : Int32).toInt = 12 := by decide
          omega
  · exact h
theorem g_table (h : GA A) (x : Int32) : GA (sTable A x).2 := by
  unfold sTable
  split
  · rename_i c
    split
    · exact h
    · rename_i c2
      split
      · rename_i c3
        obtain ⟨b, hb, rfl⟩ := i3 c
        rw [ixn (show b < 2 ^ 31 by omega)] at c3 ⊢
        have ht : GA (tbl A b 25) := h.of (fun f j => by
          by_cases e : f = 15
          · subst e
            exact Or.inr ok15
          · exact Or.inl (tbl_ne e)) (fun f j hf => tbl_ne (by unfold fU at hf; omega))
        obtain ⟨R, hR, e9⟩ := R_lt h c2
        have e9t : (tbl A b 25).1 9 0 = nI R := by rw [tbl_ne (by decide)]; exact e9
        have ei : ix ((tbl A b 25).1 9 0) = R := by rw [e9t]; exact ixn (by omega)
        refine g_adR ht hR e9t (Or.inl ?_)
        have h10 := adR_10 (A := tbl A b 25) (k := 0) (l := -9) (t := -9) (q := -9) (s := A.1 7 b)
        have h11 := adR_11 (A := tbl A b 25) (k := 0) (l := -9) (t := -9) (q := -9) (s := A.1 7 b)
        have h12 := adR_12 (A := tbl A b 25) (k := 0) (l := -9) (t := -9) (q := -9) (s := A.1 7 b)
        have h13 := adR_13 (A := tbl A b 25) (k := 0) (l := -9) (t := -9) (q := -9) (s := A.1 7 b)
        have h14 := adR_14 (A := tbl A b 25) (k := 0) (l := -9) (t := -9) (q := -9) (s := A.1 7 b)
        rw [ei] at h10 h11 h12 h13 h14
        refine ⟨h10, h11, h12, h13, ?_⟩
        rw [h14]
        rcases h.1.2.2.1 b (by omega) with e | e
        · rw [e] at c3
          exact absurd c3 (by decide)
        · exact e
      · exact h.fnd 1
  · exact h
theorem g_drop (h : GA A) (x : Int32) : GA (sDrop A x).2 := by
  unfold sDrop
  split
  · split
    · refine ⟨WF.of (fun f j => ?_), ?_⟩
      · by_cases c : f = 16
        · subst c
          exact ok16
        · rw [show (aS A 16 (ix x) 1).1 f j = A.1 f j from if_neg (fun y => c y.1)]
          exact h.1.ok f j
      · obtain ⟨⟨R, hR, e9, hr⟩, h16⟩ := h.2
        refine ⟨⟨R, hR, e9, fun r hr' => (hr r hr').same (fun f h1 h2 => if_neg (fun y => by omega))⟩, fun r hr' => ?_⟩
        by_cases c : r = ix x
        · right
          exact if_pos ⟨rfl, c⟩
        · rw [show (aS A 16 (ix x) 1).1 16 r = A.1 16 r from if_neg (fun y => c y.2)]
          exact h16 r hr'
    · exact h.fnd 1
  · exact h
theorem g_told (h : GA A) (x w : Int32) : GA (sTold A x w).2 := by
  unfold sTold
  split
  · split
    · exact h
    · exact h.fnd 1
  · exact h
theorem g_mark (h : GA A) (x w : Int32) : GA (sMark A x w).2 := by
  unfold sMark markV
  split
  · split
    · split
      · exact h
      · split
        · exact h
        · exact h.fnd 3
    · exact h.fnd 1
  · exact h
theorem g_order (h : GA A) (x w : Int32) : GA (sOrder A x w).2 := by
  unfold sOrder
  split
  · split
    · exact h
    · exact h.fnd 1
  · exact h
theorem g_shop (h : GA A) (x l o : Int32) (ho : o = 0 ∨ o = 1) : GA (sShop A x l o).2 := by
  unfold sShop
  split
  · rename_i c
    have cx : ∃ i, 1 ≤ i ∧ i ≤ 12 ∧ x = nI i := by
      have h0 : (0 : Int32) ≤ x := by
        have a1 := Int32.le_iff_toInt_le.mp c.1.1
        have e1 : (1 : Int32).toInt = 1 := by decide
        have e0 : (0 : Int32).toInt = 0 := by decide
        exact Int32.le_iff_toInt_le.mpr (by omega)
      obtain ⟨i, h1, rfl⟩ := inr_ix (n := 12) ⟨h0, c.1.2⟩ (by omega)
      refine ⟨i, ?_, h1, rfl⟩
      have := (nI_leI (a := 1) (by omega) (by omega)).mp c.1.1
      exact this
    have cl := inr_ix (n := 2) c.2 (by omega)
    exact ((h.set (ok17 cx) (by unfold fU; omega)).set (ok18 cl) (by unfold fU; omega)).set (ok19 ho) (by unfold fU; omega)
  · exact h
theorem g_costs (h : GA A) (k c d b : Int32) : GA (sCosts A k c d b).2 := by
  unfold sCosts
  split
  · rename_i e
    exact (((h.set (ok20 (inr_ix (n := 100) e.1 (by omega))) (by unfold fU; omega)).set (ok21 (inr_ix (n := 100) e.2.1 (by omega))) (by unfold fU; omega)).set (ok22 (inr_ix (n := 100) e.2.2.1 (by omega))) (by unfold fU; omega)).set (ok23 (inr_ix (n := 100) e.2.2.2 (by omega))) (by unfold fU; omega)
  · exact h
theorem g_need (h : GA A) {g : Prop} [Decidable g] {r b x d : Int32} {K : Int32 × Ab} (hK : GA K.2) : GA (sNeed A g r b x d K).2 := by
  unfold sNeed
  split
  · split
    · split
      · exact h.fnd 1
      · split
        · exact h.fnd 4
        · exact hK
    · exact h.fnd 1
  · exact h
theorem g_nb (h : GA A) {g : Prop} [Decidable g] {b : Int32} {K : Int32 × Ab} (hK : GA K.2) : GA (sNB A g b K).2 := by
  unfold sNB
  split
  · split
    · exact h.fnd 1
    · split
      · exact h.fnd 4
      · exact hK
  · exact h
theorem g_cost (h : GA A) (r b x d : Int32) : GA (sCost A r b x d).2 := g_need h (h.tell _ _)
theorem g_serv (h : GA A) (k r b x d : Int32) : GA (sServ A k r b x d).2 := g_need h (by
  show GA (svT A k _ _ _ _)
  unfold svT
  split
  · exact h.tell _ _
  · split
    · split <;> exact h.tell _ _
    · exact h.tell _ _)
theorem g_best (h : GA A) (b x d : Int32) : GA (sBest A b x d).2 := g_nb h (h.tell _ _)
theorem g_bp (h : GA A) (b x d : Int32) : GA (sBP A b x d).2 := g_nb h (((h.set ok48 (by unfold fU; omega)).set ok49 (by unfold fU; omega)).tell _ _)
theorem g_sp (h : GA A) (b s ag d nw : Int32) : GA (sSp A b s ag d nw).2 := g_nb h (h.tell _ _)
theorem g_see (h : GA A) (x : Int32) : GA (sSee A x).2 := by
  unfold sSee
  split
  · rename_i c
    split
    · exact h
    · rename_i c2
      obtain ⟨k, hk, e⟩ := h.1.2.2.2.2.2.2.2.2.2.1
      have hk2 : k < 6 := by
        rcases Nat.lt_or_eq_of_le hk with y | y
        · exact y
        · rw [e, y] at c2
          exact absurd rfl c2
      exact (h.set (ok56 (fun _ => inr_ix (n := 6) c (by omega))) (by unfold fU; omega)).set (ok55 ⟨k + 1, by omega, by rw [e]; exact sc1 k⟩) (by unfold fU; omega)
  · exact h
theorem g_forget (h : GA A) : GA (aS A 55 0 0) := h.set (ok55 ⟨0, by omega, rfl⟩) (by unfold fU; omega)
theorem g_doubt (h : GA A) (p q u v : Int32) : GA (sDoubt A p q u v).2 := by
  unfold sDoubt
  split
  · split
    · exact h.fnd 1
    · split
      · exact h.fnd 4
      · exact h.tell _ _
  · exact h
end GP
