/-- weights together, and by their demands -/
def sW (A : Ab) (b : Nat) : Nat → Int32
  | 0 => 0
  | k + 1 => sW A b k + A.1 5 (7 * b + k)
def sD (A : Ab) (b : Nat) : Nat → Int32
  | 0 => 0
  | k + 1 => sD A b k + nI k * A.1 5 (7 * b + k)
def sMean (A : Ab) (x : Int32) : Int32 × Ab := if inr x 0 3 then (if A.1 4 (ix x) = 0 then (-3, fnd A 1) else if sW A (ix x) 7 = 0 then (-3, fnd A 4) else (sD A (ix x) 7 / sW A (ix x) 7, A)) else (-1, A)
theorem sW_nat {A : Ab} (hW : ∀ j, j < 28 → ∃ w, w ≤ 9 ∧ A.1 5 j = nI w) {b : Nat} (hb : b < 4) : ∀ k, k ≤ 7 → ∃ n, sW A b k = nI n ∧ n ≤ 9 * k
  | 0, _ => ⟨0, nI_0.symm, by omega⟩
  | k + 1, hk => by
    obtain ⟨n, h1, h2⟩ := sW_nat hW hb k (by omega)
    obtain ⟨w, h3, h4⟩ := hW (7 * b + k) (by omega)
    exact ⟨n + w, by show sW A b k + A.1 5 (7 * b + k) = _; rw [h1, h4, nI_add], by omega⟩
section XM
variable {z n : Nat} {σ : Me} {A : Ab}
theorem M_allOf (h : RM (z + 36) n σ A) {b : Nat} (hb : b < 4) {Q : Int32 → Me → Prop} (hQ : Q (sW A b 7) σ) : pX12_allOf σ (z + 36) (nI b) Q := by
  refine ⟨fun k σ' s y => ∃ j, j ≤ 7 ∧ y = nI j ∧ k = 7 - j ∧ σ' = σ ∧ s = sW A b j, ?_, 7, 0, by omega, rfl, rfl, rfl, rfl⟩
  rintro k _ _ _ ⟨j, hj, rfl, rfl, rfl, rfl⟩
  refine ⟨fun hc => ?_, fun hc => ?_⟩
  · have h7 : 7 ≤ j := (le_c (a := 7) rfl (by omega) (by omega)).mp hc
    have : j = 7 := by omega
    subst this
    exact hQ
  · have h7 : ¬ 7 ≤ j := fun q => hc ((le_c (a := 7) rfl (by omega) (by omega)).mpr q)
    have r5 := h.1.row (5, 3, 20, 28) (by decide)
    rw [ix7]
    refine ⟨h.1.1, _, r5.1, r5.2.1, by rw [r5.2.2]; exact vp_in_nI (by show 7 * b + j < 28; omega) (by show 28 < _; omega), ?_⟩
    rintro _ rfl _ rfl
    refine ⟨7 - (j + 1), by omega, j + 1, by omega, sc1 j, rfl, rfl, ?_⟩
    rw [nI_clamp (by omega), h.ar (5, 3, 28) (by decide) (show 7 * b + j < 28 by omega)]
    rfl
theorem X_book1 (h : RX z σ A) {b : Nat} (hb : b < 4) : gT σ (z + (15 + 2 * b)) = 1 ∧ gP σ (z + (15 + 2 * b)) 1 = some (z + (16 + 2 * b)) ∧ gT σ (z + (16 + 2 * b)) = 20 ∧ gN σ (z + (16 + 2 * b)) = 7 ∧ gP σ (z + 1) b = some (z + (15 + 2 * b)) ∧ gI σ (z + (15 + 2 * b)) 0 = A.1 4 b ∧ ∀ d, d < 7 → gI σ (z + (16 + 2 * b)) d = A.1 5 (7 * b + d) :=
  ⟨(h.1.tg _ (tg15 b hb)).1, h.1.rf _ (rf15 b hb), (h.1.tg _ (tg16 b hb)).1, (h.1.tg _ (tg16 b hb)).2, h.1.rf _ (rf1 b hb), h.ce _ (ce4 b hb), fun d hd => h.ce _ (ce5 b hb d hd)⟩
theorem X_books (h : RX z σ A) : gP σ z 0 = some (z + 1) ∧ gT σ (z + 1) = 24 ∧ gN σ (z + 1) = 4 := ⟨h.1.rf (0, 0, 1) (by decide), (h.1.tg (1, 24, 4) (by decide)).1, (h.1.tg (1, 24, 4) (by decide)).2⟩
theorem X_all (h : RX z σ A) {b : Nat} (hb : b < 4) {Q : Int32 → Me → Prop} (hQ : Q (sW A b 7) σ) : pX1_weightOfAll σ (z + (15 + 2 * b)) Q := by
  obtain ⟨b1, b2, b3, b4, -, -, b7⟩ := X_book1 h hb
  refine ⟨fun k σ' s y => ∃ j, j ≤ 7 ∧ y = nI j ∧ k = 7 - j ∧ σ' = σ ∧ s = sW A b j, ?_, 7, 0, by omega, rfl, rfl, rfl, rfl⟩
  rintro k _ _ _ ⟨j, hj, rfl, rfl, rfl, rfl⟩
  refine ⟨b1, _, b2, b3, ?_⟩
  rw [b4]
  refine ⟨fun hc => ?_, fun hc => ?_⟩
  · have h7 : 7 ≤ j := (nI_leI (by omega) (by omega)).mp hc
    have : j = 7 := by omega
    subst this
    exact hQ
  · have h7 : ¬ 7 ≤ j := fun q => hc ((nI_leI (by omega) (by omega)).mpr q)
    refine ⟨vp_in_nI (by omega) (by omega), ?_⟩
    rintro _ rfl _ rfl
    refine ⟨7 - (j + 1), by omega, j + 1, by omega, sc1 j, rfl, rfl, ?_⟩
    rw [nI_clamp (by omega), b7 j (by omega)]
    rfl
theorem X_dem (h : RX z σ A) {b : Nat} (hb : b < 4) {Q : Int32 → Me → Prop} (hQ : Q (sD A b 7) σ) : pX1_weightedDemands σ (z + (15 + 2 * b)) Q := by
  obtain ⟨b1, b2, b3, b4, -, -, b7⟩ := X_book1 h hb
  refine ⟨fun k σ' s y => ∃ j, j ≤ 7 ∧ y = nI j ∧ k = 7 - j ∧ σ' = σ ∧ s = sD A b j, ?_, 7, 0, by omega, rfl, rfl, rfl, rfl⟩
  rintro k _ _ _ ⟨j, hj, rfl, rfl, rfl, rfl⟩
  refine ⟨b1, _, b2, b3, ?_⟩
  rw [b4]
  refine ⟨fun hc => ?_, fun hc => ?_⟩
  · have h7 : 7 ≤ j := (nI_leI (by omega) (by omega)).mp hc
    have : j = 7 := by omega
    subst this
    exact hQ
  · have h7 : ¬ 7 ≤ j := fun q => hc ((nI_leI (by omega) (by omega)).mpr q)
    refine ⟨vp_in_nI (by omega) (by omega), ?_⟩
    rintro _ rfl _ rfl
    refine ⟨7 - (j + 1), by omega, j + 1, by omega, sc1 j, rfl, rfl, ?_⟩
    rw [nI_clamp (by omega), b7 j (by omega)]
    rfl
/-- 1 NOTHING, 4 NOUGHT, 0: the book can be used -/
def lack (A : Ab) (b : Nat) : Nat := if A.1 4 b = 0 then 1 else if sW A b 7 = 0 then 4 else 0
theorem X_lackOf (h : RX z σ A) {b : Nat} (hb : b < 4) {Q : Int32 → Me → Prop} (hQ : Q (nI (lack A b)) σ) : pX11_lackOf σ (z + (15 + 2 * b)) Q := by
  obtain ⟨b1, -, -, -, -, b6, -⟩ := X_book1 h hb
  unfold lack at hQ
  refine ⟨b1, fun h0 => ?_, fun h0 => ?_⟩
  · rw [b6] at h0
    rw [if_pos h0] at hQ
    exact hQ
  · rw [b6] at h0
    rw [if_neg h0] at hQ
    refine X_all h hb ?_
    rintro _ rfl
    by_cases e : sW A b 7 = 0
    · rw [if_pos e] at hQ ⊢
      exact hQ
    · rw [if_neg e] at hQ ⊢
      exact hQ
theorem M_mean (h : RM (z + 36) n σ A) {x : Int32} {Q : Int32 → Me → Prop} (hQ : ∀ σ', RM (z + 36) n σ' (sMean A x).2 → frX z σ σ' → Q (sMean A x).1 σ') : pX12_mean σ (z + 36) x Q := by
  unfold sMean at hQ
  refine e_isPlace (fun hx => ⟨fun q => absurd q (by decide), fun _ => ?_⟩) (fun hx => ⟨fun _ => by rw [if_neg hx] at hQ; exact hQ _ h .rf, fun q => absurd rfl q⟩)
  rw [if_pos hx] at hQ
  obtain ⟨b, hb, rfl⟩ := i3 hx
  have r := h.1.row (4, 2, 22, 4) (by decide)
  have hin : vp_in (nI b) 4 := vp_in_nI (by omega) (by omega)
  have e := h.ar (4, 2, 4) (by decide) (show b < 4 by omega)
  have eb : ix (nI b) = b := ixn (by omega)
  rw [eb] at hQ
  refine ⟨h.1.1, _, r.1, r.2.1, by rw [r.2.2]; exact hin, fun h2 => ?_, fun h2 => ?_⟩
  · rw [nI_clamp (by omega), e] at h2
    rw [if_pos h2] at hQ
    exact M_fnd h (k := 1) (by omega) hQ
  · rw [nI_clamp (by omega), e] at h2
    rw [if_neg h2] at hQ
    refine ⟨fun k σ' s y => ∃ j, j ≤ 7 ∧ y = nI j ∧ k = 7 - j ∧ σ' = σ ∧ s = sD A b j, ?_, 7, 0, by omega, rfl, rfl, rfl, rfl⟩
    rintro k _ _ _ ⟨j, hj, rfl, rfl, rfl, rfl⟩
    refine ⟨fun hc => ?_, fun hc => ?_⟩
    · have h7 : 7 ≤ j := (le_c (a := 7) rfl (by omega) (by omega)).mp hc
      have : j = 7 := by omega
      subst this
      refine ⟨h.1.1, M_allOf h (by omega) ⟨fun h3 => ⟨h.1.1, ?_⟩, fun h3 => ⟨h.1.1, M_allOf h (by omega) ⟨h3, ?_⟩⟩⟩⟩
      · rw [if_pos h3] at hQ
        exact M_fnd h (k := 4) (by omega) hQ
      · rw [if_neg h3] at hQ
        exact hQ _ h .rf
    · have h7 : ¬ 7 ≤ j := fun q => hc ((le_c (a := 7) rfl (by omega) (by omega)).mpr q)
      have r5 := h.1.row (5, 3, 20, 28) (by decide)
      rw [ix7]
      refine ⟨h.1.1, _, r5.1, r5.2.1, by rw [r5.2.2]; exact vp_in_nI (by show 7 * b + j < 28; omega) (by show 28 < _; omega), ?_⟩
      rintro _ rfl _ rfl
      refine ⟨7 - (j + 1), by omega, j + 1, by omega, sc1 j, rfl, rfl, ?_⟩
      rw [nI_clamp (by omega), h.ar (5, 3, 28) (by decide) (show 7 * b + j < 28 by omega)]
      rfl
theorem X_mean (h : RX z σ A) (hW : ∀ j, j < 28 → ∃ w, w ≤ 9 ∧ A.1 5 j = nI w) {x : Int32} {Q : Int32 → Me → Prop} (hQ : ∀ σ', RX z σ' (sMean A x).2 → frM z σ σ' → Q (sMean A x).1 σ') : pX11_mean σ z x Q := by
  unfold sMean at hQ
  refine e_isBook (fun hx => ⟨fun q => absurd q (by decide), fun _ => ?_⟩) (fun hx => ⟨fun _ => by rw [if_neg hx] at hQ; exact hQ _ h .rf, fun q => absurd rfl q⟩)
  rw [if_pos hx] at hQ
  obtain ⟨b, hb, rfl⟩ := i3 hx
  have B := X_books h
  obtain ⟨b1, b2, b3, b4, b5, b6, b7⟩ := X_book1 h (show b < 4 by omega)
  have eb : ix (nI b) = b := ixn (by omega)
  have hin : vp_in (nI b) 4 := vp_in_nI (by omega) (by omega)
  have rb : gP σ (z + 1) (nI b).toNatClampNeg = some (z + (15 + 2 * b)) := by rw [nI_clamp (by omega)]; exact b5
  rw [eb] at hQ
  refine ⟨X_tag h, _, B.1, B.2.1, by rw [B.2.2]; exact hin, _, rb, X_lackOf h (by omega) ⟨fun h0 => ?_, fun h0 => ⟨X_tag h, ?_⟩⟩⟩
  · have hl : lack A b = 0 := by
      have := (nI_eq (a := lack A b) (b := 0) (by unfold lack; split <;> (try split) <;> omega) (by omega)).mp h0
      exact this
    unfold lack at hl
    by_cases h4 : A.1 4 b = 0
    · rw [if_pos h4] at hl
      omega
    · rw [if_neg h4] at hl hQ
      by_cases h5 : sW A b 7 = 0
      · rw [if_pos h5] at hl
        omega
      · rw [if_neg h5] at hQ
        refine ⟨X_tag h, _, B.1, B.2.1, by rw [B.2.2]; exact hin, _, rb, b1, X_all h (by omega) ⟨fun h6 => ?_, fun h6 => ⟨X_tag h, _, B.1, B.2.1, by rw [B.2.2]; exact hin, _, rb, b1, X_dem h (by omega) ⟨h5, ?_⟩⟩⟩⟩
        · exfalso
          obtain ⟨m, e1, e2⟩ := sW_nat hW (show b < 4 by omega) 7 (by omega)
          rw [e1] at h6 h5
          have h7 : m ≤ 0 := (nI_leI (a := m) (b := 0) (by omega) (by omega)).mp h6
          exact h5 (by rw [show m = 0 by omega]; decide)
        · exact hQ _ h .rf
  · unfold lack at h0 ⊢
    by_cases h4 : A.1 4 b = 0
    · rw [if_pos h4] at hQ ⊢
      exact X_fnd h (k := 1) (by omega) (by omega) hQ
    · rw [if_neg h4] at h0 hQ ⊢
      by_cases h5 : sW A b 7 = 0
      · rw [if_pos h5] at hQ ⊢
        exact X_fnd h (k := 4) (by omega) (by omega) hQ
      · rw [if_neg h5] at h0
        exact absurd rfl h0
theorem X_weigh (h : RX z σ A) {x d w : Int32} {Q : Int32 → Me → Prop} (hQ : ∀ σ', RX z σ' (sWeigh A x d w).2 → frM z σ σ' → Q (sWeigh A x d w).1 σ') : pX11_weigh σ z x d w Q := by
  unfold sWeigh at hQ
  refine e_isBook (fun hx => ⟨fun q => absurd q (by decide), fun _ => ?_⟩) (fun hx => ⟨fun _ => by rw [if_neg (fun q => hx q.1)] at hQ; exact hQ _ h .rf, fun q => absurd rfl q⟩)
  refine e_within (fun hw => ⟨fun q => absurd q (by decide), fun _ => ?_⟩) (fun hw => ⟨fun _ => by rw [if_neg (fun q => hw q.2)] at hQ; exact hQ _ h .rf, fun q => absurd rfl q⟩)
  rw [if_pos ⟨hx, hw⟩] at hQ
  obtain ⟨b, hb, rfl⟩ := i3 hx
  have B := X_books h
  obtain ⟨b1, b2, b3, b4, b5, b6, b7⟩ := X_book1 h (show b < 4 by omega)
  have eb : ix (nI b) = b := ixn (by omega)
  have hin : vp_in (nI b) (gN σ (z + 1)) := by rw [B.2.2]; exact vp_in_nI (by omega) (by omega)
  have rb : gP σ (z + 1) (nI b).toNatClampNeg = some (z + (15 + 2 * b)) := by rw [nI_clamp (by omega)]; exact b5
  rw [eb] at hQ
  refine ⟨X_tag h, _, B.1, B.2.1, hin, _, rb, b1, fun h2 => ?_, fun h2 => ?_⟩
  · rw [b6] at h2
    rw [if_pos h2] at hQ
    exact X_fnd h (k := 1) (by omega) (by omega) hQ
  · rw [b6] at h2
    rw [if_neg h2] at hQ
    refine e_isDemand (fun hd => ⟨fun q => absurd q (by decide), fun _ => ?_⟩) (fun hd => ⟨fun _ => ⟨X_tag h, by rw [if_neg hd] at hQ; exact X_fnd h (k := 2) (by omega) (by omega) hQ⟩, fun q => absurd rfl q⟩)
    rw [if_pos hd] at hQ
    obtain ⟨d, hd6, rfl⟩ := i6 hd
    rw [ixn (show d < 2 ^ 31 by omega)] at hQ
    have hin5 : vp_in (nI d) (gN σ (z + (16 + 2 * b))) := by rw [b4]; exact vp_in_nI (by omega) (by omega)
    refine ⟨X_tag h, _, B.1, B.2.1, hin, _, rb, b1, _, b2, b3, hin5, ?_⟩
    rintro _ rfl
    refine ⟨hin, _, rb, b1, _, b2, b3, hin5, ?_⟩
    rintro _ rfl
    rw [nI_clamp (by omega), b7 d (by omega)]
    exact hQ _ (h.set (ce5 b (by omega) d (by omega)) (by show (5 : Nat) ≠ 9; decide) w) (.sI (by show z + (16 + 2 * b) < _ ∨ _; omega))
theorem X_book (h : RX z σ A) {x : Int32} {Q : Int32 → Me → Prop} (hQ : ∀ σ', RX z σ' (sBook A x).2 → frM z σ σ' → Q (sBook A x).1 σ') : pX11_book σ z x Q := by
  unfold sBook at hQ
  refine e_isBook (fun hx => ⟨fun q => absurd q (by decide), fun _ => ?_⟩) (fun hx => ⟨fun _ => by rw [if_neg hx] at hQ; exact hQ _ h .rf, fun q => absurd rfl q⟩)
  rw [if_pos hx] at hQ
  obtain ⟨b, hb, rfl⟩ := i3 hx
  have B := X_books h
  obtain ⟨b1, b2, b3, b4, b5, b6, b7⟩ := X_book1 h (show b < 4 by omega)
  have eb : ix (nI b) = b := ixn (by omega)
  have hin : vp_in (nI b) (gN σ (z + 1)) := by rw [B.2.2]; exact vp_in_nI (by omega) (by omega)
  have rb : gP σ (z + 1) (nI b).toNatClampNeg = some (z + (15 + 2 * b)) := by rw [nI_clamp (by omega)]; exact b5
  rw [eb] at hQ
  refine ⟨X_tag h, _, B.1, B.2.1, hin, _, rb, b1, ?_⟩
  rintro _ rfl
  refine ⟨hin, _, rb, b1, b1, ?_⟩
  rintro _ rfl
  rw [b6]
  have h1 : RX z (sI σ (z + (15 + 2 * b)) 0 1) (aS A 4 b 1) := h.set (ce4 b (by omega)) (by show (4 : Nat) ≠ 9; decide) 1
  have f1 : frM z σ (sI σ (z + (15 + 2 * b)) 0 1) := .sI (by omega)
  refine ⟨fun k σ' y => ∃ j, j ≤ 7 ∧ y = nI j ∧ k = 7 - j ∧ RX z σ' (aF (aS A 4 b 1) 5 (7 * b) j 0) ∧ frM z σ σ', ?_, 7, 0, by omega, rfl, rfl, by rw [aF_0]; exact h1, f1⟩
  rintro k σ' y ⟨j, hj, rfl, rfl, h2, f2⟩
  obtain ⟨c1, c2, c3, c4, c5, c6, c7⟩ := X_book1 h2 (show b < 4 by omega)
  refine ⟨c1, _, c2, c3, ?_⟩
  rw [c4]
  refine ⟨fun hc => ?_, fun hc => ?_⟩
  · have h7 : 7 ≤ j := (nI_leI (by omega) (by omega)).mp hc
    have : j = 7 := by omega
    subst this
    rintro _ rfl
    exact hQ _ h2 f2
  · have h7 : ¬ 7 ≤ j := fun q => hc ((nI_leI (by omega) (by omega)).mpr q)
    refine ⟨vp_in_nI (by omega) (by omega), ?_⟩
    rintro _ rfl _ rfl
    refine ⟨7 - (j + 1), by omega, j + 1, by omega, sc1 j, rfl, ?_, f2.tr (.sI (by omega))⟩
    rw [nI_clamp (by omega), ← aF_succ]
    exact h2.set (ce5 b (by omega) j (by omega)) (by show (5 : Nat) ≠ 9; decide) 0
end XM
