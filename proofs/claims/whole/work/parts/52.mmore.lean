section MM2
variable {z n : Nat} {σ : Me} {A : Ab}
theorem le_c {a k : Nat} {c : Int32} (hc : c = nI a) (ha : a < 2 ^ 31) (hk : k < 2 ^ 31) : c ≤ nI k ↔ a ≤ k := by rw [hc]; exact nI_leI ha hk
theorem sc1 (k : Nat) : nI k + 1 = nI (k + 1) := nI_1 k
theorem M_see (h : RM (z + 36) n σ A) (hW : ∃ k, k ≤ 6 ∧ A.1 55 0 = nI k) {x : Int32} {Q : Int32 → Me → Prop} (hQ : ∀ σ', RM (z + 36) n σ' (sSee A x).2 → frX z σ σ' → Q (sSee A x).1 σ') : pX12_see σ (z + 36) x Q := by
  unfold sSee at hQ
  refine e_in (fun hx => ⟨fun q => absurd q (by decide), fun _ => ?_⟩) (fun hx => ⟨fun _ => by rw [if_neg hx] at hQ; exact hQ _ h .rf, fun q => absurd rfl q⟩)
  rw [if_pos hx] at hQ
  have e := h.sc 55 (by decide)
  obtain ⟨k, hk, ek⟩ := hW
  have r := h.1.row (56, 22, 20, 6) (by decide)
  refine ⟨h.1.1, fun h2 => ?_, fun h2 => ?_⟩
  · rw [e] at h2
    rw [if_pos h2] at hQ
    exact hQ _ h .rf
  · rw [e] at h2 ⊢
    rw [if_neg h2] at hQ
    have hk6 : k < 6 := by
      rcases Nat.lt_or_ge k 6 with q | q
      · exact q
      · exact absurd (by rw [ek, show k = 6 by omega]; decide) h2
    refine ⟨_, r.1, r.2.1, by rw [r.2.2, ek]; exact vp_in_nI hk6 (by show 6 < _; omega), ?_⟩
    rintro _ rfl _ rfl
    have e2 : gI (sI σ (z + 36 + 22) (A.1 55 0).toNatClampNeg x) (z + 36) 55 = A.1 55 0 := by rw [gI_sI_ne (by omega)]; exact e
    show Q (gI (sI (sI σ (z + 36 + 22) _ x) (z + 36) 55 _) (z + 36) 55) _
    rw [gI_sI_eq, e2]
    exact hQ _ ((h.setA (q := (56, 22, 6)) (by decide) _ x).setS (f := 55) (by decide) _) ((frX.sI (by omega) (by show z + 36 + 22 < _; omega)).tr (.sI (by omega) (by omega)))
theorem M_lay (h : RM (z + 36) n σ A) (hW : ∀ s, s < 4 → A.1 7 s = -1 ∨ ∃ k, k ≤ 25 ∧ A.1 7 s = nI k) {x i v : Int32} {Q : Int32 → Me → Prop} (hQ : ∀ σ', RM (z + 36) n σ' (sLay A x i v).2 → frX z σ σ' → Q (sLay A x i v).1 σ') : pX12_lay σ (z + 36) x i v Q := by
  unfold sLay at hQ
  refine e_isPlace (fun hx => ⟨fun q => absurd q (by decide), fun _ => ?_⟩) (fun hx => ⟨fun _ => by rw [if_neg hx] at hQ; exact hQ _ h .rf, fun q => absurd rfl q⟩)
  rw [if_pos hx] at hQ
  obtain ⟨b, hb, rfl⟩ := i3 hx
  have r := h.1.row (7, 5, 20, 4) (by decide)
  have r8 := h.1.row (8, 6, 23, 100) (by decide)
  have hin : vp_in (nI b) 4 := vp_in_nI (by omega) (by omega)
  have e := h.ar (7, 5, 4) (by decide) (show b < 4 by omega)
  have eb : ix (nI b) = b := ixn (by omega)
  rw [eb] at hQ
  refine ⟨h.1.1, _, r.1, r.2.1, by rw [r.2.2]; exact hin, fun h2 => ?_, fun h2 => ?_⟩
  · rw [nI_clamp (by omega), e] at h2 ⊢
    rw [if_pos h2] at hQ
    obtain ⟨k, hk, ek⟩ : ∃ k, k ≤ 25 ∧ A.1 7 b = nI k := (hW b (by omega)).resolve_left (fun q => by rw [q] at h2; exact absurd h2 (by decide))
    refine ⟨by rw [r.2.2]; exact hin, ?_⟩
    refine e_in (fun hi => ⟨fun q => absurd q (by decide), fun _ => ?_⟩) (fun hi => ⟨fun _ => ⟨h.1.1, by rw [if_neg hi] at hQ; exact M_fnd h (k := 2) (by omega) hQ⟩, fun q => absurd rfl q⟩)
    rw [if_pos hi] at hQ
    have hk0 : 0 < k := by
      rcases Nat.eq_zero_or_pos k with q | q
      · exfalso
        have a1 := Int32.le_iff_toInt_le.mp hi.1
        have a2 := Int32.le_iff_toInt_le.mp hi.2
        rw [ek, q] at a2
        have e1 : (nI 0 - 1).toInt = -1 := by decide
        have e0 : (0 : Int32).toInt = 0 := by decide
        omega
      · exact q
    have e1 : A.1 7 b - 1 = nI (k - 1) := by rw [ek, show k = k - 1 + 1 by omega, nI_pred, Nat.add_sub_cancel]
    have hi' : inr i 0 (nI (k - 1)) := by rw [← e1]; exact hi
    obtain ⟨j, hj, rfl⟩ := inr_ix hi' (by omega)
    rw [ixn (show j < 2 ^ 31 by omega)] at hQ
    have hin8 : vp_in (nI (25 * b + j)) 100 := vp_in_nI (by omega) (by omega)
    rw [ix25]
    refine ⟨h.1.1, _, r8.1, r8.2.1, by rw [r8.2.2]; exact hin8, ?_⟩
    rintro _ rfl
    refine ⟨by rw [r8.2.2]; exact hin8, ?_⟩
    rintro _ rfl
    rw [nI_clamp (by omega), h.ar (8, 6, 100) (by decide) (show 25 * b + j < 100 by omega), pk_vb]
    exact hQ _ (h.setA (q := (8, 6, 100)) (by decide) (25 * b + j) _) (.sI (by omega) (by show z + 36 + 6 < _; omega))
  · rw [nI_clamp (by omega), e] at h2
    rw [if_neg h2] at hQ
    exact M_fnd h (k := 1) (by omega) hQ
theorem M_book (h : RM (z + 36) n σ A) {x : Int32} {Q : Int32 → Me → Prop} (hQ : ∀ σ', RM (z + 36) n σ' (sBook A x).2 → frX z σ σ' → Q (sBook A x).1 σ') : pX12_book σ (z + 36) x Q := by
  unfold sBook at hQ
  refine e_isPlace (fun hx => ⟨fun q => absurd q (by decide), fun _ => ?_⟩) (fun hx => ⟨fun _ => by rw [if_neg hx] at hQ; exact hQ _ h .rf, fun q => absurd rfl q⟩)
  rw [if_pos hx] at hQ
  obtain ⟨b, hb, rfl⟩ := i3 hx
  have r := h.1.row (4, 2, 22, 4) (by decide)
  have hin : vp_in (nI b) 4 := vp_in_nI (by omega) (by omega)
  have e := h.ar (4, 2, 4) (by decide) (show b < 4 by omega)
  have eb : ix (nI b) = b := ixn (by omega)
  rw [eb] at hQ
  refine ⟨h.1.1, _, r.1, r.2.1, by rw [r.2.2]; exact hin, ?_⟩
  rintro v rfl
  refine ⟨by rw [r.2.2]; exact hin, ?_⟩
  rintro _ rfl
  rw [nI_clamp (by omega), e]
  have h1 := h.setA (q := (4, 2, 4)) (by decide) b 1
  have f1 : frX z σ (sI σ (z + 36 + 2) b 1) := .sI (by omega) (by omega)
  refine ⟨fun k σ' y => ∃ j, j ≤ 7 ∧ y = nI j ∧ k = 7 - j ∧ RM (z + 36) n σ' (aF (aS A 4 b 1) 5 (7 * b) j 0) ∧ frX z σ σ', ?_, 7, 0, by omega, rfl, rfl, by rw [aF_0]; exact h1, f1⟩
  rintro k σ' y ⟨j, hj, rfl, rfl, h2, f2⟩
  refine ⟨fun hc => ?_, fun hc => ?_⟩
  · have h7 : 7 ≤ j := (le_c (a := 7) rfl (by omega) (by omega)).mp hc
    have : j = 7 := by omega
    subst this
    exact hQ _ h2 f2
  · have h7 : ¬ 7 ≤ j := fun q => hc ((le_c (a := 7) rfl (by omega) (by omega)).mpr q)
    have r5 := h2.1.row (5, 3, 20, 28) (by decide)
    rw [ix7]
    refine ⟨h2.1.1, _, r5.1, r5.2.1, by rw [r5.2.2]; exact vp_in_nI (by show 7 * b + j < 28; omega) (by show 28 < _; omega), ?_⟩
    rintro _ rfl _ rfl
    refine ⟨7 - (j + 1), by omega, j + 1, by omega, sc1 j, rfl, ?_, f2.tr (.sI (by omega) (by show z + 36 + 3 < _; omega))⟩
    rw [nI_clamp (by omega), ← aF_succ]
    exact h2.setA (q := (5, 3, 28)) (by decide) (7 * b + j) 0
theorem M_sheet (h : RM (z + 36) n σ A) {x y : Int32} {Q : Int32 → Me → Prop} (hQ : ∀ σ', RM (z + 36) n σ' (sSheet A x y).2 → frX z σ σ' → Q (sSheet A x y).1 σ') : pX12_sheet σ (z + 36) x y Q := by
  unfold sSheet at hQ
  refine e_isPlace (fun hx => ⟨fun q => absurd q (by decide), fun _ => ?_⟩) (fun hx => ⟨fun _ => by rw [if_neg hx] at hQ; exact hQ _ h .rf, fun q => absurd rfl q⟩)
  rw [if_pos hx] at hQ
  obtain ⟨b, hb, rfl⟩ := i3 hx
  have eb : ix (nI b) = b := ixn (by omega)
  rw [eb] at hQ
  refine ⟨fun h25 => ?_, fun h25 => by rw [if_neg h25] at hQ; exact hQ _ h .rf⟩
  rw [if_pos h25] at hQ
  refine ⟨fun h0 => ?_, fun h0 => ⟨h.1.1, by rw [if_neg h0] at hQ; exact M_fnd h (k := 5) (by omega) hQ⟩⟩
  rw [if_pos h0] at hQ
  have r := h.1.row (7, 5, 20, 4) (by decide)
  have hin : vp_in (nI b) 4 := vp_in_nI (by omega) (by omega)
  refine ⟨h.1.1, _, r.1, r.2.1, by rw [r.2.2]; exact hin, ?_⟩
  rintro _ rfl
  rw [nI_clamp (by omega)]
  have h1 := h.setA (q := (7, 5, 4)) (by decide) b y
  have f1 : frX z σ (sI σ (z + 36 + 5) b y) := .sI (by omega) (by omega)
  refine ⟨fun k σ' w => ∃ j, j ≤ 25 ∧ w = nI j ∧ k = 25 - j ∧ RM (z + 36) n σ' (aF (aS A 7 b y) 8 (25 * b) j 0) ∧ frX z σ σ', ?_, 25, 0, by omega, rfl, rfl, by rw [aF_0]; exact h1, f1⟩
  rintro k σ' w ⟨j, hj, rfl, rfl, h2, f2⟩
  refine ⟨fun hc => ?_, fun hc => ?_⟩
  · have h7 : 25 ≤ j := (le_c (a := 25) rfl (by omega) (by omega)).mp hc
    have : j = 25 := by omega
    subst this
    exact hQ _ h2 f2
  · have h7 : ¬ 25 ≤ j := fun q => hc ((le_c (a := 25) rfl (by omega) (by omega)).mpr q)
    have r5 := h2.1.row (8, 6, 23, 100) (by decide)
    rw [ix25]
    refine ⟨h2.1.1, _, r5.1, r5.2.1, by rw [r5.2.2]; exact vp_in_nI (by show 25 * b + j < 100; omega) (by show 100 < _; omega), ?_⟩
    rintro _ rfl _ rfl
    refine ⟨25 - (j + 1), by omega, j + 1, by omega, sc1 j, rfl, ?_, f2.tr (.sI (by omega) (by show z + 36 + 6 < _; omega))⟩
    rw [nI_clamp (by omega), ← aF_succ]
    exact h2.setA (q := (8, 6, 100)) (by decide) (25 * b + j) 0
end MM2
