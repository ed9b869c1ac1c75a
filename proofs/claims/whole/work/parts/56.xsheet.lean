section XS
variable {z n : Nat} {σ : Me} {A : Ab}
theorem X_rows (h : RX z σ A) : gP σ z 1 = some (z + 2) ∧ gT σ (z + 2) = 26 ∧ gN σ (z + 2) = 4 ∧ gP σ z 2 = some (z + 7) ∧ gT σ (z + 7) = 20 ∧ gN σ (z + 7) = 4 := ⟨h.1.rf (0, 1, 2) (by decide), (h.1.tg (2, 26, 4) (by decide)).1, (h.1.tg (2, 26, 4) (by decide)).2, h.1.rf (0, 2, 7) (by decide), (h.1.tg (7, 20, 4) (by decide)).1, (h.1.tg (7, 20, 4) (by decide)).2⟩
theorem X_row1 (h : RX z σ A) {s : Nat} (hs : s < 4) : gP σ (z + 2) s = some (z + (3 + s)) ∧ gT σ (z + (3 + s)) = 23 ∧ gN σ (z + (3 + s)) = 25 ∧ gI σ (z + 7) s = A.1 7 s ∧ ∀ i, i < 25 → gI σ (z + (3 + s)) i = A.1 8 (25 * s + i) :=
  ⟨h.1.rf _ (rf2 s hs), (h.1.tg _ (tg3 s hs)).1, (h.1.tg _ (tg3 s hs)).2, h.ce _ (ce7 s hs), fun i hi => h.ce _ (ce8 s hs i hi)⟩
theorem X_sheet (h : RX z σ A) {x y : Int32} {Q : Int32 → Me → Prop} (hQ : ∀ σ', RX z σ' (sSheet A x y).2 → frM z σ σ' → Q (sSheet A x y).1 σ') : pX11_sheet σ z x y Q := by
  unfold sSheet at hQ
  refine e_isSheet (fun hx => ⟨fun q => absurd q (by decide), fun _ => ?_⟩) (fun hx => ⟨fun _ => by rw [if_neg hx] at hQ; exact hQ _ h .rf, fun q => absurd rfl q⟩)
  rw [if_pos hx] at hQ
  obtain ⟨b, hb, rfl⟩ := i3 hx
  have eb : ix (nI b) = b := ixn (by omega)
  rw [eb] at hQ
  refine ⟨fun h25 => ?_, fun h25 => by rw [if_neg h25] at hQ; exact hQ _ h .rf⟩
  rw [if_pos h25] at hQ
  refine ⟨fun h0 => ?_, fun h0 => ⟨X_tag h, by rw [if_neg h0] at hQ; exact X_fnd h (k := 5) (by omega) (by omega) hQ⟩⟩
  rw [if_pos h0] at hQ
  refine ⟨fun k σ' w => ∃ j, j ≤ 25 ∧ w = nI j ∧ k = 25 - j ∧ RX z σ' (aF A 8 (25 * b) j 0) ∧ frM z σ σ', ?_, 25, 0, by omega, rfl, rfl, by rw [aF_0]; exact h, .rf⟩
  rintro k σ' w ⟨j, hj, rfl, rfl, h2, f2⟩
  obtain ⟨a1, a2, a3, a4, a5, a6⟩ := X_rows h2
  obtain ⟨c1, c2, c3, c4, c5⟩ := X_row1 h2 (show b < 4 by omega)
  have hin : vp_in (nI b) 4 := vp_in_nI (by omega) (by omega)
  have rb : gP σ' (z + 2) (nI b).toNatClampNeg = some (z + (3 + b)) := by rw [nI_clamp (by omega)]; exact c1
  refine ⟨X_tag h2, _, a1, a2, by rw [a3]; exact hin, _, rb, c2, ?_⟩
  rw [c3]
  refine ⟨fun hc => ?_, fun hc => ?_⟩
  · have h7 : 25 ≤ j := (nI_leI (by omega) (by omega)).mp hc
    have : j = 25 := by omega
    subst this
    refine ⟨_, a4, a5, by rw [a6]; exact hin, ?_⟩
    rintro _ rfl
    rw [nI_clamp (by omega)]
    refine hQ _ ?_ (f2.tr (.sI (by omega)))
    show RX z _ (aF (aS A 7 b y) 8 (25 * b) 25 0)
    rw [← aS_aF A (show 7 ≠ 8 by decide)]
    exact h2.set (ce7 b (by omega)) (by show (7 : Nat) ≠ 9; decide) y
  · have h7 : ¬ 25 ≤ j := fun q => hc ((nI_leI (by omega) (by omega)).mpr q)
    refine ⟨by rw [a3]; exact hin, _, rb, c2, by rw [c3]; exact vp_in_nI (by omega) (by omega), ?_⟩
    rintro _ rfl _ rfl
    refine ⟨25 - (j + 1), by omega, j + 1, by omega, sc1 j, rfl, ?_, f2.tr (.sI (by omega))⟩
    rw [nI_clamp (by omega), ← aF_succ]
    exact h2.set (ce8 b (by omega) j (by omega)) (by show (8 : Nat) ≠ 9; decide) 0
theorem X_lay (h : RX z σ A) (hW : ∀ s, s < 4 → A.1 7 s = -1 ∨ ∃ k, k ≤ 25 ∧ A.1 7 s = nI k) {x i v : Int32} {Q : Int32 → Me → Prop} (hQ : ∀ σ', RX z σ' (sLay A x i v).2 → frM z σ σ' → Q (sLay A x i v).1 σ') : pX11_lay σ z x i v Q := by
  unfold sLay at hQ
  refine e_isSheet (fun hx => ⟨fun q => absurd q (by decide), fun _ => ?_⟩) (fun hx => ⟨fun _ => by rw [if_neg hx] at hQ; exact hQ _ h .rf, fun q => absurd rfl q⟩)
  rw [if_pos hx] at hQ
  obtain ⟨b, hb, rfl⟩ := i3 hx
  obtain ⟨a1, a2, a3, a4, a5, a6⟩ := X_rows h
  obtain ⟨c1, c2, c3, c4, c5⟩ := X_row1 h (show b < 4 by omega)
  have hin : vp_in (nI b) 4 := vp_in_nI (by omega) (by omega)
  have rb : gP σ (z + 2) (nI b).toNatClampNeg = some (z + (3 + b)) := by rw [nI_clamp (by omega)]; exact c1
  have eb : ix (nI b) = b := ixn (by omega)
  rw [eb] at hQ
  refine ⟨X_tag h, _, a4, a5, by rw [a6]; exact hin, ?_⟩
  rw [nI_clamp (show b < 2 ^ 31 by omega), c4]
  refine ⟨fun h2 => ?_, fun h2 => ?_⟩
  · rw [if_pos h2] at hQ
    obtain ⟨k, hk, ek⟩ : ∃ k, k ≤ 25 ∧ A.1 7 b = nI k := (hW b (by omega)).resolve_left (fun q => by rw [q] at h2; exact absurd h2 (by decide))
    refine ⟨by rw [a6]; exact hin, ?_⟩
    refine e_within (fun hi => ⟨fun q => absurd q (by decide), fun _ => ?_⟩) (fun hi => ⟨fun _ => ⟨X_tag h, by rw [if_neg hi] at hQ; exact X_fnd h (k := 2) (by omega) (by omega) hQ⟩, fun q => absurd rfl q⟩)
    rw [if_pos hi] at hQ
    have hk0 : 0 < k := by
      rcases Nat.eq_zero_or_pos k with q | q
      · exfalso
        have a1 := Int32.le_iff_toInt_le.mp hi.1
        have a2 := Int32.le_iff_toInt_le.mp hi.2
        rw [ek, q] at a2
        have e1 : (nI 0 - 1).toInt = -1 := by decide
        have e0 : (0 : Int32).toInt = 0 := by decide
        omega
      · exact q
    have e1 : A.1 7 b - 1 = nI (k - 1) := by rw [ek, show k = k - 1 + 1 by omega, nI_pred, Nat.add_sub_cancel]
    have hi' : inr i 0 (nI (k - 1)) := by rw [← e1]; exact hi
    obtain ⟨j, hj, rfl⟩ := inr_ix hi' (by omega)
    rw [ixn (show j < 2 ^ 31 by omega)] at hQ
    have hinj : vp_in (nI j) 25 := vp_in_nI (by omega) (by omega)
    have rb2 : gP σ (z + 2) b = some (z + (3 + b)) := c1
    refine ⟨X_tag h, _, a1, a2, by rw [a3]; exact hin, _, rb2, c2, by rw [c3]; exact hinj, ?_⟩
    rintro _ rfl
    refine ⟨by rw [a3]; exact hin, _, rb2, c2, by rw [c3]; exact hinj, ?_⟩
    rintro _ rfl
    rw [nI_clamp (show j < 2 ^ 31 by omega), c5 j (by omega), pk_vb, Int32.add_comm]
    exact hQ _ (h.set (ce8 b (by omega) j (by omega)) (by show (8 : Nat) ≠ 9; decide) _) (.sI (by show z + (3 + b) < _ ∨ _; omega))
  · rw [if_neg h2] at hQ
    exact X_fnd h (k := 1) (by omega) (by omega) hQ
/-- n weights from place i on that are there -/
abbrev str (i m : Int32) : Prop := 0 ≤ i.toInt ∧ 0 ≤ m.toInt ∧ i.toInt + m.toInt ≤ 7
/-- weights of a book come to those of another -/
def aC (A : Ab) (b i t j m : Nat) : Ab := (fun f k => if f = 5 ∧ 7 * t + j ≤ k ∧ k < 7 * t + j + m then A.1 5 (7 * b + i + (k - (7 * t + j))) else A.1 f k, A.2)
def sCopy (A : Ab) (b i t j m : Int32) : Int32 × Ab := if inr b 0 3 ∧ inr t 0 3 then (if A.1 4 (ix b) = 0 ∨ A.1 4 (ix t) = 0 then (-3, fnd A 1) else if str i m ∧ str j m then (1, aC A (ix b) (ix i) (ix t) (ix j) (ix m)) else (-3, fnd A 2)) else (-1, A)
end XS
