section DM
variable {z n : Nat} {σ : Me} {A : Ab}
theorem M_doubt (h : RM (z + 36) n σ A) (hW : WF A) {p q u v : Int32} {Q : Int32 → Me → Prop} (hQ : ∀ σ', RM (z + 36) n σ' (sDoubt A p q u v).2 → frX z σ σ' → Q (sDoubt A p q u v).1 σ') : pX12_doubt σ (z + 36) p q u v Q := by
  unfold sDoubt at hQ
  refine e_isPlace (fun h1 => ⟨fun q => absurd q (by decide), fun _ => ?_⟩) (fun h1 => ⟨fun _ => by rw [if_neg (fun q => h1 q.1)] at hQ; exact hQ _ h .rf, fun q => absurd rfl q⟩)
  refine e_isPlace (fun h2 => ⟨fun q => absurd q (by decide), fun _ => ⟨fun h3 => ?_, fun h3 => ?_⟩⟩) (fun h1 => ⟨fun _ => by rw [if_neg (fun q => h1 q.2.1)] at hQ; exact hQ _ h .rf, fun q => absurd rfl q⟩)
  · rw [if_neg (fun q => q.2.2.1 h3)] at hQ
    exact hQ _ h .rf
  refine e_in (fun h4 => ⟨fun q => absurd q (by decide), fun _ => ?_⟩) (fun h1 => ⟨fun _ => by rw [if_neg (fun q => h1 q.2.2.2.1)] at hQ; exact hQ _ h .rf, fun q => absurd rfl q⟩)
  refine e_in (fun h5 => ⟨fun q => absurd q (by decide), fun _ => ?_⟩) (fun h1 => ⟨fun _ => by rw [if_neg (fun q => h1 q.2.2.2.2)] at hQ; exact hQ _ h .rf, fun q => absurd rfl q⟩)
  rw [if_pos ⟨h1, h2, h3, h4, h5⟩] at hQ
  obtain ⟨a, ha, rfl⟩ := i3 h1
  obtain ⟨b, hb, rfl⟩ := i3 h2
  obtain ⟨s, hs1, hs9, rfl⟩ := i9 h4
  obtain ⟨t, ht1, ht9, rfl⟩ := i9 h5
  rw [ixn (show a < 2 ^ 31 by omega), ixn (show b < 2 ^ 31 by omega), ixn (show s < 2 ^ 31 by omega), ixn (show t < 2 ^ 31 by omega)] at hQ
  obtain ⟨g1, g2, va⟩ := M_at h 4 2 4 (t := 22) (by decide) (show a < 4 by omega) (by omega)
  obtain ⟨-, -, vb⟩ := M_at h 4 2 4 (t := 22) (by decide) (show b < 4 by omega) (by omega)
  have ca : (nI a).toNatClampNeg = a := nI_clamp (by omega)
  have cb : (nI b).toNatClampNeg = b := nI_clamp (by omega)
  have ea : gI σ (z + 36 + 2) a = A.1 4 a := h.ar (4, 2, 4) (by decide) (show a < 4 by omega)
  have eb : gI σ (z + 36 + 2) b = A.1 4 b := h.ar (4, 2, 4) (by decide) (show b < 4 by omega)
  have Wa := sW_eq hW (show a < 4 by omega) 7 (by omega)
  have Wb := sW_eq hW (show b < 4 by omega) 7 (by omega)
  have la := WN_le hW (show a < 4 by omega)
  have lb := WN_le hW (show b < 4 by omega)
  have za : sW A a 7 = 0 ↔ WN A a = 0 := by rw [Wa]; exact nI_eq (b := 0) (by unfold WN at la; omega) (by omega)
  have zb : sW A b 7 = 0 ↔ WN A b = 0 := by rw [Wb]; exact nI_eq (b := 0) (by unfold WN at lb; omega) (by omega)
  have Wla : (sW A a 7).toInt64 = lN (WN A a) := by rw [Wa]; exact nI_l (by unfold WN at la; omega)
  have Wlb : (sW A b 7).toInt64 = lN (WN A b) := by rw [Wb]; exact nI_l (by unfold WN at lb; omega)
  refine ⟨h.1.1, _, g1, g2, va, ?_⟩
  rw [ca, cb, ea, eb]
  refine ⟨fun e => by rw [if_pos (.inl e)] at hQ; exact M_fnd h (k := 1) (by omega) hQ, fun e1 => ⟨vb, fun e => by rw [if_pos (.inr e)] at hQ; exact M_fnd h (k := 1) (by omega) hQ, fun e2 => ?_⟩⟩
  rw [if_neg (fun q => q.elim e1 e2)] at hQ
  obtain ⟨k, hk, ek⟩ := hW.2.2.2.2.2.2.2.2.2.1
  have eix : ix (A.1 55 0) = k := by rw [ek]; exact ixn (by omega)
  have g55 : gI σ (z + 36) 55 = nI k := (h.sc 55 (by decide)).trans ek
  rintro _ rfl _ rfl
  rw [nI_l (show s < 2 ^ 31 by omega), nI_l (show t < 2 ^ 31 by omega)]
  refine ⟨fun m σ' x y w => σ' = σ ∧ ∃ j, j ≤ k ∧ w = nI j ∧ m = k - j ∧ x = lN (s * psN A a j * WN A b ^ j) ∧ y = lN (t * psN A b j * WN A a ^ j), ?_, k, rfl, 0, by omega, rfl, rfl, by show lN s = lN (s * 1 * 1); rw [Nat.mul_one, Nat.mul_one], by show lN t = lN (t * 1 * 1); rw [Nat.mul_one, Nat.mul_one]⟩
  rintro m σ1 x y w ⟨es, j, hj, rfl, rfl, rfl, rfl⟩
  rw [es]
  refine ⟨h.1.1, ?_⟩
  rw [g55]
  refine ⟨fun hc => ?_, fun hc => ?_⟩
  · have hjk : k ≤ j := (nI_leI (by omega) (by omega)).mp hc
    have ej : j = k := by omega
    rw [ej]
    have f1 : lN (s * psN A a k * WN A b ^ k) = lN (dbN A s a b) := by unfold dbN; rw [eix]
    have f2 : lN (t * psN A b k * WN A a ^ k) = lN (dbN A t b a) := by unfold dbN; rw [eix]
    rw [f1, f2, lN_add]
    have b1 := db_le hW hs9 (show a < 4 by omega) (show b < 4 by omega)
    have b2 := db_le hW ht9 (show b < 4 by omega) (show a < 4 by omega)
    have z0 : lN (dbN A s a b + dbN A t b a) = 0 ↔ dbN A s a b + dbN A t b a = 0 := pk_lEQ (b := 0) (by omega) (by omega)
    refine M_allOf h (by omega) ⟨fun e => ⟨h.1.1, by rw [if_pos (.inl (za.mp e))] at hQ; exact M_fnd h (k := 4) (by omega) hQ⟩, fun e3 => ⟨h.1.1, ?_⟩⟩
    refine M_allOf h (by omega) ⟨fun e => ⟨h.1.1, by rw [if_pos (.inr (.inl (zb.mp e)))] at hQ; exact M_fnd h (k := 4) (by omega) hQ⟩, fun e4 => ⟨fun e => ⟨h.1.1, by rw [if_pos (.inr (.inr (z0.mp e)))] at hQ; exact M_fnd h (k := 4) (by omega) hQ⟩, fun e5 => ⟨h.1.1, ?_⟩⟩⟩
    have n0 : ¬ dbN A s a b + dbN A t b a = 0 := fun q => e5 (z0.mpr q)
    rw [if_neg (fun q => q.elim (fun q => e3 (za.mpr q)) (fun q => q.elim (fun q => e4 (zb.mpr q)) n0))] at hQ
    exact M_tells h (by omega) (by omega) (by omega) hQ
  · have hjk : ¬ k ≤ j := fun q => hc ((nI_leI (by omega) (by omega)).mpr q)
    obtain ⟨d, hd1, hd2⟩ := hW.2.2.2.2.2.2.2.2.2.2 j (by omega)
    have ed : ix (A.1 56 j) = d := by rw [hd2]; exact ixn (by omega)
    obtain ⟨m1, m2, m3⟩ := M_at h 56 22 6 (t := 20) (by decide) (show j < 6 by omega) (by omega)
    obtain ⟨n1, n2, n3⟩ := M_at h 5 3 28 (t := 20) (by decide) (show 7 * a + d < 28 by omega) (by omega)
    obtain ⟨-, -, o3⟩ := M_at h 5 3 28 (t := 20) (by decide) (show 7 * b + d < 28 by omega) (by omega)
    have e56 : gI σ (z + 36 + 22) (nI j).toNatClampNeg = nI d := by
      rw [nI_clamp (by omega)]
      exact (h.ar (56, 22, 6) (by decide) (show j < 6 by omega)).trans hd2
    have wa := wN_eq hW (show a < 4 by omega) (show d < 7 by omega)
    have wb := wN_eq hW (show b < 4 by omega) (show d < 7 by omega)
    refine ⟨_, n1, _, m1, m2, m3, n2, by rw [e56, ix7]; exact n3, ?_⟩
    refine M_allOf h (by omega) ?_
    rintro _ rfl
    refine ⟨h.1.1, _, n1, _, m1, m2, m3, n2, by rw [e56, ix7]; exact o3, ?_⟩
    refine M_allOf h (by omega) ?_
    rintro _ rfl _ rfl
    rw [e56, ix7, ix7, nI_clamp (show 7 * a + d < 2 ^ 31 by omega), nI_clamp (show 7 * b + d < 2 ^ 31 by omega), h.ar (5, 3, 28) (by decide) (show 7 * a + d < 28 by omega), h.ar (5, 3, 28) (by decide) (show 7 * b + d < 28 by omega)]
    show ∃ m78, _ ∧ (_ ∧ _)
    refine ⟨k - (j + 1), by omega, rfl, j + 1, by omega, sc1 j, rfl, ?_, ?_⟩
    · show _ = lN (s * (psN A a j * wN A a (ix (A.1 56 j))) * WN A b ^ (j + 1))
      rw [show A.1 (5, 3, 28).1 (7 * a + d) = nI (wN A a d) from wa.1, Wlb, nI_l (by omega), lN_mul, lN_mul, ed, Nat.pow_succ]
      congr 1
      ac_rfl
    · show _ = lN (t * (psN A b j * wN A b (ix (A.1 56 j))) * WN A a ^ (j + 1))
      rw [show A.1 (5, 3, 28).1 (7 * b + d) = nI (wN A b d) from wb.1, Wla, nI_l (by omega), lN_mul, lN_mul, ed, Nat.pow_succ]
      congr 1
      ac_rfl
end DM
