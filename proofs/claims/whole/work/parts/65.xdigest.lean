section DX
variable {z : Nat} {σ : Me} {A : Ab}
theorem X_weightOf (h : RX z σ A) {b d : Nat} (hb : b < 4) (hd : d < 7) {Q : Int32 → Me → Prop} (hQ : Q (A.1 5 (7 * b + d)) σ) : pX1_weightOf σ (z + (15 + 2 * b)) (nI d) Q := by
  obtain ⟨c1, c2, c3, c4, c5, c6, c7⟩ := X_book1 h hb
  refine ⟨fun q => absurd q (nI_nlt (b := 0) (a := d) (by omega) (by omega)), fun _ => ⟨c1, _, c2, c3, ?_⟩⟩
  rw [c4]
  refine ⟨fun q => absurd ((nI_leI (by omega) (by omega)).mp q) (by omega), fun _ => ⟨vp_in_nI hd (by omega), ?_⟩⟩
  rw [nI_clamp (by omega), c7 d hd]
  exact hQ
theorem X_dgBooks (h : RX z σ A) {H : Int64} {Q : Int64 → Me → Prop} (hQ : Q (itr (dgB A) H 4) σ) : pX11_digestBooks σ z H Q := by
  obtain ⟨a1, a2, a3⟩ := X_books h
  refine ⟨fun k σ' v w => σ' = σ ∧ ∃ j, j ≤ 4 ∧ w = nI j ∧ k = 4 - j ∧ v = itr (dgB A) H j, ?_, 4, rfl, 0, by omega, rfl, rfl, rfl⟩
  rintro k σ1 v w ⟨es, b, hb, rfl, rfl, rfl⟩
  rw [es]
  refine ⟨X_tag h, _, a1, a2, ?_⟩
  rw [a3]
  refine ⟨fun hc => ?_, fun hc => ?_⟩
  · have h7 : 4 ≤ b := (nI_leI (by omega) (by omega)).mp hc
    have ej : b = 4 := by omega
    subst ej
    exact hQ
  · have h7 : ¬ 4 ≤ b := fun q => hc ((nI_leI (by omega) (by omega)).mpr q)
    obtain ⟨c1, c2, c3, c4, c5, c6, c7⟩ := X_book1 h (show b < 4 by omega)
    have cb : (nI b).toNatClampNeg = b := nI_clamp (by omega)
    refine ⟨vp_in_nI (by omega) (by omega), _, by rw [cb]; exact c5, c1, ?_⟩
    rw [c6]
    refine ⟨fun hb4 => ?_, fun hb4 => ?_⟩
    · rintro _ rfl _ rfl
      exact ⟨4 - (b + 1), by omega, rfl, b + 1, by omega, sc1 b, rfl, by show _ = dgB A b _; unfold dgB; rw [if_pos hb4]⟩
    · refine ⟨fun k σ' v w => σ' = σ ∧ ∃ j, j ≤ 7 ∧ w = nI j ∧ k = 7 - j ∧ v = itr (dgW A b) (itr (dgB A) H b) j, ?_, 7, rfl, 0, by omega, rfl, rfl, rfl⟩
      rintro k σ1 v w ⟨es, j, hj, rfl, rfl, rfl⟩
      rw [es]
      refine ⟨fun hc2 => ?_, fun hc2 => ⟨X_tag h, _, a1, a2, by rw [a3]; exact vp_in_nI (by omega) (by omega), _, by rw [cb]; exact c5, c1, ?_⟩⟩
      · have h8 : 7 ≤ j := (le_c (a := 7) rfl (by omega) (by omega)).mp hc2
        have ej : j = 7 := by omega
        subst ej
        rintro _ rfl
        exact ⟨4 - (b + 1), by omega, rfl, b + 1, by omega, sc1 b, rfl, by show _ = dgB A b _; unfold dgB; rw [if_neg hb4]⟩
      · have h8 : ¬ 7 ≤ j := fun q => hc2 ((le_c (a := 7) rfl (by omega) (by omega)).mpr q)
        refine X_weightOf h (by omega) (by omega) ?_
        rintro _ rfl _ rfl
        exact ⟨7 - (j + 1), by omega, rfl, j + 1, by omega, sc1 j, rfl, rfl⟩
theorem X_dgRules (h : RX z σ A) (hU : WFu A) {H : Int64} {Q : Int64 → Me → Prop} (hQ : Q (itr (dgR A) H (ix (A.1 9 0))) σ) : pX11_digestRules σ z H Q := by
  obtain ⟨⟨R, hR, e9, hr9⟩, -⟩ := hU
  obtain ⟨a1, a2, a3⟩ := X_rulesA h
  have ec : ix (A.1 9 0) = R := by rw [e9]; exact ixn (by omega)
  rw [ec] at hQ
  refine ⟨fun k σ' v w => σ' = σ ∧ ∃ j, j ≤ R ∧ w = nI j ∧ k = R - j ∧ v = itr (dgR A) H j, ?_, R, rfl, 0, by omega, rfl, rfl, rfl⟩
  rintro k σ1 v w ⟨es, r, hr, rfl, rfl, rfl⟩
  rw [es]
  refine ⟨X_tag h, ?_⟩
  rw [X_ever h, e9]
  refine ⟨fun hc => ?_, fun hc => ⟨_, a1, a2, ?_⟩⟩
  · have h7 : R ≤ r := (nI_leI (by omega) (by omega)).mp hc
    have ej : r = R := by omega
    subst ej
    exact hQ
  · have h7 : ¬ R ≤ r := fun q => hc ((nI_leI (by omega) (by omega)).mpr q)
    obtain ⟨g1, g2, g3⟩ := X_ruleAt h hR e9 (show r < R by omega)
    rw [a3] at g3 ⊢
    refine ⟨fun q => absurd ((nI_leI (by omega) (by omega)).mp q) (by omega), fun _ => ⟨g3, fun hn => ?_, fun q hq => ?_⟩⟩
    · have h16 : ¬ A.1 16 r = 0 := fun e => by
        obtain ⟨q, hq, -⟩ := g1 e
        rw [hn] at hq
        cases hq
      rintro _ rfl _ rfl
      exact ⟨R - (r + 1), by omega, rfl, r + 1, by omega, sc1 r, rfl, by show _ = dgR A r _; unfold dgR; rw [if_neg h16]⟩
    · have h16 : A.1 16 r = 0 := by
        by_cases e : A.1 16 r = 0
        · exact e
        · rw [g2 e] at hq
          cases hq
      obtain ⟨q', hq', -, ho⟩ := g1 h16
      refine ⟨fun k σ' v w => σ' = σ ∧ ∃ j, j ≤ 5 ∧ w = nI j ∧ k = 5 - j ∧ v = itr (dgT A r) (itr (dgR A) H r) j, ?_, 5, rfl, 0, by omega, rfl, rfl, rfl⟩
      rintro k σ1 v w ⟨es, j, hj, rfl, rfl, rfl⟩
      rw [es]
      refine ⟨fun hc2 => ?_, fun hc2 => ⟨X_tag h, _, a1, a2, by rw [a3]; exact g3, q', hq', X_tellOf ho (hr9 r (by omega)) ?_⟩⟩
      · have h8 : 4 < j := (lt_c (a := 4) rfl (by omega) (by omega)).mp hc2
        have ej : j = 5 := by omega
        subst ej
        rintro _ rfl
        exact ⟨R - (r + 1), by omega, rfl, r + 1, by omega, sc1 r, rfl, by show _ = dgR A r _; unfold dgR; rw [if_pos h16]⟩
      · have h8 : ¬ 4 < j := fun q => hc2 ((lt_c (a := 4) rfl (by omega) (by omega)).mpr q)
        rintro _ rfl _ rfl
        exact ⟨5 - (j + 1), by omega, rfl, j + 1, by omega, sc1 j, rfl, rfl⟩
theorem X_dgSheets (h : RX z σ A) (hW : WF A) {H : Int64} {Q : Int64 → Me → Prop} (hQ : Q (itr (dgS A) H 4) σ) : pX11_digestSheets σ z H Q := by
  have t7 := h.1.tg (7, 20, 4) (by decide)
  have r7 := h.1.rf (0, 2, 7) (by decide)
  have t2 := h.1.tg (2, 26, 4) (by decide)
  have r2 := h.1.rf (0, 1, 2) (by decide)
  refine ⟨fun k σ' v w => σ' = σ ∧ ∃ j, j ≤ 4 ∧ w = nI j ∧ k = 4 - j ∧ v = itr (dgS A) H j, ?_, 4, rfl, 0, by omega, rfl, rfl, rfl⟩
  rintro k σ1 v w ⟨es, s, hs, rfl, rfl, rfl⟩
  rw [es]
  refine ⟨fun hc => ?_, fun hc => ⟨X_tag h, ?_⟩⟩
  · have h7 : 4 ≤ s := (le_c (a := 4) rfl (by omega) (by omega)).mp hc
    have ej : s = 4 := by omega
    subst ej
    exact hQ
  · have h7 : ¬ 4 ≤ s := fun q => hc ((le_c (a := 4) rfl (by omega) (by omega)).mpr q)
    have hin : vp_in (nI s) 4 := vp_in_nI (by omega) (by omega)
    have cs : (nI s).toNatClampNeg = s := nI_clamp (by omega)
    have e7 : gI σ (z + 7) s = A.1 7 s := h.ce (7, s, 7, s) (ce7 s (by omega))
    have tb := h.1.tg (3 + s, 23, 25) (tg3 s (by omega))
    have rb := h.1.rf (2, s, 3 + s) (rf2 s (by omega))
    refine ⟨_, r7, t7.1, by rw [t7.2]; exact hin, ?_⟩
    rintro _ rfl
    rw [cs, show gI σ (z + (0, 2, 7).2.2) s = A.1 7 s from e7]
    have hle : ∃ N, N ≤ 25 ∧ ix (A.1 7 s) = N ∧ ∀ j, j < 2 ^ 31 → (A.1 7 s ≤ nI j ↔ N ≤ j) := by
      rcases hW.2.2.1 s (by omega) with e | ⟨N, hN, e⟩
      · refine ⟨0, by omega, by rw [e]; decide, fun j hj => ⟨fun _ => by omega, fun _ => ?_⟩⟩
        rw [e]
        exact Int32.le_iff_toInt_le.mpr (by rw [nI_toInt hj, show (-1 : Int32).toInt = -1 by decide]; omega)
      · exact ⟨N, hN, by rw [e]; exact ixn (by omega), fun j hj => by rw [e]; exact nI_leI (by omega) hj⟩
    obtain ⟨N, hN, eN, leN⟩ := hle
    refine ⟨fun k σ' v w => σ' = σ ∧ ∃ j, j ≤ N ∧ w = nI j ∧ k = N - j ∧ v = itr (dgY A s) (31 * itr (dgS A) H s + (A.1 7 s).toInt64) j, ?_, N, rfl, 0, by omega, rfl, rfl, rfl⟩
    rintro k σ1 v w ⟨es, j, hj, rfl, rfl, rfl⟩
    rw [es]
    refine ⟨X_tag h, _, r7, t7.1, by rw [t7.2]; exact hin, ?_⟩
    rw [show gI σ (z + (0, 2, 7).2.2) s = A.1 7 s from e7]
    refine ⟨fun hc2 => ?_, fun hc2 => ⟨fun q => ?_, fun q => ?_⟩⟩
    · have h8 : N ≤ j := (leN j (by omega)).mp hc2
      have ej : j = N := by omega
      subst ej
      rintro _ rfl
      exact ⟨4 - (s + 1), by omega, rfl, s + 1, by omega, sc1 s, rfl, by show _ = dgS A s _; unfold dgS; rw [eN]⟩
    · have h8 : ¬ N ≤ j := fun q => hc2 ((leN j (by omega)).mpr q)
      have h9 : 25 ≤ j := (le_c (a := 25) rfl (by omega) (by omega)).mp q
      omega
    · have h8 : ¬ N ≤ j := fun q => hc2 ((leN j (by omega)).mpr q)
      refine ⟨_, r2, t2.1, by rw [t2.2]; exact hin, _, rb, tb.1, by rw [tb.2]; exact vp_in_nI (show j < 25 by omega) (by show 25 < _; omega), ?_⟩
      rintro _ rfl _ rfl
      rw [nI_clamp (show j < 2 ^ 31 by omega), show gI σ (z + (2, s, 3 + s).2.2) j = A.1 8 (25 * s + j) from h.ce (8, 25 * s + j, 3 + s, j) (ce8 s (by omega) j (by omega))]
      exact ⟨N - (j + 1), by omega, rfl, j + 1, by omega, sc1 j, rfl, rfl⟩
theorem X_digest (h : RX z σ A) (hU : WFu A) (hW : WF A) {Q : Int64 → Me → Prop} (hQ : Q (sDigest A) σ) : pX11_digest σ z Q := by
  have t9 := h.1.tg (9, 6, 0) (by decide)
  have r9 := h.1.rf (0, 5, 9) (by decide)
  refine ⟨fun k σ' v w => σ' = σ ∧ ∃ j, j ≤ 6 ∧ w = nI j ∧ k = 6 - j ∧ v = itr (dgC A) 17 j, ?_, 6, rfl, 0, by omega, rfl, rfl, rfl⟩
  rintro k σ1 v w ⟨es, j, hj, rfl, rfl, rfl⟩
  rw [es]
  refine ⟨fun hc => ⟨X_tag h, _, r9, t9.1, ?_⟩, fun hc => ⟨X_tag h, X_count h hU ?_⟩⟩
  · have h7 : 5 < j := (lt_c (a := 5) rfl (by omega) (by omega)).mp hc
    have ej : j = 6 := by omega
    subst ej
    rw [show gI σ (z + (0, 5, 9).2.2) 3 = A.1 20 0 from h.ce (20, 0, 9, 3) (by decide), show gI σ (z + (0, 5, 9).2.2) 4 = A.1 21 0 from h.ce (21, 0, 9, 4) (by decide), show gI σ (z + (0, 5, 9).2.2) 5 = A.1 22 0 from h.ce (22, 0, 9, 5) (by decide), show gI σ (z + (0, 5, 9).2.2) 6 = A.1 23 0 from h.ce (23, 0, 9, 6) (by decide)]
    rintro _ rfl _ rfl _ rfl _ rfl
    exact X_dgBooks h ⟨X_tag h, X_dgRules h hU ⟨X_tag h, X_dgSheets h hW hQ⟩⟩
  · have h7 : ¬ 5 < j := fun q => hc ((lt_c (a := 5) rfl (by omega) (by omega)).mpr q)
    rintro _ rfl _ rfl
    exact ⟨6 - (j + 1), by omega, rfl, j + 1, by omega, sc1 j, rfl, rfl⟩
end DX
