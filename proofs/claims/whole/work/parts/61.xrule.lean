section XT
variable {z : Nat} {σ : Me} {A : Ab}
theorem X_ruleIf (h : RX z σ A) (hU : WFu A) {x : Int32} (hx : isR A x) : ∃ r, r < 12 ∧ x = nI r ∧ ix x = r ∧ WFr A r ∧ gP σ z 3 = some (z + 8) ∧ gT σ (z + 8) = 25 ∧ vp_in x (gN σ (z + 8)) ∧ (gP σ (z + 8) x.toNatClampNeg = none → ¬ A.1 16 r = 0) ∧ (∀ q, gP σ (z + 8) x.toNatClampNeg = some q → A.1 16 r = 0 ∧ (z + 59 ≤ q ∧ q < gz σ) ∧ ruO z σ q A r) := by
  obtain ⟨⟨R, hR, e9, hr9⟩, -⟩ := hU
  obtain ⟨r, hr, rfl⟩ := isR_nat hR e9 hx
  obtain ⟨a1, a2, a3⟩ := X_rulesA h
  obtain ⟨g1, g2, g3⟩ := X_ruleAt h hR e9 hr
  refine ⟨r, by omega, rfl, ixn (by omega), hr9 r hr, a1, a2, g3, fun hn e => ?_, fun q hq => ?_⟩
  · obtain ⟨q, hq, -⟩ := g1 e
    rw [hn] at hq
    cases hq
  · have h16 : A.1 16 r = 0 := by
      by_cases e : A.1 16 r = 0
      · exact e
      · rw [g2 e] at hq
        cases hq
    obtain ⟨q', hq', b⟩ := g1 h16
    rw [hq] at hq'
    cases hq'
    exact ⟨h16, b⟩
theorem X_tellOf {q r : Nat} (h : ruO z σ q A r) (hW : WFr A r) {w : Int32} {Q : Int32 → Me → Prop} (hQ : Q (toldV A r w) σ) : pX11_tellOf σ q w (fun r σ' => Q r σ') := by
  unfold toldV at hQ
  have v0 : w = 0 → Q (A.1 10 r) σ := fun e => by rw [if_pos e] at hQ; exact hQ
  have v1 : w = 1 → Q (A.1 12 r) σ := fun e => by rw [if_neg (by rw [e]; decide), if_pos e] at hQ; exact hQ
  have v2 : w = 2 → Q (A.1 11 r) σ := fun e => by rw [if_neg (by rw [e]; decide), if_neg (by rw [e]; decide), if_pos e] at hQ; exact hQ
  have v3 : w = 3 → Q (A.1 13 r) σ := fun e => by rw [if_neg (by rw [e]; decide), if_neg (by rw [e]; decide), if_neg (by rw [e]; decide), if_pos e] at hQ; exact hQ
  have v4 : ¬ w = 0 → ¬ w = 1 → ¬ w = 2 → ¬ w = 3 → Q (A.1 14 r) σ := fun e0 e1 e2 e3 => by rw [if_neg e0, if_neg e1, if_neg e2, if_neg e3] at hQ; exact hQ
  rcases h with ⟨a1, a2, y, k, b1, b2, b3, b4, b5, b6, b7⟩ | ⟨a1, a2, a3⟩ | ⟨a1, a2, a3, a4⟩ | ⟨a1, a2, a3, a4⟩
  · have w3 : A.1 11 r = -9 ∧ A.1 12 r = -9 ∧ A.1 13 r = -9 := by
      rcases hW with c | c | c | c
      · exact ⟨c.2.1, c.2.2.1, c.2.2.2.1⟩
      all_goals (rw [a1] at c; exact absurd c.1 (by decide))
    rw [a1] at v0
    rw [w3.1] at v2
    rw [w3.2.1] at v1
    rw [w3.2.2] at v3
    exact ⟨fun e => .inr (.inr (.inr ⟨a2, v0 e⟩)), fun e => .inr (.inr (.inr ⟨a2, v1 e⟩)), fun e => .inr (.inr (.inr ⟨a2, v2 e⟩)), fun e => .inr (.inr (.inr ⟨a2, v3 e⟩)), fun e0 e1 e2 e3 => .inr (.inr (.inr ⟨a2, a2, y, b1, b3, by rw [b4, ← b6]; exact v4 e0 e1 e2 e3⟩))⟩
  · have w3 : A.1 11 r = -9 ∧ A.1 13 r = -9 ∧ A.1 14 r = -9 := by
      rcases hW with c | c | c | c
      case inr.inl => exact ⟨c.2.1, c.2.2.1, c.2.2.2.1⟩
      all_goals (rw [a1] at c; exact absurd c.1 (by decide))
    rw [a1] at v0
    rw [← a3] at v1
    rw [w3.1] at v2
    rw [w3.2.1] at v3
    rw [w3.2.2] at v4
    exact ⟨fun e => .inl ⟨a2, v0 e⟩, fun e => .inl ⟨a2, a2, v1 e⟩, fun e => .inl ⟨a2, v2 e⟩, fun e => .inl ⟨a2, v3 e⟩, fun e0 e1 e2 e3 => .inl ⟨a2, v4 e0 e1 e2 e3⟩⟩
  · have w3 : A.1 13 r = -9 ∧ A.1 14 r = -9 := by
      rcases hW with c | c | c | c
      case inr.inr.inl => exact ⟨c.2.1, c.2.2.1⟩
      all_goals (rw [a1] at c; exact absurd c.1 (by decide))
    rw [a1] at v0
    rw [← a3] at v1
    rw [← a4] at v2
    rw [w3.1] at v3
    rw [w3.2] at v4
    exact ⟨fun e => .inr (.inr (.inl ⟨a2, v0 e⟩)), fun e => .inr (.inr (.inl ⟨a2, a2, v1 e⟩)), fun e => .inr (.inr (.inl ⟨a2, a2, v2 e⟩)), fun e => .inr (.inr (.inl ⟨a2, v3 e⟩)), fun e0 e1 e2 e3 => .inr (.inr (.inl ⟨a2, v4 e0 e1 e2 e3⟩))⟩
  · have w3 : A.1 12 r = -9 ∧ A.1 14 r = -9 := by
      rcases hW with c | c | c | c
      case inr.inr.inr => exact ⟨c.2.1, c.2.2.1⟩
      all_goals (rw [a1] at c; exact absurd c.1 (by decide))
    rw [a1] at v0
    rw [← a3] at v2
    rw [← a4] at v3
    rw [w3.1] at v1
    rw [w3.2] at v4
    exact ⟨fun e => .inr (.inl ⟨a2, v0 e⟩), fun e => .inr (.inl ⟨a2, v1 e⟩), fun e => .inr (.inl ⟨a2, a2, v2 e⟩), fun e => .inr (.inl ⟨a2, a2, v3 e⟩), fun e0 e1 e2 e3 => .inr (.inl ⟨a2, v4 e0 e1 e2 e3⟩)⟩
theorem X_told (h : RX z σ A) (hU : WFu A) {x w : Int32} {Q : Int32 → Me → Prop} (hQ : ∀ σ', RX z σ' (sTold A x w).2 → frM z σ σ' → Q (sTold A x w).1 σ') : pX11_told σ z x w Q := by
  unfold sTold at hQ
  refine ⟨X_tag h, X_isRule h hU (fun hx => ⟨fun q => absurd q (by decide), fun _ => ?_⟩) (fun hx => ⟨fun _ => by rw [if_neg (fun q => hx q.1)] at hQ; exact hQ _ h .rf, fun q => absurd rfl q⟩)⟩
  refine e_within (fun hw => ⟨fun q => absurd q (by decide), fun _ => ?_⟩) (fun hw => ⟨fun _ => by rw [if_neg (fun q => hw q.2)] at hQ; exact hQ _ h .rf, fun q => absurd rfl q⟩)
  rw [if_pos ⟨hx, hw⟩] at hQ
  obtain ⟨r, hr, ex, ei, hWr, a1, a2, a3, gn, gs⟩ := X_ruleIf h hU hx
  rw [ei] at hQ
  refine ⟨X_tag h, _, a1, a2, a3, fun hn => ?_, fun q hq => ⟨a3, q, hq, ?_⟩⟩
  · rw [if_neg (gn hn)] at hQ
    exact X_fnd h (k := 1) (by omega) (by omega) hQ
  · obtain ⟨h16, -, ho⟩ := gs q hq
    rw [if_pos h16] at hQ
    exact X_tellOf ho hWr (hQ _ h .rf)
theorem cut12_eq (v : Int32) : (if (0 : Int32) < (if v < 12 then v else 12) then (if v < 12 then v else 12) else 0) = cut12 v := by
  unfold cut12
  by_cases h1 : v < 12
  · rw [if_pos h1]
    by_cases h2 : (0 : Int32) ≤ v
    · rw [if_pos h2, if_pos (Int32.le_iff_toInt_le.mpr (by have := Int32.lt_iff_toInt_lt.mp h1; omega))]
      by_cases h3 : (0 : Int32) < v
      · rw [if_pos h3]
      · rw [if_neg h3]
        have a := Int32.le_iff_toInt_le.mp h2
        have b : ¬ (0 : Int32).toInt < v.toInt := fun q => h3 (Int32.lt_iff_toInt_lt.mpr q)
        exact Int32.toInt_inj.mp (by omega)
    · rw [if_neg h2, if_neg (fun q => h2 (Int32.le_iff_toInt_le.mpr (by have := Int32.lt_iff_toInt_lt.mp q; omega)))]
  · have e12 : (12 : Int32).toInt = 12 := by decide
    have e0 : (0 : Int32).toInt = 0 := by decide
    have b : ¬ v.toInt < (12 : Int32).toInt := fun q => h1 (Int32.lt_iff_toInt_lt.mpr q)
    rw [if_neg h1, if_pos (by decide), if_pos (Int32.le_iff_toInt_le.mpr (by omega))]
    by_cases h3 : v ≤ 12
    · rw [if_pos h3]
      have := Int32.le_iff_toInt_le.mp h3
      exact Int32.toInt_inj.mp (by omega)
    · rw [if_neg h3]
/-- what a rule's object would send for, before it is cut -/
def wntV (A : Ab) (r : Nat) (p : Int32) : Int32 := if A.1 10 r = 1 then A.1 12 r - p else if A.1 10 r = 2 then (if A.1 11 r < p then 0 else A.1 12 r - p) else if A.1 10 r = 3 then (if A.1 11 r < p then 0 else A.1 13 r) else if inr (p + 12) 0 (A.1 14 r - 1) then A.1 15 (25 * r + ix (p + 12)) else 0
theorem ordV_eq (A : Ab) (r : Nat) (p : Int32) : ordV A r p = cut12 (wntV A r p) := rfl
theorem X_wants {q r : Nat} (h : ruO z σ q A r) {p : Int32} {Q : Int32 → Me → Prop} (hQ : Q (wntV A r p) σ) : vwants σ q p Q := by
  unfold wntV at hQ
  rcases h with ⟨a1, a2, y, k, b1, b2, b3, b4, b5, b6, b7⟩ | ⟨a1, a2, a3⟩ | ⟨a1, a2, a3, a4⟩ | ⟨a1, a2, a3, a4⟩
  · rw [a1, if_neg (by decide), if_neg (by decide), if_neg (by decide)] at hQ
    refine .inr (.inr (.inr ⟨a2, ?_⟩))
    rintro _ rfl
    have e12 : p - (-12) = p + 12 := by rw [Int32.sub_eq_add_neg]; rfl
    rw [e12]
    refine ⟨a2, y, b1, b3, ?_⟩
    rw [b4, ← b6]
    refine e_within (fun hi => ⟨fun q => absurd q (by decide), fun _ => ⟨a2, y, b1, b3, ?_⟩⟩) (fun hi => ⟨fun _ => by rw [if_neg hi] at hQ; exact hQ, fun q => absurd rfl q⟩)
    rw [if_pos hi] at hQ
    have hk0 : 0 < k := by
      rcases Nat.eq_zero_or_pos k with q | q
      · exfalso
        have a1 := Int32.le_iff_toInt_le.mp hi.1
        have a2 := Int32.le_iff_toInt_le.mp hi.2
        rw [b6, q] at a2
        have e1 : (nI 0 - 1).toInt = -1 := by decide
        have e0 : (0 : Int32).toInt = 0 := by decide
        omega
      · exact q
    have e1 : A.1 14 r - 1 = nI (k - 1) := by rw [b6, show k = k - 1 + 1 by omega, nI_pred, Nat.add_sub_cancel]
    have hi' : inr (p + 12) 0 (nI (k - 1)) := by rw [← e1]; exact hi
    obtain ⟨j, hj, ej⟩ := inr_ix hi' (by omega)
    rw [ej]
    rw [ej, ixn (show j < 2 ^ 31 by omega)] at hQ
    refine ⟨by rw [b4]; exact vp_in_nI (by omega) (by omega), ?_⟩
    rw [nI_clamp (by omega), b7 j (by omega)]
    exact hQ
  · rw [if_pos a1, ← a3] at hQ
    exact .inl ⟨a2, a2, hQ⟩
  · rw [a1, if_neg (by decide), if_pos rfl, ← a3, ← a4] at hQ
    refine .inr (.inr (.inl ⟨a2, a2, ?_⟩))
    rintro _ rfl
    exact hQ
  · rw [a1, if_neg (by decide), if_neg (by decide), if_pos rfl, ← a3, ← a4] at hQ
    refine .inr (.inl ⟨a2, a2, ?_⟩)
    rintro _ rfl
    exact hQ
theorem X_order (h : RX z σ A) (hU : WFu A) {x p : Int32} {Q : Int32 → Me → Prop} (hQ : ∀ σ', RX z σ' (sOrder A x p).2 → frM z σ σ' → Q (sOrder A x p).1 σ') : pX11_order σ z x p Q := by
  unfold sOrder at hQ
  refine ⟨X_tag h, X_isRule h hU (fun hx => ⟨fun q => absurd q (by decide), fun _ => ?_⟩) (fun hx => ⟨fun _ => by rw [if_neg (fun q => hx q.1)] at hQ; exact hQ _ h .rf, fun q => absurd rfl q⟩)⟩
  refine e_isPosition (fun hw => ⟨fun q => absurd q (by decide), fun _ => ?_⟩) (fun hw => ⟨fun _ => by rw [if_neg (fun q => hw q.2)] at hQ; exact hQ _ h .rf, fun q => absurd rfl q⟩)
  rw [if_pos ⟨hx, hw⟩] at hQ
  obtain ⟨r, hr, ex, ei, hWr, a1, a2, a3, gn, gs⟩ := X_ruleIf h hU hx
  rw [ei] at hQ
  refine ⟨X_tag h, _, a1, a2, a3, fun hn => ?_, fun q hq => ⟨a3, q, hq, ?_⟩⟩
  · rw [if_neg (gn hn)] at hQ
    exact X_fnd h (k := 1) (by omega) (by omega) hQ
  · obtain ⟨h16, -, ho⟩ := gs q hq
    rw [if_pos h16] at hQ
    refine X_wants ho ?_
    show Q _ σ
    rw [cut12_eq, ← ordV_eq]
    exact hQ _ h .rf
theorem X_mark (h : RX z σ A) (hU : WFu A) {x k : Int32} {Q : Int32 → Me → Prop} (hQ : ∀ σ', RX z σ' (sMark A x k).2 → frM z σ σ' → Q (sMark A x k).1 σ') : pX11_mark σ z x k Q := by
  unfold sMark at hQ
  refine ⟨X_tag h, X_isRule h hU (fun hx => ⟨fun q => absurd q (by decide), fun _ => ?_⟩) (fun hx => ⟨fun _ => by rw [if_neg (fun q => hx q.1)] at hQ; exact hQ _ h .rf, fun q => absurd rfl q⟩)⟩
  refine e_within (fun hw => ⟨fun q => absurd q (by decide), fun _ => ?_⟩) (fun hw => ⟨fun _ => by rw [if_neg (fun q => hw q.2)] at hQ; exact hQ _ h .rf, fun q => absurd rfl q⟩)
  rw [if_pos ⟨hx, hw⟩] at hQ
  obtain ⟨r, hr, ex, ei, hWr, a1, a2, a3, gn, gs⟩ := X_ruleIf h hU hx
  rw [ei] at hQ
  refine ⟨X_tag h, _, a1, a2, a3, fun hn => ?_, fun q hq => ?_⟩
  · rw [if_neg (gn hn)] at hQ
    exact X_fnd h (k := 1) (by omega) (by omega) hQ
  · obtain ⟨h16, -, ho⟩ := gs q hq
    rw [if_pos h16] at hQ
    unfold markV at hQ
    have ans : (A.1 10 r = k ∨ (k = 1 ∧ A.1 10 r = 2)) → ¬ k = 0 → Q (if k = 1 then A.1 12 r else if k = 2 then A.1 12 r - A.1 11 r else A.1 13 r) σ := fun hc h0 => by
      rw [if_neg h0, if_pos hc] at hQ
      exact hQ _ h .rf
    have no : ¬ (A.1 10 r = k ∨ (k = 1 ∧ A.1 10 r = 2)) → ¬ k = 0 → pX11_refuse σ z (nI 3) (fun r σ' => Q r σ') := fun hc h0 => by
      rw [if_neg h0, if_neg hc] at hQ
      exact X_fnd h (k := 3) (by omega) (by omega) hQ
    have tg : gT σ q = 0 ∨ gT σ q = 2 ∨ gT σ q = 3 ∨ gT σ q = 9 := by
      rcases ho with o | o | o | o
      · exact .inr (.inr (.inr o.2.1))
      · exact .inl o.2.1
      · exact .inr (.inr (.inl o.2.1))
      · exact .inr (.inl o.2.1)
    obtain ⟨j, hj, rfl⟩ := inr_ix (n := 3) hw (by omega)
    have hj4 : j = 0 ∨ j = 1 ∨ j = 2 ∨ j = 3 := by omega
    rcases hj4 with rfl | rfl | rfl | rfl
    · rw [if_pos (by decide)] at hQ
      exact ⟨fun _ => hQ _ h .rf, fun q => absurd (by decide) q⟩
    · refine ⟨fun q => absurd q (by decide), fun _ => ⟨fun _ => ⟨tg, fun e => ?_, fun e => ?_⟩, fun q => absurd (by decide) q⟩⟩
      · have hn : ¬ (A.1 10 r = nI 1 ∨ (nI 1 = 1 ∧ A.1 10 r = 2)) := by
          rcases ho with o | o | o | o
          · rw [o.1]; decide
          · rw [o.2.1] at e; exact absurd e (by decide)
          · rw [o.2.1] at e; exact absurd e (by decide)
          · rw [o.1]; decide
        exact ⟨fun q => absurd q (by decide), fun _ => ⟨fun q => absurd q (by decide), fun _ => no hn (by decide)⟩⟩
      · rcases ho with o | o | o | o
        · rw [o.2.1] at e; exact absurd (by decide) e
        · refine ⟨.inl o.2.1, ?_⟩
          have a := ans (.inl o.1) (by decide)
          rw [if_pos (by decide), ← o.2.2] at a
          exact a
        · refine ⟨.inr o.2.1, ?_⟩
          have a := ans (.inr ⟨by decide, o.1⟩) (by decide)
          rw [if_pos (by decide), ← o.2.2.1] at a
          exact a
        · rw [o.2.1] at e; exact absurd (by decide) e
    · refine ⟨fun q => absurd q (by decide), fun _ => ⟨fun q => absurd q (by decide), fun _ => ⟨fun _ => ⟨tg, fun e => ?_, fun e => ?_⟩, fun q => absurd (by decide) q⟩⟩⟩
      · have hn : ¬ (A.1 10 r = nI 2 ∨ (nI 2 = 1 ∧ A.1 10 r = 2)) := by
          rcases ho with o | o | o | o
          · rw [o.1]; decide
          · rw [o.1]; decide
          · rw [o.2.1] at e; exact absurd e (by decide)
          · rw [o.1]; decide
        exact ⟨fun q => absurd q (by decide), fun _ => no hn (by decide)⟩
      · rcases ho with o | o | o | o
        · rw [o.2.1] at e; exact absurd (by decide) e
        · rw [o.2.1] at e; exact absurd (by decide) e
        · refine ⟨o.2.1, ?_⟩
          have a := ans (.inl o.1) (by decide)
          rw [if_neg (by decide), if_pos (by decide), ← o.2.2.1, ← o.2.2.2] at a
          exact a
        · rw [o.2.1] at e; exact absurd (by decide) e
    · refine ⟨fun q => absurd q (by decide), fun _ => ⟨fun q => absurd q (by decide), fun _ => ⟨fun q => absurd q (by decide), fun _ => ⟨fun _ => ⟨tg, fun e => ?_, fun e => ?_⟩, fun q => absurd (by decide) q⟩⟩⟩⟩
      · have hn : ¬ (A.1 10 r = nI 3 ∨ (nI 3 = 1 ∧ A.1 10 r = 2)) := by
          rcases ho with o | o | o | o
          · rw [o.1]; decide
          · rw [o.1]; decide
          · rw [o.1]; decide
          · rw [o.2.1] at e; exact absurd e (by decide)
        exact no hn (by decide)
      · rcases ho with o | o | o | o
        · rw [o.2.1] at e; exact absurd (by decide) e
        · rw [o.2.1] at e; exact absurd (by decide) e
        · rw [o.2.1] at e; exact absurd (by decide) e
        · refine ⟨o.2.1, ?_⟩
          have a := ans (.inl o.1) (by decide)
          rw [if_neg (by decide), if_neg (by decide), ← o.2.2.2] at a
          exact a
end XT
