section MT2
variable {z n : Nat} {σ : Me} {A : Ab}
theorem M_rule (h : RM (z + 36) n σ A) (hU : WFu A) {k a b : Int32} {Q : Int32 → Me → Prop} (hQ : ∀ σ', RM (z + 36) n σ' (sRule A k a b).2 → frX z σ σ' → Q (sRule A k a b).1 σ') : pX12_rule σ (z + 36) k a b Q := by
  unfold sRule at hQ
  obtain ⟨⟨R, hR, e9, -⟩, -⟩ := hU
  have g9 : gI σ (z + 36) 9 = A.1 9 0 := h.sc 9 (by decide)
  refine ⟨fun σ' v => σ' = σ ∧ ((v = 1 ∧ gdR k a b) ∨ (v = 0 ∧ ¬ gdR k a b)), ?_, ?_⟩
  · rintro _ v ⟨rfl, hv⟩
    refine ⟨fun h0 => ?_, fun h0 => ⟨h.1.1, ?_⟩⟩
    · rcases hv with ⟨q, -⟩ | ⟨-, q⟩
      · rw [q] at h0
        exact absurd h0 (by decide)
      · rw [if_neg q] at hQ
        exact hQ _ h .rf
    · rcases hv with ⟨-, q⟩ | ⟨q, -⟩
      · rw [if_pos q] at hQ
        rw [g9]
        refine ⟨fun h2 => by rw [if_pos h2] at hQ; exact hQ _ h .rf, fun h2 => ?_⟩
        rw [if_neg h2] at hQ
        have hR12 : R < 12 := by
          rcases Nat.lt_or_ge R 12 with q | q
          · exact q
          · exact absurd (by rw [e9, show R = 12 by omega]; decide) h2
        refine ⟨fun h3 => ?_, fun h3 => ⟨fun h4 => ?_, fun h4 => ?_⟩⟩
        · rw [if_pos h3] at hQ
          exact M_add h hR12 e9 hQ
        · rw [if_neg h3, if_pos h4] at hQ
          exact M_add h hR12 e9 hQ
        · rw [if_neg h3, if_neg h4] at hQ
          exact M_add h hR12 e9 hQ
      · exact absurd q h0
  · generalize hJ : (fun (σ' : Me) (v : Int32) => σ' = σ ∧ ((v = 1 ∧ gdR k a b) ∨ (v = 0 ∧ ¬ gdR k a b))) = J
    have J1 : gdR k a b → J σ 1 := fun q => by rw [← hJ]; exact ⟨rfl, Or.inl ⟨rfl, q⟩⟩
    have J0 : ¬ gdR k a b → J σ 0 := fun q => by rw [← hJ]; exact ⟨rfl, Or.inr ⟨rfl, q⟩⟩
    have blk3 : ¬ (k = 1 ∧ inr a 0 12) → ¬ (k = 2 ∧ inr b 0 12 ∧ inr a (-12) (b - 1)) → (k = 3 → pX12_in σ a (-12) 12 (fun r σ' => (r = 0 → J σ' 0) ∧ (¬ r = 0 → pX12_in σ' b 1 12 (fun r σ'' => ∀ v : Int32, v = (if r = 0 then (0 : Int32) else (1 : Int32)) → J σ'' v)))) ∧ (¬ k = 3 → J σ 0) := fun n1 n2 => by
      refine ⟨fun h3 => e_in (fun ha => ⟨fun q => absurd q (by decide), fun _ => e_in (fun hb => ?_) (fun hb => ?_)⟩) (fun ha => ⟨fun _ => J0 (fun q => q.elim n1 (fun q => q.elim n2 (fun q => ha q.2.1))), fun q => absurd rfl q⟩), fun h3 => J0 (fun q => q.elim n1 (fun q => q.elim n2 (fun q => h3 q.1)))⟩
      · rintro _ rfl
        rw [if_neg (by decide)]
        exact J1 (Or.inr (Or.inr ⟨h3, ha, hb⟩))
      · rintro _ rfl
        rw [if_pos rfl]
        exact J0 (fun q => q.elim n1 (fun q => q.elim n2 (fun q => hb q.2.2)))
    have blk2 : ¬ (k = 1 ∧ inr a 0 12) → (k = 2 → pX12_in σ b 0 12 (fun r σ' => (r = 0 → (k = 3 → pX12_in σ' a (-12) 12 (fun r σ' => (r = 0 → J σ' 0) ∧ (¬ r = 0 → pX12_in σ' b 1 12 (fun r σ'' => ∀ v : Int32, v = (if r = 0 then (0 : Int32) else (1 : Int32)) → J σ'' v)))) ∧ (¬ k = 3 → J σ' 0)) ∧ (¬ r = 0 → pX12_in σ' a (-12) (b - 1) (fun r σ' => (r = 0 → (k = 3 → pX12_in σ' a (-12) 12 (fun r σ' => (r = 0 → J σ' 0) ∧ (¬ r = 0 → pX12_in σ' b 1 12 (fun r σ'' => ∀ v : Int32, v = (if r = 0 then (0 : Int32) else (1 : Int32)) → J σ'' v)))) ∧ (¬ k = 3 → J σ' 0)) ∧ (¬ r = 0 → J σ' 1))))) ∧ (¬ k = 2 → (k = 3 → pX12_in σ a (-12) 12 (fun r σ' => (r = 0 → J σ' 0) ∧ (¬ r = 0 → pX12_in σ' b 1 12 (fun r σ'' => ∀ v : Int32, v = (if r = 0 then (0 : Int32) else (1 : Int32)) → J σ'' v)))) ∧ (¬ k = 3 → J σ 0)) := fun n1 => by
      refine ⟨fun h2 => e_in (fun hb => ⟨fun q => absurd q (by decide), fun _ => e_in (fun ha => ⟨fun q => absurd q (by decide), fun _ => J1 (Or.inr (Or.inl ⟨h2, hb, ha⟩))⟩) (fun ha => ⟨fun _ => blk3 n1 (fun q => ha q.2.2), fun q => absurd rfl q⟩)⟩) (fun hb => ⟨fun _ => blk3 n1 (fun q => hb q.2.1), fun q => absurd rfl q⟩), fun h2 => blk3 n1 (fun q => h2 q.1)⟩
    exact ⟨fun h1 => e_in (fun ha => ⟨fun q => absurd q (by decide), fun _ => J1 (Or.inl ⟨h1, ha⟩)⟩) (fun ha => ⟨fun _ => blk2 (fun q => ha q.2), fun q => absurd rfl q⟩), fun h1 => blk2 (fun q => h1 q.1)⟩
end MT2
section XR
variable {z : Nat} {σ : Me} {A : Ab}
theorem X_rulesA (h : RX z σ A) : gP σ z 3 = some (z + 8) ∧ gT σ (z + 8) = 25 ∧ gN σ (z + 8) = 12 := ⟨h.1.rf (0, 3, 8) (by decide), (h.1.tg (8, 25, 12) (by decide)).1, (h.1.tg (8, 25, 12) (by decide)).2⟩
theorem X_ever (h : RX z σ A) : gI σ z 4 = A.1 9 0 := h.ce (9, 0, 0, 4) (by decide)
theorem X_isRule (h : RX z σ A) (hU : WFu A) {x : Int32} {Q : Int32 → Me → Prop} (ht : isR A x → Q 1 σ) (hf : ¬ isR A x → Q 0 σ) : pX11_isRule σ z x Q := by
  obtain ⟨⟨R, hR, e9, -⟩, -⟩ := hU
  obtain ⟨a1, a2, a3⟩ := X_rulesA h
  refine ⟨X_tag h, _, a1, a2, ?_⟩
  have e : (if nI (gN σ (z + 8)) < gI σ z 4 then nI (gN σ (z + 8)) else gI σ z 4) = A.1 9 0 := by
    rw [a3, X_ever h, e9, if_neg (nI_nlt hR (by omega))]
  rw [e]
  exact e_within (fun hx => ⟨Or.inr rfl, ht hx⟩) (fun hx => ⟨Or.inl rfl, hf hx⟩)
/-- the rule's object, if it is there -/
theorem X_ruleAt (h : RX z σ A) {R : Nat} (hR : R ≤ 12) (e9 : A.1 9 0 = nI R) {r : Nat} (hr : r < R) : (A.1 16 r = 0 → ∃ q, gP σ (z + 8) (nI r).toNatClampNeg = some q ∧ (z + 59 ≤ q ∧ q < gz σ) ∧ ruO z σ q A r) ∧ (¬ A.1 16 r = 0 → gP σ (z + 8) (nI r).toNatClampNeg = none) ∧ vp_in (nI r) (gN σ (z + 8)) := by
  obtain ⟨a1, a2, a3⟩ := X_rulesA h
  have H := h.2.2.2.2.1 r (by omega)
  have ec : ix (A.1 9 0) = R := by rw [e9]; exact ixn (by omega)
  rw [nI_clamp (show r < 2 ^ 31 by omega)]
  exact ⟨fun q => H.1 ⟨by rw [ec]; exact hr, q⟩, fun q => H.2 (fun x => q x.2), by rw [a3]; exact vp_in_nI (by omega) (by omega)⟩
theorem X_drop (h : RX z σ A) (hU : WFu A) {x : Int32} {Q : Int32 → Me → Prop} (hQ : ∀ σ', RX z σ' (sDrop A x).2 → frM z σ σ' → Q (sDrop A x).1 σ') : pX11_drop σ z x Q := by
  unfold sDrop at hQ
  refine ⟨X_tag h, X_isRule h hU (fun hx => ⟨fun q => absurd q (by decide), fun _ => ?_⟩) (fun hx => ⟨fun _ => by rw [if_neg hx] at hQ; exact hQ _ h .rf, fun q => absurd rfl q⟩)⟩
  rw [if_pos hx] at hQ
  obtain ⟨⟨R, hR, e9, hr9⟩, -⟩ := hU
  obtain ⟨r, hr, rfl⟩ := isR_nat hR e9 hx
  obtain ⟨a1, a2, a3⟩ := X_rulesA h
  obtain ⟨g1, g2, g3⟩ := X_ruleAt h hR e9 hr
  rw [ixn (show r < 2 ^ 31 by omega)] at hQ
  refine ⟨X_tag h, _, a1, a2, g3, fun hn => ?_, fun q hq => ⟨g3, ?_⟩⟩
  · have h16 : ¬ A.1 16 r = 0 := fun e => by
      obtain ⟨q, hq, -⟩ := g1 e
      rw [hn] at hq
      cases hq
    rw [if_neg h16] at hQ
    exact X_fnd h (k := 1) (by omega) (by omega) hQ
  · rintro _ rfl
    have h16 : A.1 16 r = 0 := by
      by_cases e : A.1 16 r = 0
      · exact e
      · rw [g2 e] at hq
        cases hq
    rw [if_pos h16] at hQ
    rw [nI_clamp (show r < 2 ^ 31 by omega)]
    have hs : ∀ o, o ≠ 8 → sameC σ (sP σ (z + 8) r none) (z + o) := fun o ho => .sP (by omega)
    refine hQ _ ⟨?_, fun q hq => ?_, h.2.2.1, h.2.2.2.1, fun i hi => ?_, h.2.2.2.2.2.1.same (fun o h1 h2 => hs o (by omega)), h.2.2.2.2.2.2.same (hs 31 (by omega))⟩ (.sP (by omega))
    · have n8 : ∀ q ∈ rfX, q.1 ≠ 8 := by decide
      exact h.1.same (fun _ _ => rfl) (fun _ _ => rfl) (fun q hq => (hs q.1 (n8 q hq)).2.2.2.2 _) (Nat.le_refl _)
    · rw [aS_ne (ce_f q hq).2.2.2.2.2.2.1]
      exact h.2.1 q hq
    · show (_ ∧ (aS A 16 r 1).1 16 i = 0 → _) ∧ (¬ (_ ∧ (aS A 16 r 1).1 16 i = 0) → _)
      rw [aS_ne (show 9 ≠ 16 by decide)]
      have H := h.2.2.2.2.1 i hi
      by_cases e : i = r
      · subst e
        rw [aS_eq]
        exact ⟨fun q => absurd q.2 (by decide), fun _ => by show up2 _ _ _ _ _ _ = none; exact up2_eq⟩
      · rw [aS_nj e]
        have ep : gP (sP σ (z + 8) r none) (z + 8) i = gP σ (z + 8) i := up2_nk e
        rw [ep]
        refine ⟨fun hc => ?_, H.2⟩
        obtain ⟨y, b1, b2, b3⟩ := H.1 hc
        refine ⟨y, b1, b2, ?_⟩
        have b4 := b3.same (σ' := sP σ (z + 8) r none) b2 (fun x hx _ => .sP (by omega)) (Nat.le_refl _)
        unfold ruO at b4 ⊢
        simp only [aS_ne (A := A) (f := 16) (j := r) (v := 1) (show 10 ≠ 16 by decide), aS_ne (A := A) (f := 16) (j := r) (v := 1) (show 11 ≠ 16 by decide), aS_ne (A := A) (f := 16) (j := r) (v := 1) (show 12 ≠ 16 by decide), aS_ne (A := A) (f := 16) (j := r) (v := 1) (show 13 ≠ 16 by decide), aS_ne (A := A) (f := 16) (j := r) (v := 1) (show 14 ≠ 16 by decide), aS_ne (A := A) (f := 16) (j := r) (v := 1) (show 15 ≠ 16 by decide)]
        exact b4
end XR
