theorem RX.grow {z : Nat} {σ σ' : Me} {A : Ab} (h : RX z σ A) (hs : ∀ q, q < gz σ → sameC σ σ' q) (hz : gz σ ≤ gz σ') : RX z σ' A := by
  have hg := h.1.2.2
  have ho : ∀ o, o < 36 → sameC σ σ' (z + o) := fun o ho => hs _ (by omega)
  have hs0 : sameC σ σ' z := hs z (by omega)
  refine ⟨h.1.same (fun o q => (ho o q).1) (fun o q => (ho o q).2.1) (fun q hq => (ho q.1 (rf_b q hq).1).2.2.2.2 _) hz, fun q hq => ?_, ⟨by rw [hs0.2.2.2.1]; exact h.2.2.1.1, by rw [hs0.2.2.2.1]; exact h.2.2.1.2⟩, ?_, fun r hr => ⟨fun hc => ?_, fun hc => ?_⟩, h.2.2.2.2.2.1.same (fun o h1 h2 => ho o (by omega)), h.2.2.2.2.2.2.same (ho 31 (by omega))⟩
  · have b := ce_b q hq
    rw [(ho q.2.2.1 (by omega)).2.2.1]
    exact h.2.1 q hq
  · rcases h.2.2.2.1 with ⟨a1, a2⟩ | ⟨a1, a2, a3⟩
    · exact Or.inl ⟨by rw [hs0.2.2.1]; exact a1, a2⟩
    · exact Or.inr ⟨by rw [hs0.2.2.1]; exact a1, by rw [hs0.2.2.1]; exact a2, by rw [hs0.2.2.1]; exact a3⟩
  · obtain ⟨q, a1, a2, a3⟩ := (h.2.2.2.2.1 r hr).1 hc
    exact ⟨q, by rw [(ho 8 (by omega)).2.2.2.2]; exact a1, ⟨a2.1, by omega⟩, a3.same a2 (fun y _ hy => hs y hy) hz⟩
  · rw [(ho 8 (by omega)).2.2.2.2]
    exact (h.2.2.2.2.1 r hr).2 hc
theorem RX.to15 {z : Nat} {σ : Me} {A B : Ab} (h : RX z σ A) (h1 : ∀ f j, f ≠ 15 → B.1 f j = A.1 f j) (h2 : ∀ j, j < 25 * ix (A.1 9 0) → B.1 15 j = A.1 15 j) (h3 : B.2 = A.2) : RX z σ B := by
  refine ⟨h.1, fun q hq => by rw [h1 _ _ (ce_f q hq).2.2.2.2.2.1]; exact h.2.1 q hq, by rw [h3]; exact h.2.2.1, ?_, fun r hr => ?_, h.2.2.2.2.2⟩
  · unfold prX
    rw [h1 48 0 (by decide), h1 49 0 (by decide)]
    exact h.2.2.2.1
  · rw [h1 9 0 (by decide), h1 16 r (by decide)]
    refine ⟨fun hc => ?_, (h.2.2.2.2.1 r hr).2⟩
    obtain ⟨q, a1, a2, a3⟩ := (h.2.2.2.2.1 r hr).1 hc
    refine ⟨q, a1, a2, ?_⟩
    unfold ruO at a3 ⊢
    rw [h1 10 r (by decide), h1 11 r (by decide), h1 12 r (by decide), h1 13 r (by decide), h1 14 r (by decide)]
    rcases a3 with ⟨c1, c2, y, k, c3, c4, c5, c6, c7, c8, c9⟩ | c
    · exact .inl ⟨c1, c2, y, k, c3, c4, c5, c6, c7, c8, fun i hi => by rw [h2 _ (by omega)]; exact c9 i hi⟩
    · exact .inr c
theorem adR_ne {A : Ab} {k l t q s : Int32} {f j : Nat} (h : f ≠ 9 ∧ f ≠ 10 ∧ f ≠ 11 ∧ f ≠ 12 ∧ f ≠ 13 ∧ f ≠ 14 ∧ f ≠ 16) : (adR A k l t q s).1 f j = A.1 f j := by
  unfold adR
  rw [aS_ne h.1, aS_ne h.2.2.2.2.2.2, aS_ne h.2.2.2.2.2.1, aS_ne h.2.2.2.2.1, aS_ne h.2.2.2.1, aS_ne h.2.2.1, aS_ne h.2.1]
theorem adR_nj {A : Ab} {k l t q s : Int32} {f j : Nat} (h : f ≠ 9) (hj : j ≠ ix (A.1 9 0)) : (adR A k l t q s).1 f j = A.1 f j := by
  unfold adR
  rw [aS_ne h, aS_nj hj, aS_nj hj, aS_nj hj, aS_nj hj, aS_nj hj, aS_nj hj]
theorem adR_9 {A : Ab} {k l t q s : Int32} : (adR A k l t q s).1 9 0 = A.1 9 0 + 1 := aS_eq
theorem adR_10 {A : Ab} {k l t q s : Int32} : (adR A k l t q s).1 10 (ix (A.1 9 0)) = k := by
  unfold adR
  rw [aS_ne (by decide), aS_ne (by decide), aS_ne (by decide), aS_ne (by decide), aS_ne (by decide), aS_ne (by decide), aS_eq]
theorem adR_11 {A : Ab} {k l t q s : Int32} : (adR A k l t q s).1 11 (ix (A.1 9 0)) = l := by
  unfold adR
  rw [aS_ne (by decide), aS_ne (by decide), aS_ne (by decide), aS_ne (by decide), aS_ne (by decide), aS_eq]
theorem adR_12 {A : Ab} {k l t q s : Int32} : (adR A k l t q s).1 12 (ix (A.1 9 0)) = t := by
  unfold adR
  rw [aS_ne (by decide), aS_ne (by decide), aS_ne (by decide), aS_ne (by decide), aS_eq]
theorem adR_13 {A : Ab} {k l t q s : Int32} : (adR A k l t q s).1 13 (ix (A.1 9 0)) = q := by
  unfold adR
  rw [aS_ne (by decide), aS_ne (by decide), aS_ne (by decide), aS_eq]
theorem adR_14 {A : Ab} {k l t q s : Int32} : (adR A k l t q s).1 14 (ix (A.1 9 0)) = s := by
  unfold adR
  rw [aS_ne (by decide), aS_ne (by decide), aS_eq]
theorem adR_16 {A : Ab} {k l t q s : Int32} : (adR A k l t q s).1 16 (ix (A.1 9 0)) = 0 := by
  unfold adR
  rw [aS_ne (by decide), aS_eq]
theorem adR_ix {A : Ab} {k l t q s : Int32} {R : Nat} (hR : R < 12) (e9 : A.1 9 0 = nI R) : ix ((adR A k l t q s).1 9 0) = R + 1 := by
  rw [adR_9, e9, nI_1]
  exact ixn (by omega)
section XA
variable {z : Nat} {σ : Me} {A : Ab}
theorem X_keep (h : RX z σ A) {R : Nat} (hR : R < 12) (e9 : A.1 9 0 = nI R) {k l t p s : Int32} {y : Nat} (hy : z + 59 ≤ y ∧ y < gz σ) (ho : ruO z σ y (adR A k l t p s) R) {Q : Int32 → Me → Prop} (hQ : ∀ σ', RX z σ' (adR A k l t p s) → frM z σ σ' → Q (A.1 9 0) σ') : pX11_keep σ z y Q := by
  obtain ⟨a1, a2, a3⟩ := X_rulesA h
  have ec : ix (A.1 9 0) = R := by rw [e9]; exact ixn (by omega)
  refine ⟨X_tag h, ?_⟩
  rintro _ rfl
  rw [X_ever h]
  refine ⟨_, a1, a2, ?_⟩
  have hin : inr (A.1 9 0) 0 (nI (gN σ (z + 8)) - 1) := by
    rw [a3, e9, show nI 12 - 1 = nI 11 by decide]
    exact ⟨nI_le (a := 0) (by omega) (by omega), nI_le (by omega) (by omega)⟩
  refine e_within (fun _ => ⟨fun q => absurd q (by decide), fun _ => ⟨X_tag h, _, a1, a2, by rw [a3, e9]; exact vp_in_nI (by omega) (by omega), ?_, ?_⟩⟩) (fun q => absurd hin q)
  · rcases ho with o | o | o | o
    · exact .inr (.inr (.inr o.2.1))
    · exact .inl o.2.1
    · exact .inr (.inr (.inl o.2.1))
    · exact .inr (.inl o.2.1)
  · rintro _ rfl _ rfl
    rw [gI_sP, X_ever h, show (A.1 9 0).toNatClampNeg = R from ec]
    have hs : ∀ o, o ≠ 8 → o ≠ 0 → sameC σ (sI (sP σ (z + 8) R (some y)) z 4 (A.1 9 0 + 1)) (z + o) := fun o h1 h2 => .tr (.sP (by omega)) (.sI (by omega))
    have hsr : ∀ x, z + 59 ≤ x → x < gz σ → sameC σ (sI (sP σ (z + 8) R (some y)) z 4 (A.1 9 0 + 1)) x := fun x h1 h2 => .tr (.sP (by omega)) (.sI (by omega))
    refine hQ _ ⟨?_, fun q hq => ?_, h.2.2.1, ?_, fun i hi => ?_, h.2.2.2.2.2.1.same (fun o h1 h2 => hs o (by omega) (by omega)), h.2.2.2.2.2.2.same (hs 31 (by omega) (by omega))⟩ ((frM.sP (by omega)).tr (.sI (by omega)))
    · have n8 : ∀ q ∈ rfX, q.1 ≠ 8 := by decide
      refine h.1.same (fun _ _ => rfl) (fun _ _ => rfl) (fun q hq => ?_) (Nat.le_refl _)
      show up2 _ _ _ _ _ _ = _
      have := n8 q hq
      rw [up2_ne (by omega)]
      rfl
    · have f := ce_f q hq
      by_cases e : q.1 = 9
      · have e2 : q = (9, 0, 0, 4) := by
          have a9 : ∀ q ∈ ceX, q.1 = 9 → q = (9, 0, 0, 4) := by decide +kernel
          exact a9 q hq e
        subst e2
        show gI (sI _ z 4 _) z 4 = _
        rw [gI_sI_eq]
        exact adR_9.symm
      · rw [adR_ne ⟨e, f.1, f.2.1, f.2.2.1, f.2.2.2.1, f.2.2.2.2.1, f.2.2.2.2.2.2.1⟩]
        show up2 _ _ _ _ _ _ = _
        have ne : ¬ (z + q.2.2.1 = z ∧ q.2.2.2 = 4) := fun c => e (by
          have := (ce_inj q hq (9, 0, 0, 4) (by decide)).1 (Prod.ext (by show q.2.2.1 = 0; omega) c.2)
          rw [this])
        unfold up2
        rw [if_neg ne]
        exact h.2.1 q hq
    · unfold prX
      rw [gI_sI_nk (by decide), gI_sI_nk (by decide), gI_sI_nk (by decide), adR_ne (by decide), adR_ne (by decide)]
      exact h.2.2.2.1
    · rw [adR_ix hR e9]
      have ep : ∀ j, gP (sI (sP σ (z + 8) R (some y)) z 4 (A.1 9 0 + 1)) (z + 8) j = if j = R then some y else gP σ (z + 8) j := fun j => by
        show up2 _ _ _ _ _ _ = _
        unfold up2
        by_cases e : j = R
        · rw [if_pos ⟨rfl, e⟩, if_pos e]
        · rw [if_neg (fun c => e c.2), if_neg e]
          rfl
      rw [ep]
      by_cases e : i = R
      · subst e
        rw [if_pos rfl]
        have e16 : (adR A k l t p s).1 16 i = 0 := by
          have := adR_16 (A := A) (k := k) (l := l) (t := t) (q := p) (s := s)
          rw [ec] at this
          exact this
        refine ⟨fun _ => ⟨y, rfl, hy, ho.same hy hsr (Nat.le_refl _)⟩, fun q => absurd ⟨by omega, e16⟩ q⟩
      · rw [if_neg e, adR_nj (by decide) (by rw [ec]; exact e)]
        have H := h.2.2.2.2.1 i hi
        rw [ec] at H
        refine ⟨fun hc => ?_, fun hc => H.2 (fun q => hc ⟨by omega, q.2⟩)⟩
        obtain ⟨x, b1, b2, b3⟩ := H.1 ⟨by omega, hc.2⟩
        refine ⟨x, b1, b2, ?_⟩
        have b4 := b3.same b2 hsr (Nat.le_refl _)
        have ne : ∀ f, f ≠ 9 → (adR A k l t p s).1 f i = A.1 f i := fun f hf => adR_nj hf (by rw [ec]; exact e)
        unfold ruO at b4 ⊢
        rw [ne 10 (by decide), ne 11 (by decide), ne 12 (by decide), ne 13 (by decide), ne 14 (by decide)]
        rcases b4 with ⟨c1, c2, w, m, c3, c4, c5, c6, c7, c8, c9⟩ | c
        · exact .inl ⟨c1, c2, w, m, c3, c4, c5, c6, c7, c8, fun j hj => by rw [adR_ne (by decide)]; exact c9 j hj⟩
        · exact .inr c
theorem e_isRuleOf {k a b : Int32} {Q : Int32 → Me → Prop} (ht : gdR k a b → Q 1 σ) (hf : ¬ gdR k a b → Q 0 σ) : pX11_isRuleOf σ k a b Q := by
  refine ⟨fun h1 => ?_, fun h2 => ?_, fun h3 => ?_, fun h1 h2 h3 => hf (fun q => q.elim (fun q => h1 q.1) (fun q => q.elim (fun q => h2 q.1) (fun q => h3 q.1)))⟩
  · have n2 : ¬ k = 2 := by rw [h1]; decide
    have n3 : ¬ k = 3 := by rw [h1]; decide
    exact e_within (fun ha => ⟨.inr rfl, ht (.inl ⟨h1, ha⟩)⟩) (fun ha => ⟨.inl rfl, hf (fun q => q.elim (fun q => ha q.2) (fun q => q.elim (fun q => n2 q.1) (fun q => n3 q.1)))⟩)
  · have n1 : ¬ k = 1 := by rw [h2]; decide
    have n3 : ¬ k = 3 := by rw [h2]; decide
    refine e_within (fun hb => ⟨fun q => absurd q (by decide), fun _ => e_within (fun ha => ?_) (fun ha => ?_)⟩) (fun hb => ⟨fun _ => hf (fun q => q.elim (fun q => n1 q.1) (fun q => q.elim (fun q => hb q.2.1) (fun q => n3 q.1))), fun q => absurd rfl q⟩)
    · rintro _ rfl
      rw [if_neg (by decide)]
      exact ⟨.inr rfl, ht (.inr (.inl ⟨h2, hb, ha⟩))⟩
    · rintro _ rfl
      rw [if_pos rfl]
      exact ⟨.inl rfl, hf (fun q => q.elim (fun q => n1 q.1) (fun q => q.elim (fun q => ha q.2.2) (fun q => n3 q.1)))⟩
  · have n1 : ¬ k = 1 := by rw [h3]; decide
    have n2 : ¬ k = 2 := by rw [h3]; decide
    refine e_within (fun ha => ⟨fun q => absurd q (by decide), fun _ => e_within (fun hb => ?_) (fun hb => ?_)⟩) (fun ha => ⟨fun _ => hf (fun q => q.elim (fun q => n1 q.1) (fun q => q.elim (fun q => n2 q.1) (fun q => ha q.2.1))), fun q => absurd rfl q⟩)
    · rintro _ rfl
      rw [if_neg (by decide)]
      exact ⟨.inr rfl, ht (.inr (.inr ⟨h3, ha, hb⟩))⟩
    · rintro _ rfl
      rw [if_pos rfl]
      exact ⟨.inl rfl, hf (fun q => q.elim (fun q => n1 q.1) (fun q => q.elim (fun q => n2 q.1) (fun q => hb q.2.2)))⟩
theorem ever_lt {R : Nat} (hR : R ≤ 12) (e9 : A.1 9 0 = nI R) : A.1 9 0 < 12 ↔ ¬ A.1 9 0 = 12 := by
  rw [e9, show (12 : Int32) = nI 12 by decide]
  rw [nI_ltI (by omega) (by omega), nI_eq (by omega) (by omega)]
  omega
theorem X_rule (h : RX z σ A) (hU : WFu A) {k a b : Int32} {Q : Int32 → Me → Prop} (hQ : ∀ σ', RX z σ' (sRule A k a b).2 → frM z σ σ' → Q (sRule A k a b).1 σ') : pX11_rule σ z k a b Q := by
  unfold sRule at hQ
  obtain ⟨⟨R, hR, e9, -⟩, -⟩ := hU
  refine e_isRuleOf (fun hg => ⟨fun q => absurd q (by decide), fun _ => ⟨X_tag h, ?_⟩⟩) (fun hg => ⟨fun _ => by rw [if_neg hg] at hQ; exact hQ _ h .rf, fun q => absurd rfl q⟩)
  rw [if_pos hg] at hQ
  rw [X_ever h]
  refine ⟨fun hl => ?_, fun hl => ?_⟩
  · have n12 := (ever_lt hR e9).mp hl
    rw [if_neg n12] at hQ
    have hR12 : R < 12 := by
      rcases Nat.lt_or_ge R 12 with q | q
      · exact q
      · exact absurd (by rw [e9, show R = 12 by omega]; decide) n12
    have ec : ix (A.1 9 0) = R := by rw [e9]; exact ixn (by omega)
    have hgz := h.1.2.2
    have m1 : ∀ t, ∀ q, q < gz σ → sameC σ (nw σ t 0) q := fun t q hq => .nw (by omega)
    have fr : ∀ {σ' : Me}, (∀ q, q < gz σ → sameC σ σ' q) → frM z σ σ' := fun hs q h1 h2 => hs q (by omega)
    refine ⟨fun h1 => ?_, fun h1 => ⟨fun h2 => ?_, fun h2 => ?_⟩⟩
    · rw [if_pos h1] at hQ
      rintro _ _ rfl rfl
      refine ⟨gT_nw_self _ _ _, ?_⟩
      rintro _ rfl
      have hs : ∀ q, q < gz σ → sameC σ (sI (nw σ 0 0) (gz σ) 0 a) q := fun q hq => .tr (m1 0 q hq) (.sI (by omega))
      have h3 := h.grow hs (by rw [gz_sI, gz_nw]; omega)
      refine ⟨X_tag h3, X_keep h3 hR12 e9 ⟨hgz, by rw [gz_sI, gz_nw]; omega⟩ (.inr (.inl ⟨?_, gT_nw_self σ 0 0, ?_⟩)) (fun σ' h4 f4 => hQ σ' h4 ((fr hs).tr f4))⟩
      · rw [← ec, adR_10]
      · rw [gI_sI_eq, ← ec, adR_12]
    · rw [if_neg h1, if_pos h2] at hQ
      rintro _ _ rfl rfl
      refine ⟨gT_nw_self _ _ _, ?_⟩
      rintro _ rfl
      refine ⟨gT_nw_self σ 3 0, ?_⟩
      rintro _ rfl
      have hs : ∀ q, q < gz σ → sameC σ (sI (sI (nw σ 3 0) (gz σ) 0 b) (gz σ) 1 a) q := fun q hq => .tr (.tr (m1 3 q hq) (.sI (by omega))) (.sI (by omega))
      have h3 := h.grow hs (by rw [gz_sI, gz_sI, gz_nw]; omega)
      refine ⟨X_tag h3, X_keep h3 hR12 e9 ⟨hgz, by rw [gz_sI, gz_sI, gz_nw]; omega⟩ (.inr (.inr (.inl ⟨?_, gT_nw_self σ 3 0, ?_, ?_⟩))) (fun σ' h4 f4 => hQ σ' h4 ((fr hs).tr f4))⟩
      · rw [← ec, adR_10]
      · rw [gI_sI_nk (by decide), gI_sI_eq, ← ec, adR_12]
      · rw [gI_sI_eq, ← ec, adR_11]
    · rw [if_neg h1, if_neg h2] at hQ
      rintro _ _ rfl rfl
      refine ⟨gT_nw_self _ _ _, ?_⟩
      rintro _ rfl _ rfl
      have hs : ∀ q, q < gz σ → sameC σ (sI (sI (nw σ 2 0) (gz σ) 0 a) (gz σ) 1 b) q := fun q hq => .tr (.tr (m1 2 q hq) (.sI (by omega))) (.sI (by omega))
      have h3 := h.grow hs (by rw [gz_sI, gz_sI, gz_nw]; omega)
      refine ⟨X_tag h3, X_keep h3 hR12 e9 ⟨hgz, by rw [gz_sI, gz_sI, gz_nw]; omega⟩ (.inr (.inr (.inr ⟨?_, gT_nw_self σ 2 0, ?_, ?_⟩))) (fun σ' h4 f4 => hQ σ' h4 ((fr hs).tr f4))⟩
      · rw [← ec, adR_10]
      · rw [gI_sI_nk (by decide), gI_sI_eq, ← ec, adR_11]
      · rw [gI_sI_eq, ← ec, adR_13]
  · have e12 : A.1 9 0 = 12 := by
      by_cases q : A.1 9 0 = 12
      · exact q
      · exact absurd ((ever_lt hR e9).mpr q) hl
    rw [if_pos e12] at hQ
    exact hQ _ h .rf
end XA
