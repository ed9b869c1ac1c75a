theorem fb_rng' (x : Int32) : -2147483648 ≤ x.toInt ∧ x.toInt < 2147483648 := ⟨Int32.le_toInt x, Int32.toInt_lt x⟩
theorem toInt_l (x : Int32) : x.toInt64.toInt = x.toInt := by simp
theorem l64 (x y : Int32) : (x.toInt64 + y.toInt64).toInt = x.toInt + y.toInt := by
  have h1 := fb_rng' x
  have h2 := fb_rng' y
  rw [Int64.toInt_add, toInt_l, toInt_l]
  exact Int.bmod_eq_of_le (by omega) (by omega)
theorem ce_w : ∀ q ∈ ceX, ∀ t : Fin 4, (q.2.2.1 = 16 + 2 * t.val → q.1 = 5 ∧ q.2.1 = 7 * t.val + q.2.2.2 ∧ q.2.2.2 < 7) ∧ (q.2.2.1 ≠ 16 + 2 * t.val → q.1 = 5 → q.2.1 < 7 * t.val ∨ 7 * t.val + 7 ≤ q.2.1) := by decide +kernel
theorem aC_0 (A : Ab) (b i t j : Nat) : aC A b i t j 0 = A := by
  unfold aC
  refine Prod.ext (funext fun g => funext fun k => ?_) rfl
  show (if g = 5 ∧ 7 * t + j ≤ k ∧ k < 7 * t + j + 0 then _ else A.1 g k) = _
  rw [if_neg (by omega)]
theorem aC_succ (A : Ab) (b i t j m : Nat) : aS (aC A b i t j m) 5 (7 * t + j + m) (A.1 5 (7 * b + i + m)) = aC A b i t j (m + 1) := by
  unfold aC aS
  refine Prod.ext (funext fun g => funext fun k => ?_) rfl
  show (if g = 5 ∧ k = 7 * t + j + m then A.1 5 (7 * b + i + m) else if g = 5 ∧ 7 * t + j ≤ k ∧ k < 7 * t + j + m then A.1 5 (7 * b + i + (k - (7 * t + j))) else A.1 g k) = (if g = 5 ∧ 7 * t + j ≤ k ∧ k < 7 * t + j + (m + 1) then A.1 5 (7 * b + i + (k - (7 * t + j))) else A.1 g k)
  by_cases h2 : g = 5 ∧ k = 7 * t + j + m
  · rw [if_pos h2, if_pos (show g = 5 ∧ 7 * t + j ≤ k ∧ k < 7 * t + j + (m + 1) by omega), h2.2, show 7 * t + j + m - (7 * t + j) = m by omega]
  · rw [if_neg h2]
    by_cases h1 : g = 5 ∧ 7 * t + j ≤ k ∧ k < 7 * t + j + m
    · rw [if_pos h1, if_pos (show g = 5 ∧ 7 * t + j ≤ k ∧ k < 7 * t + j + (m + 1) by omega)]
    · rw [if_neg h1, if_neg (show ¬ (g = 5 ∧ 7 * t + j ≤ k ∧ k < 7 * t + j + (m + 1)) by omega)]
section XC
variable {z n : Nat} {σ : Me} {A : Ab}
theorem RX.weights (h : RX z σ A) {t : Nat} (ht : t < 4) {σ' : Me} {A' : Ab} (hz : gz σ' = gz σ) (hT : gT σ' = gT σ) (hN : gN σ' = gN σ) (hP : gP σ' = gP σ) (hL : gL σ' = gL σ) (hI : ∀ q j, q ≠ z + (16 + 2 * t) → gI σ' q j = gI σ q j) (hA : ∀ f j, f ≠ 5 → A'.1 f j = A.1 f j) (hA2 : A'.2 = A.2) (hA5 : ∀ j, (j < 7 * t ∨ 7 * t + 7 ≤ j) → A'.1 5 j = A.1 5 j) (hc : ∀ d, d < 7 → gI σ' (z + (16 + 2 * t)) d = A'.1 5 (7 * t + d)) : RX z σ' A' := by
  have hs : ∀ q, q ≠ z + (16 + 2 * t) → sameC σ σ' q := fun q hq => ⟨by rw [hT], by rw [hN], fun j => hI q j hq, fun j => by rw [hL], fun j => by rw [hP]⟩
  refine ⟨h.1.same (fun o _ => by rw [hT]) (fun o _ => by rw [hN]) (fun q _ => by rw [hP]) (by rw [hz]; exact Nat.le_refl _), fun q hq => ?_, ⟨by rw [hL, hA2]; exact h.2.2.1.1, by rw [hL, hA2]; exact h.2.2.1.2⟩, ?_, fun r hr => ?_, h.2.2.2.2.2.1.same (fun o h1 h2 => hs _ (by omega)), h.2.2.2.2.2.2.same (hs _ (by omega))⟩
  · have w := ce_w q hq ⟨t, ht⟩
    by_cases e : q.2.2.1 = 16 + 2 * t
    · obtain ⟨w1, w2, w3⟩ := w.1 e
      rw [e, w1, w2]
      exact hc _ w3
    · rw [hI _ _ (by omega), h.2.1 q hq]
      by_cases e5 : q.1 = 5
      · rw [e5]
        exact (hA5 _ (w.2 e e5)).symm
      · exact (hA _ _ e5).symm
  · unfold prX
    rw [hI z 9 (by omega), hI z 10 (by omega), hI z 11 (by omega), hA 48 0 (by decide), hA 49 0 (by decide)]
    exact h.2.2.2.1
  · rw [hA 9 0 (by decide), hA 16 r (by decide), hP]
    refine ⟨fun hc => ?_, (h.2.2.2.2.1 r hr).2⟩
    obtain ⟨y, a1, a2, a3⟩ := (h.2.2.2.2.1 r hr).1 hc
    refine ⟨y, a1, ⟨a2.1, by rw [hz]; exact a2.2⟩, ?_⟩
    have a4 := a3.same (σ' := σ') a2 (fun x hx _ => hs x (by omega)) (by rw [hz]; exact Nat.le_refl _)
    unfold ruO at a4 ⊢
    simp only [hA 10 _ (by decide), hA 11 _ (by decide), hA 12 _ (by decide), hA 13 _ (by decide), hA 14 _ (by decide), hA 15 _ (by decide)]
    exact a4
theorem e_stretch {i m : Int32} {Q : Int32 → Me → Prop} (ht : str i m → Q 1 σ) (hf : ¬ str i m → Q 0 σ) : pX11_isStretch σ i m Q := by
  have e0 : (0 : Int32).toInt = 0 := by decide
  have e7 : (7 : Int32).toInt = 7 := by decide
  refine e_within (fun hm => ⟨fun q => absurd q (by decide), fun _ => ?_⟩) (fun hm => ⟨fun _ => hf (fun q => hm ⟨?_, ?_⟩), fun q => absurd rfl q⟩)
  · have m1 := Int32.le_iff_toInt_le.mp hm.1
    have m2 := Int32.le_iff_toInt_le.mp hm.2
    have e1 : ((7 : Int32) - m).toInt = 7 - m.toInt := by
      rw [Int32.toInt_sub, e7]
      exact Int.bmod_eq_of_le (by omega) (by omega)
    refine e_within (fun hi => ?_) (fun hi => ?_)
    · rintro _ rfl
      rw [if_neg (by decide)]
      have i1 := Int32.le_iff_toInt_le.mp hi.1
      have i2 := Int32.le_iff_toInt_le.mp hi.2
      exact ⟨Or.inr rfl, ht ⟨by omega, by omega, by omega⟩⟩
    · rintro _ rfl
      rw [if_pos rfl]
      exact ⟨Or.inl rfl, hf (fun q => hi ⟨Int32.le_iff_toInt_le.mpr (by omega), Int32.le_iff_toInt_le.mpr (by omega)⟩)⟩
  · exact Int32.le_iff_toInt_le.mpr (by omega)
  · exact Int32.le_iff_toInt_le.mpr (by omega)
theorem str_nat {i m : Int32} (h : str i m) : ∃ a c : Nat, i = nI a ∧ m = nI c ∧ a + c ≤ 7 := by
  have e0 : (0 : Int32).toInt = 0 := by decide
  obtain ⟨a, ha, rfl⟩ := nI_of (x := i) (fun q => by have := Int32.lt_iff_toInt_lt.mp q; omega)
  obtain ⟨c, hc, rfl⟩ := nI_of (x := m) (fun q => by have := Int32.lt_iff_toInt_lt.mp q; omega)
  have h3 := h.2.2
  rw [nI_toInt ha, nI_toInt hc] at h3
  exact ⟨a, c, rfl, rfl, by omega⟩
theorem X_copy (h : RX z σ A) {b i t j m : Int32} {Q : Int32 → Me → Prop} (hQ : ∀ σ', RX z σ' (sCopy A b i t j m).2 → frM z σ σ' → Q (sCopy A b i t j m).1 σ') : pX11_copy σ z b i t j m Q := by
  unfold sCopy at hQ
  refine e_isBook (fun hx => ⟨fun q => absurd q (by decide), fun _ => ?_⟩) (fun hx => ⟨fun _ => by rw [if_neg (fun q => hx q.1)] at hQ; exact hQ _ h .rf, fun q => absurd rfl q⟩)
  refine e_isBook (fun hy => ⟨fun q => absurd q (by decide), fun _ => ?_⟩) (fun hy => ⟨fun _ => by rw [if_neg (fun q => hy q.2)] at hQ; exact hQ _ h .rf, fun q => absurd rfl q⟩)
  rw [if_pos ⟨hx, hy⟩] at hQ
  obtain ⟨b, hb, rfl⟩ := i3 hx
  obtain ⟨t, ht, rfl⟩ := i3 hy
  have B := X_books h
  obtain ⟨b1, b2, b3, b4, b5, b6, b7⟩ := X_book1 h (show b < 4 by omega)
  obtain ⟨t1, t2, t3, t4, t5, t6, t7⟩ := X_book1 h (show t < 4 by omega)
  have hin : vp_in (nI b) (gN σ (z + 1)) := by rw [B.2.2]; exact vp_in_nI (by omega) (by omega)
  have hint : vp_in (nI t) (gN σ (z + 1)) := by rw [B.2.2]; exact vp_in_nI (by omega) (by omega)
  have rb : gP σ (z + 1) (nI b).toNatClampNeg = some (z + (15 + 2 * b)) := by rw [nI_clamp (by omega)]; exact b5
  have rt : gP σ (z + 1) (nI t).toNatClampNeg = some (z + (15 + 2 * t)) := by rw [nI_clamp (by omega)]; exact t5
  rw [ixn (show b < 2 ^ 31 by omega), ixn (show t < 2 ^ 31 by omega)] at hQ
  refine ⟨X_tag h, _, B.1, B.2.1, hin, _, rb, b1, fun h2 => ?_, fun h2 => ?_⟩
  · rw [b6] at h2
    rw [if_pos (Or.inl h2)] at hQ
    exact X_fnd h (k := 1) (by omega) (by omega) hQ
  · rw [b6] at h2
    refine ⟨hint, _, rt, t1, fun h3 => ?_, fun h3 => ?_⟩
    · rw [t6] at h3
      rw [if_pos (Or.inr h3)] at hQ
      exact X_fnd h (k := 1) (by omega) (by omega) hQ
    · rw [t6] at h3
      rw [if_neg (fun q => q.elim h2 h3)] at hQ
      refine e_stretch (fun hi => ⟨fun q => absurd q (by decide), fun _ => ?_⟩) (fun hi => ⟨fun _ => ⟨X_tag h, by rw [if_neg (fun q => hi q.1)] at hQ; exact X_fnd h (k := 2) (by omega) (by omega) hQ⟩, fun q => absurd rfl q⟩)
      refine e_stretch (fun hj => ⟨fun q => absurd q (by decide), fun _ => ?_⟩) (fun hj => ⟨fun _ => ⟨X_tag h, by rw [if_neg (fun q => hj q.2)] at hQ; exact X_fnd h (k := 2) (by omega) (by omega) hQ⟩, fun q => absurd rfl q⟩)
      rw [if_pos ⟨hi, hj⟩] at hQ
      obtain ⟨i, m, rfl, rfl, him⟩ := str_nat hi
      obtain ⟨j, m', rfl, em, hjm⟩ := str_nat hj
      have em' : m' = m := ((nI_eq (by omega) (by omega)).mp em).symm
      subst em'
      rw [ixn (show i < 2 ^ 31 by omega), ixn (show j < 2 ^ 31 by omega), ixn (show m' < 2 ^ 31 by omega)] at hQ
      refine ⟨X_tag h, _, B.1, B.2.1, hin, _, rb, b1, _, b2, hint, _, rt, t1, _, t2, b3, t3, nI_pos (by omega), nI_pos (by omega), nI_pos (by omega), ?_, ?_, ?_⟩
      · rw [nI_clamp (by omega), nI_clamp (by omega), b4]; omega
      · rw [nI_clamp (by omega), nI_clamp (by omega), t4]; omega
      · rintro _ rfl
        rw [nI_clamp (show i < 2 ^ 31 by omega), nI_clamp (show j < 2 ^ 31 by omega), nI_clamp (show m' < 2 ^ 31 by omega)]
        refine hQ _ (h.weights (t := t) (by omega) rfl rfl rfl rfl rfl (fun q k hq => ?_) (fun f k hf => ?_) rfl (fun k hk => ?_) (fun d hd => ?_)) (fun q q1 q2 => ⟨rfl, rfl, fun k => ?_, fun _ => rfl, fun _ => rfl⟩)
        · show (if q = z + (16 + 2 * t) ∧ _ then _ else _) = _
          rw [if_neg (fun x => hq x.1)]
          rfl
        · show (if f = 5 ∧ _ then _ else _) = _
          rw [if_neg (fun x => hf x.1)]
        · show (if 5 = 5 ∧ 7 * t + j ≤ k ∧ k < 7 * t + j + m' then _ else _) = _
          rw [if_neg (by omega)]
        · show (if z + (16 + 2 * t) = z + (16 + 2 * t) ∧ j ≤ d ∧ d < j + m' then gI σ (z + (16 + 2 * b)) (i + (d - j)) else gI σ (z + (16 + 2 * t)) d) = (if 5 = 5 ∧ 7 * t + j ≤ 7 * t + d ∧ 7 * t + d < 7 * t + j + m' then A.1 5 (7 * b + i + (7 * t + d - (7 * t + j))) else A.1 5 (7 * t + d))
          by_cases hd2 : j ≤ d ∧ d < j + m'
          · rw [if_pos ⟨rfl, hd2⟩, if_pos (by omega), b7 _ (by omega), show 7 * b + (i + (d - j)) = 7 * b + i + (7 * t + d - (7 * t + j)) by omega]
          · rw [if_neg (fun x => hd2 x.2), if_neg (by omega), t7 d hd]
        · show (if q = z + (16 + 2 * t) ∧ _ then _ else _) = _
          rw [if_neg (fun x => by omega)]
          rfl
theorem M_copy (h : RM (z + 36) n σ A) {b i t j m : Int32} {Q : Int32 → Me → Prop} (hQ : ∀ σ', RM (z + 36) n σ' (sCopy A b i t j m).2 → frX z σ σ' → Q (sCopy A b i t j m).1 σ') : pX12_copy σ (z + 36) b i t j m Q := by
  unfold sCopy at hQ
  refine e_isPlace (fun hx => ⟨fun q => absurd q (by decide), fun _ => ?_⟩) (fun hx => ⟨fun _ => by rw [if_neg (fun q => hx q.1)] at hQ; exact hQ _ h .rf, fun q => absurd rfl q⟩)
  refine e_isPlace (fun hy => ⟨fun q => absurd q (by decide), fun _ => ?_⟩) (fun hy => ⟨fun _ => by rw [if_neg (fun q => hy q.2)] at hQ; exact hQ _ h .rf, fun q => absurd rfl q⟩)
  rw [if_pos ⟨hx, hy⟩] at hQ
  obtain ⟨b, hb, rfl⟩ := i3 hx
  obtain ⟨t, ht, rfl⟩ := i3 hy
  have r := h.1.row (4, 2, 22, 4) (by decide)
  have hin : vp_in (nI b) (gN σ (z + 36 + 2)) := by rw [show gN σ (z + 36 + 2) = 4 from r.2.2]; exact vp_in_nI (by omega) (by omega)
  have hint : vp_in (nI t) (gN σ (z + 36 + 2)) := by rw [show gN σ (z + 36 + 2) = 4 from r.2.2]; exact vp_in_nI (by omega) (by omega)
  have eb : gI σ (z + 36 + 2) (nI b).toNatClampNeg = A.1 4 b := by rw [nI_clamp (by omega)]; exact h.ar (4, 2, 4) (by decide) (show b < 4 by omega)
  have et : gI σ (z + 36 + 2) (nI t).toNatClampNeg = A.1 4 t := by rw [nI_clamp (by omega)]; exact h.ar (4, 2, 4) (by decide) (show t < 4 by omega)
  rw [ixn (show b < 2 ^ 31 by omega), ixn (show t < 2 ^ 31 by omega)] at hQ
  have e0 : (0 : Int32).toInt = 0 := by decide
  have e7 : (7 : Int64).toInt = 7 := by decide
  refine ⟨h.1.1, _, r.1, r.2.1, hin, fun h2 => ?_, fun h2 => ?_⟩
  · have h2 : A.1 4 b = 0 := eb.symm.trans h2
    rw [if_pos (Or.inl h2)] at hQ
    exact M_fnd h (k := 1) (by omega) hQ
  · have h2 : ¬ A.1 4 b = 0 := fun q => h2 (eb.trans q)
    refine ⟨hint, fun h3 => ?_, fun h3 => ?_⟩
    · have h3 : A.1 4 t = 0 := et.symm.trans h3
      rw [if_pos (Or.inr h3)] at hQ
      exact M_fnd h (k := 1) (by omega) hQ
    · have h3 : ¬ A.1 4 t = 0 := fun q => h3 (et.trans q)
      rw [if_neg (fun q => q.elim h2 h3)] at hQ
      have bad : ¬ (str i m ∧ str j m) → pX12_meets σ (z + 36) (nI 2) (fun r σ' => Q r σ') := fun hb => by
        rw [if_neg hb] at hQ
        exact M_fnd h (k := 2) (by omega) hQ
      refine ⟨fun c1 => bad (fun q => ?_), fun c1 => ⟨fun c2 => bad (fun q => ?_), fun c2 => ⟨fun c3 => bad (fun q => ?_), fun c3 => ⟨fun c4 => bad (fun q => ?_), fun c4 => ⟨fun c5 => ?_, fun c5 => bad (fun q => ?_)⟩⟩⟩⟩⟩
      · have := Int32.lt_iff_toInt_lt.mp c1
        omega
      · have := Int32.lt_iff_toInt_lt.mp c2
        omega
      · have := Int32.lt_iff_toInt_lt.mp c3
        omega
      · have := Int64.lt_iff_toInt_lt.mp c4
        rw [l64, e7] at this
        omega
      · have d1 : ¬ i.toInt < 0 := fun q => c1 (Int32.lt_iff_toInt_lt.mpr (by omega))
        have d2 : ¬ j.toInt < 0 := fun q => c2 (Int32.lt_iff_toInt_lt.mpr (by omega))
        have d3 : ¬ m.toInt < 0 := fun q => c3 (Int32.lt_iff_toInt_lt.mpr (by omega))
        have d4 : ¬ 7 < i.toInt + m.toInt := fun q => c4 (Int64.lt_iff_toInt_lt.mpr (by rw [l64, e7]; exact q))
        have d5 := Int64.le_iff_toInt_le.mp c5
        rw [l64, e7] at d5
        have hi : str i m := ⟨by omega, by omega, by omega⟩
        have hj : str j m := ⟨by omega, by omega, by omega⟩
        rw [if_pos ⟨hi, hj⟩] at hQ
        obtain ⟨i, m, rfl, rfl, him⟩ := str_nat hi
        obtain ⟨j, m', rfl, em, hjm⟩ := str_nat hj
        have em' : m' = m := ((nI_eq (by omega) (by omega)).mp em).symm
        subst em'
        rw [ixn (show i < 2 ^ 31 by omega), ixn (show j < 2 ^ 31 by omega), ixn (show m' < 2 ^ 31 by omega)] at hQ
        refine ⟨fun k σ' w => ∃ a, a ≤ m' ∧ w = nI a ∧ k = m' - a ∧ RM (z + 36) n σ' A ∧ frX z σ σ' ∧ ∀ c, c < a → gI σ' (z + 36 + 4) c = A.1 5 (7 * b + i + c), ?_, m', 0, by omega, rfl, rfl, h, .rf, fun c hc => by omega⟩
        rintro k σ' w ⟨a, ha, rfl, rfl, h4, f4, g4⟩
        have r5 := h4.1.row (5, 3, 20, 28) (by decide)
        have r6 := h4.1.row (6, 4, 20, 7) (by decide)
        refine ⟨fun hc => ?_, fun hc => ?_⟩
        · have ea : m' ≤ a := (nI_leI (by omega) (by omega)).mp hc
          have : a = m' := by omega
          subst this
          refine ⟨fun k σ'' w => ∃ c, c ≤ a ∧ w = nI c ∧ k = a - c ∧ RM (z + 36) n σ'' (aC A b i t j c) ∧ frX z σ σ'' ∧ ∀ c, c < a → gI σ'' (z + 36 + 4) c = A.1 5 (7 * b + i + c), ?_, a, 0, by omega, rfl, rfl, by rw [aC_0]; exact h4, f4, g4⟩
          rintro k σ'' w ⟨c, hca, rfl, rfl, h5, f5, g5⟩
          have s5 := h5.1.row (5, 3, 20, 28) (by decide)
          have s6 := h5.1.row (6, 4, 20, 7) (by decide)
          refine ⟨fun hc => ?_, fun hc => ?_⟩
          · have ec : a ≤ c := (nI_leI (by omega) (by omega)).mp hc
            have : c = a := by omega
            subst this
            exact hQ _ h5 f5
          · have ec : ¬ a ≤ c := fun q => hc ((nI_leI (by omega) (by omega)).mpr q)
            rw [ix7, nI_add]
            refine ⟨h5.1.1, _, s5.1, _, s6.1, s6.2.1, by rw [s6.2.2]; exact vp_in_nI (by show c < 7; omega) (by show 7 < _; omega), s5.2.1, by rw [s5.2.2]; exact vp_in_nI (by show 7 * t + j + c < 28; omega) (by show 28 < _; omega), ?_⟩
            rintro _ rfl _ rfl
            refine ⟨a - (c + 1), by omega, c + 1, by omega, sc1 c, rfl, ?_, f5.tr (.sI (by omega) (by show z + 36 + 3 < _; omega)), fun d hd => by rw [gI_sI_ne (by show z + 36 + 4 ≠ z + 36 + 3; omega)]; exact g5 d hd⟩
            rw [nI_clamp (show c < 2 ^ 31 by omega), nI_clamp (by omega), show gI σ'' (z + 36 + 4) c = _ from g5 c (by omega), ← aC_succ]
            exact h5.setA (q := (5, 3, 28)) (by decide) (7 * t + j + c) _
        · have ea : ¬ m' ≤ a := fun q => hc ((nI_leI (by omega) (by omega)).mpr q)
          rw [ix7, nI_add]
          refine ⟨h4.1.1, _, r6.1, _, r5.1, r5.2.1, by rw [r5.2.2]; exact vp_in_nI (by show 7 * b + i + a < 28; omega) (by show 28 < _; omega), r6.2.1, by rw [r6.2.2]; exact vp_in_nI (by show a < 7; omega) (by show 7 < _; omega), ?_⟩
          rintro _ rfl _ rfl
          refine ⟨m' - (a + 1), by omega, a + 1, by omega, sc1 a, rfl, h4.scrA (o := 4) (by omega) _ _, f4.tr (.sI (by omega) (by show z + 36 + 4 < _; omega)), fun d hd => ?_⟩
          rw [nI_clamp (show a < 2 ^ 31 by omega), nI_clamp (by omega), h4.ar (5, 3, 28) (by decide) (show 7 * b + i + a < 28 by omega)]
          by_cases e : d = a
          · subst e
            exact gI_sI_eq
          · rw [gI_sI_nk e]
            exact g4 d (by omega)
      · have : ¬ (j.toInt64 + m.toInt64).toInt ≤ (7 : Int64).toInt := fun q => c5 (Int64.le_iff_toInt_le.mpr q)
        rw [l64, e7] at this
        omega
end XC
