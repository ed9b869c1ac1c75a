theorem gI_cp (σ : Me) (a0 sp a dp n b j : Nat) : gI (cp σ a0 sp a dp n) b j = if b = a ∧ dp ≤ j ∧ j < dp + n then gI σ a0 (sp + (j - dp)) else gI σ b j := rfl
theorem sameC.cp {σ : Me} {a0 sp a dp n q : Nat} (h : q ≠ a) : sameC σ (cp σ a0 sp a dp n) q := ⟨rfl, rfl, fun j => by rw [gI_cp, if_neg (fun c => h c.1)], fun _ => rfl, fun _ => rfl⟩
theorem fits_b {v : Int32} (h : v.toInt8.toInt32 = v) : fits .byte (.int v) = true := by
  have r1 := Int8.le_toInt v.toInt8
  have r2 := Int8.toInt_lt v.toInt8
  have e : v.toInt = v.toInt8.toInt := by
    have := congrArg Int32.toInt h
    rw [Int8.toInt_toInt32] at this
    exact this.symm
  show (decide (-128 ≤ v) && decide (v ≤ 127)) = true
  rw [Bool.and_eq_true, decide_eq_true_eq, decide_eq_true_eq]
  refine ⟨Int32.le_iff_toInt_le.mpr ?_, Int32.le_iff_toInt_le.mpr ?_⟩
  · rw [show (-128 : Int32).toInt = -128 by decide]
    omega
  · rw [show (127 : Int32).toInt = 127 by decide]
    omega
section XB
variable {z : Nat} {σ : Me} {A : Ab}
theorem X_table (h : RX z σ A) (hU : WFu A) (hW : WF A) {x : Int32} {Q : Int32 → Me → Prop} (hQ : ∀ σ', RX z σ' (sTable A x).2 → frM z σ σ' → Q (sTable A x).1 σ') : pX11_table σ z x Q := by
  unfold sTable at hQ
  obtain ⟨⟨R, hR, e9, -⟩, -⟩ := hU
  refine e_isSheet (fun hx => ⟨fun q => absurd q (by decide), fun _ => ⟨X_tag h, ?_⟩⟩) (fun hx => ⟨fun _ => by rw [if_neg hx] at hQ; exact hQ _ h .rf, fun q => absurd rfl q⟩)
  rw [if_pos hx] at hQ
  obtain ⟨b, hb, rfl⟩ := i3 hx
  rw [ixn (show b < 2 ^ 31 by omega)] at hQ
  have t7 := h.1.tg (7, 20, 4) (by decide)
  have e7 : gI σ (z + 7) b = A.1 7 b := h.ce (7, b, 7, b) (ce7 b (by omega))
  have hin : vp_in (nI b) 4 := vp_in_nI (by omega) (by omega)
  have cb : (nI b).toNatClampNeg = b := nI_clamp (by omega)
  rw [X_ever h]
  refine ⟨fun hl => ⟨_, h.1.rf (0, 2, 7) (by decide), t7.1, by rw [t7.2]; exact hin, ?_⟩, fun hl => ?_⟩
  · have n12 := (ever_lt hR e9).mp hl
    rw [if_neg n12] at hQ
    have hR12 : R < 12 := by
      rcases Nat.lt_or_ge R 12 with q | q
      · exact q
      · exact absurd (by rw [e9, show R = 12 by omega]; decide) n12
    rw [cb, e7]
    refine ⟨fun h3 => ?_, fun h3 => by rw [if_neg h3] at hQ; exact X_fnd h (k := 1) (by omega) (by omega) hQ⟩
    rw [if_pos h3] at hQ
    obtain ⟨k, hk, ek⟩ : ∃ k, k ≤ 25 ∧ A.1 7 b = nI k := by
      rcases hW.2.2.1 b (by omega) with q | q
      · rw [q] at h3; exact absurd h3 (by decide)
      · exact q
    have hgz := h.1.2.2
    have h0 : RX z σ (tbl A b 25) := h.to15 (fun f j hf => tbl_ne hf) (fun j hj => by
      unfold tbl
      show (if _ then _ else _) = _
      rw [if_neg (by omega)]) rfl
    have t9 : (tbl A b 25).1 9 0 = A.1 9 0 := tbl_ne (by decide)
    have ec : ix ((tbl A b 25).1 9 0) = R := by rw [t9, e9]; exact ixn (by omega)
    have hs1 : ∀ q, q < gz σ → sameC σ (nw σ 9 0) q := fun q hq => .nw (by omega)
    rintro _ _ rfl rfl
    have h1 := h.grow hs1 (by rw [gz_nw]; omega)
    have t2 := h1.1.tg (2, 26, 4) (by decide)
    have t7' := h1.1.tg (7, 20, 4) (by decide)
    have e7' : gI (nw σ 9 0) (z + 7) b = A.1 7 b := h1.ce (7, b, 7, b) (ce7 b (by omega))
    have tb := h1.1.tg (3 + b, 23, 25) (tg3 b (by omega))
    refine ⟨X_tag h1, _, h1.1.rf (0, 1, 2) (by decide), t2.1, by rw [t2.2]; exact hin, z + (3 + b), h1.1.rf (2, b, 3 + b) (rf2 b (by omega)), _, h1.1.rf (0, 2, 7) (by decide), t7'.1, by rw [t7'.2]; exact hin, ?_⟩
    rw [show gI (nw σ 9 0) (z + (0, 2, 7).2.2) b = A.1 7 b from e7', ek]
    refine ⟨tb.1, ?_⟩
    have em : (if (0 : Int32) < (if nI (gN (nw σ 9 0) (z + (3 + b))) < nI k then nI (gN (nw σ 9 0) (z + (3 + b))) else nI k) then (if nI (gN (nw σ 9 0) (z + (3 + b))) < nI k then nI (gN (nw σ 9 0) (z + (3 + b))) else nI k) else (0 : Int32)) = nI k := by
      rw [show gN (nw σ 9 0) (z + (3 + b)) = 25 from tb.2, if_neg (nI_nlt hk (by omega))]
      by_cases q : (0 : Int32) < nI k
      · rw [if_pos q]
      · rw [if_neg q]
        have : k = 0 := by
          rcases Nat.eq_zero_or_pos k with c | c
          · exact c
          · exact absurd (nI_lt (a := 0) c (by omega)) q
        rw [this]
        rfl
    rintro _ rfl
    rw [em]
    have ck : (nI k).toNatClampNeg = k := nI_clamp (by omega)
    have k0 : ¬ nI k < 0 := fun q => absurd q (nI_nlt (b := 0) (a := k) (by omega) (by omega))
    refine ⟨k0, by rw [ck]; exact hk, ?_⟩
    rintro _ _ rfl rfl
    rw [ck]
    have gz1 : gz (nw σ 9 0) = gz σ + 1 := gz_nw _ _ _
    refine ⟨(gT_nw (by rw [gz1]; omega)).trans (gT_nw_self σ 9 0), ?_⟩
    rintro _ rfl
    refine ⟨gz (nw σ 9 0), up2_eq, ?_⟩
    have s2 : ∀ q, q < gz σ → sameC σ (sP (nw (nw σ 9 0) 23 k) (gz σ) 0 (some (gz (nw σ 9 0)))) q := fun q hq => .tr (.tr (hs1 q hq) (.nw (by rw [gz1]; omega))) (.sP (by omega))
    have h2 := h.grow s2 (by rw [gz_sP, gz_nw, gz_nw]; omega)
    have tb2 := h2.1.tg (3 + b, 23, 25) (tg3 b (by omega))
    have tn : gT (sP (nw (nw σ 9 0) 23 k) (gz σ) 0 (some (gz (nw σ 9 0)))) (gz (nw σ 9 0)) = 23 := gT_nw_self (nw σ 9 0) 23 k
    have nn : gN (sP (nw (nw σ 9 0) 23 k) (gz σ) 0 (some (gz (nw σ 9 0)))) (gz (nw σ 9 0)) = k := gN_nw_self (nw σ 9 0) 23 k
    have z0 : ((0 : Int32)).toNatClampNeg = 0 := by decide
    have eb : ∀ i, i < 25 → gI (sP (nw (nw σ 9 0) 23 k) (gz σ) 0 (some (gz (nw σ 9 0)))) (z + (3 + b)) i = A.1 8 (25 * b + i) := fun i hi => h2.ce (8, 25 * b + i, 3 + b, i) (ce8 b (by omega) i hi)
    refine ⟨tb2.1, tn, by decide, by decide, k0, by rw [z0, show gN _ (z + (3 + b)) = 25 from tb2.2]; omega, by rw [z0, nn]; omega, fun i hi => ?_, ?_⟩
    · rw [z0, Nat.zero_add, eb i (by omega)]
      exact fits_b (hW.2.2.2.1 _ (by omega))
    · rintro _ rfl
      rw [z0]
      generalize hσ : sP (nw (nw σ 9 0) 23 k) (gz σ) 0 (some (gz (nw σ 9 0))) = τ at *
      have gzt : gz τ = gz σ + 2 := by rw [← hσ]; rfl
      have s3 : ∀ q, q < gz σ → sameC σ (cp τ (z + (3 + b)) 0 (gz (nw σ 9 0)) 0 k) q := fun q hq => .tr (s2 q hq) (.cp (by rw [gz1]; omega))
      have h4 := h0.grow s3 (by show _ ≤ gz τ; omega)
      have tq : gT τ (gz σ) = 9 := by
        rw [← hσ]
        have q1 : gT (nw (nw σ 9 0) 23 k) (gz σ) = gT (nw σ 9 0) (gz σ) := gT_nw (by rw [gz1]; omega)
        exact q1.trans (gT_nw_self σ 9 0)
      have pq : gP τ (gz σ) 0 = some (gz (nw σ 9 0)) := by rw [← hσ]; exact up2_eq
      refine ⟨X_tag h4, X_keep (k := 0) (l := -9) (t := -9) (p := -9) (s := A.1 7 b) h4 hR12 (t9.trans e9) ⟨hgz, by show _ < gz τ; omega⟩ (.inl ⟨?_, tq, gz (nw σ 9 0), k, pq, ⟨by rw [gz1]; omega, by show _ < gz τ; rw [gz1]; omega⟩, tn, nn, hk, ?_, fun i hi => ?_⟩) (fun σ' h5 f5 => ?_)⟩
      case refine_4 =>
        rw [t9]
        exact hQ σ' h5 (frM.tr (fun q a1 a2 => s3 q (by omega)) f5)
      · rw [← ec, adR_10]
      · rw [← ec, adR_14]
        exact ek
      · rw [gI_cp, if_pos ⟨rfl, by omega, by omega⟩, Nat.zero_add, Nat.sub_zero, eb i (by omega), adR_ne (by decide)]
        unfold tbl
        show _ = (if _ then _ else _)
        have e2 : ix (A.1 9 0) = R := by rw [← t9]; exact ec
        rw [e2, if_pos ⟨rfl, by omega, by omega⟩, Nat.add_sub_cancel_left]
  · have e12 : A.1 9 0 = 12 := by
      by_cases q : A.1 9 0 = 12
      · exact q
      · exact absurd ((ever_lt hR e9).mpr q) hl
    rw [if_pos e12] at hQ
    exact hQ _ h .rf
end XB
