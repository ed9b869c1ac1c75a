theorem lst_v {f pl : Nat → Nat} {k : Nat} (h : lstd f 481 k pl) {ν : Nat → Nat} (h0 : ES f k pl ν = 0) : ∀ i, i < k → ν (pl i) = 0 := fun i hi => by
  have h1 := sumN_ge (fun i => f (pl i) * ν (pl i)) k i hi
  have h2 : f (pl i) * ν (pl i) ≤ ES f k pl ν := h1
  have h3 : f (pl i) * ν (pl i) = 0 := by omega
  rcases Nat.mul_eq_zero.mp h3 with e | e
  · exact absurd e (h.1 i hi).2
  · exact e
theorem ES_0 {f pl ν : Nat → Nat} : ∀ k, (∀ i, i < k → ν (pl i) = 0) → ES f k pl ν = 0 := fun k h => by
  unfold ES
  rw [sumN_cg (g := fun _ => 0) k (fun i hi => by rw [h i hi, Nat.mul_zero]), sumN_zero]
def bad (ag s p : Nat) : Nat := if p % 13 + p / 13 ≤ s ∧ (ag ≤ 1 → p % 13 = 0) ∧ (ag ≤ 2 → p / 13 = 0) then 0 else 1
theorem bad_0 {ag s p : Nat} : bad ag s p = 0 ↔ VX ag s p := by
  unfold bad VX
  by_cases c : p % 13 + p / 13 ≤ s ∧ (ag ≤ 1 → p % 13 = 0) ∧ (ag ≤ 2 → p / 13 = 0)
  · rw [if_pos c]
    exact ⟨fun _ => c, fun _ => rfl⟩
  · rw [if_neg c]
    exact ⟨fun e => by omega, fun e => absurd e c⟩
theorem PG_bad (A : Ab) (b : Nat) (nw : Int32) {ag s p : Nat} (hs : s ≤ 12) (h : VX ag s p) : PG A b nw ag s (bad ag s) p = 0 := by
  unfold PG
  rw [sumN_cg (g := fun _ => 0) 7 (fun d _ => by rw [bad_0.mpr (nG_v nw hs h d), Nat.mul_zero]), sumN_zero]
/-- after t days -/
def YT (z : Nat) (σ0 σ : Me) (A : Ab) (b : Nat) (nw : Int32) (ag s t : Nat) : Prop := ∃ ca cb cc cd f k pl ql, cfg ca cb cc cd ∧ YK z σ A nw ag s ∧ gL σ (z + 34) 5 = lN (vG A b nw ag s t) ∧ TDy z σ ca cc f k pl ∧ TMo z σ cb cd (fun _ => 0) 0 ql ∧ (∀ φ, ES f k pl φ = pw (PG A b nw ag s) t φ 0) ∧ (∀ i, i < k → VX ag s (pl i)) ∧ FrS z σ0 σ
section XT
variable {z : Nat} {σ : Me} {A : Ab}
set_option maxHeartbeats 1000000 in
theorem C_followS (hW : WF A) {b : Nat} (hb : b < 4) {nw : Int32} {ag s dd : Nat} (hs : s ≤ 12) (h1 : 1 ≤ ag) (h3 : ag ≤ 3) (hd : dd ≤ 6) {σ0 : Me} (h : YT z σ0 σ A b nw ag s 0) {Q : Int64 → Me → Prop} (hQ : ∀ σ', YT z σ0 σ' A b nw ag s dd → Q (lN (vG A b nw ag s dd)) σ') : pX7_follow σ (z + 34) (z + (15 + 2 * b)) (nI dd) Q := by
  have hWl := WN_le hW hb
  have eW : (sW A b 7).toInt64 = lN (WN A b) := by
    rw [sW_eq hW hb 7 (by omega)]
    exact nI_l (by unfold WN at hWl; omega)
  refine ⟨fun nn σ1 w => ∃ t, t ≤ dd ∧ w = nI (t + 1) ∧ nn = dd - t ∧ YT z σ0 σ1 A b nw ag s t, ?_, dd, 0, by omega, rfl, rfl, h⟩
  rintro nn σ1 w ⟨t, ht, rfl, rfl, hY⟩
  have hY0 := hY
  obtain ⟨ca, cb, cc, cd, f, k, pl, ql0, hc, g1, g2, g3, g4, g5, g6, g7⟩ := hY
  have cbd := hc.b
  have hkl := lst_le g3.2.2.2.2.2
  have hB : ES f k pl (fun _ => 1) * WN A b < 2 ^ 63 ∨ dd ≤ t := by
    rw [g5]
    by_cases c : dd ≤ t
    · exact Or.inr c
    · have a1 := pw_leG (PG_le hW hb nw ag hs) t (φ := fun _ => 1) (c := 1) (fun _ _ => Nat.le_refl _) 0 (by omega)
      have a2 : (63 : Nat) ^ t ≤ 63 ^ 5 := Nat.pow_le_pow_right (by omega) (by omega)
      have a3 : pw (PG A b nw ag s) t (fun _ => 1) 0 * WN A b ≤ 63 ^ 5 * 63 := Nat.mul_le_mul (by omega) hWl
      exact Or.inl (by omega)
  obtain ⟨t1, t2, t3, t4, t5, t6⟩ := Y_tag g1.1
  refine ⟨fun q => ⟨t1, ?_⟩, fun q => ⟨t1, (C_book1 g1.1 hb).1, C_all g1.1 hb ⟨t1, ?_⟩⟩⟩
  · have : dd < t + 1 := (nI_ltI (by omega) (by omega)).mp q
    have e : t = dd := by omega
    subst e
    rw [g2]
    exact hQ σ1 hY0
  · have hlt : ¬ dd < t + 1 := fun x => q ((nI_ltI (by omega) (by omega)).mpr x)
    rw [eW, g2, lN_mul]
    intro τ eτ
    have sτ : ∀ x, x ≠ z + 34 → sameC σ1 τ x := fun x hx => by rw [eτ]; exact .sL hx
    have yτ : YK z τ A nw ag s := by rw [eτ]; exact g1
    have lτ : gL τ (z + 34) 5 = lN (vG A b nw ag s t * WN A b) := by rw [eτ, gL_sL_eq]
    have fτ : FrS z σ1 τ := by rw [eτ]; exact FrS.sL (o := 34) (by unfold scr; omega) _
    have dτ := g3.same (by omega) (by omega) (fun x _ _ => sτ (z + x) (by omega))
    have mτ := g4.same (by omega) (by omega) (fun x _ _ => sτ (z + x) (by omega))
    refine ⟨fun nn σ2 w => ∃ j g n ql, j ≤ k ∧ w = nI j ∧ nn = k - j ∧ YK z σ2 A nw ag s ∧ gL σ2 (z + 34) 5 = lN (vG A b nw ag s t * WN A b + ES f j pl (spG A b nw ag s)) ∧ TDy z σ2 ca cc f k pl ∧ TMo z σ2 cb cd g n ql ∧ (∀ φ, ES g n ql φ = ES f j pl (PG A b nw ag s φ)) ∧ FrS z σ1 σ2, ?_, k, 0, (fun _ => 0), 0, ql0, by omega, rfl, rfl, yτ, lτ, dτ, mτ, fun φ => rfl, fτ⟩
    rintro nn σ2 w ⟨j, g, n, ql, hj, rfl, rfl, k1, k2, k3, k4, k5, k6⟩
    obtain ⟨u1, u2, u3, u4, u5, u6⟩ := Y_tag k1.1
    refine ⟨u1, z + 23, u2, u6, u6, ?_⟩
    rw [k3.2.2.1]
    refine ⟨fun q2 => ⟨u1, z + 23, u2, u6, ?_⟩, fun q2 => ⟨u1, z + 23, u2, u6, ?_⟩⟩
    · have ej : j = k := by
        have := (nI_leI (by omega) (by omega)).mp q2
        omega
      subst ej
      refine S_turn k1.1 hc k3.w k4 (fun σ3 x1 x2 x3 x4 x5 x6 => ?_)
      rintro _ rfl
      refine ⟨dd - (t + 1), by omega, t + 1, by omega, sc1 (t + 1), rfl, cb, ca, cd, cc, g, n, ql, ql, x1, k1.same x4 (fun j => (x6 _ (by omega)).2.2.1 j) (x6 _ (by omega)), ?_, x2, x3, fun φ => ?_, ?_, (g7.tr k6).tr (FrC.S (lo := 23) (hi := 27) ⟨x5, x6⟩ (fun q h1 h2 => by unfold scr; omega))⟩
      · rw [(x6 _ (by omega)).2.2.2.1, k2, g5 (spG A b nw ag s)]
        rfl
      · rw [k5 φ, g5]
        rfl
      · have e0 : ES g n ql (bad ag s) = 0 := by
          rw [k5]
          exact ES_0 _ (fun i hi => PG_bad A b nw hs (g6 i hi))
        exact fun i hi => bad_0.mp (lst_v x2.2.2.2.2.2 e0 i hi)
    · have hj2 : j < k := by
        have : ¬ k ≤ j := fun x => q2 ((nI_leI (by omega) (by omega)).mpr x)
        omega
      have hpl := (k3.2.2.2.2.2.1 j hj2).1
      refine S_placeAt k1.1 hc k3 hj2 ⟨u1, C_passS hW hb hs h1 h3 k1 k2 hc k3 k4 hpl (g6 j hj2) ?_ (fun σ3 g' n' ql' y1 y2 y3 y4 y5 y6 => ?_)⟩
      · rw [k5]
        rcases hB with hB | hB
        · have e1 : ES f j pl (PG A b nw ag s (fun _ => 1)) ≤ ES f j pl (fun _ => 1) * WN A b := ES_le j (fun i hi => by
            show PG A b nw ag s (fun _ => 1) (pl i) ≤ WN A b
            have := PGn_1 A b nw ag s (pl i) 7
            unfold PG
            unfold PGn at this
            rw [this]
            exact Nat.le_refl _)
          have e2 : ES f (j + 1) pl (fun _ => 1) ≤ ES f k pl (fun _ => 1) := sumN_pre _ k (j + 1) (by omega)
          have e3 : ES f (j + 1) pl (fun _ => 1) = ES f j pl (fun _ => 1) + f (pl j) * 1 := rfl
          have e4 : ES f (j + 1) pl (fun _ => 1) * WN A b ≤ ES f k pl (fun _ => 1) * WN A b := Nat.mul_le_mul_right _ e2
          rw [e3, Nat.add_mul, Nat.mul_one] at e4
          omega
        · omega
      · rintro _ rfl
        refine ⟨k - (j + 1), by omega, j + 1, g', n', ql', by omega, sc1 j, rfl, y1, ?_, y3, y4, fun φ => ?_, k6.tr y6⟩
        · rw [y2, Nat.add_assoc]
          rfl
        · rw [y5 φ, k5 φ]
          rfl
theorem C_beginS (h : RX z σ A) {b : Nat} {nw : Int32} (hn : nw = 0 ∨ nw = 1) {ag s : Nat} (h1 : 1 ≤ ag) (h3 : ag ≤ 3) {Q : Me → Prop} (hQ : ∀ σ', YT z σ σ' A b nw ag s 0 → Q σ') : pX7_begin σ (z + 34) (nI s) (nI ag) nw Q := by
  obtain ⟨t1, t2, t3, t4, t5, t6⟩ := Y_tag h.rc
  refine ⟨t1, ?_⟩
  intro σ2 e2 σ3 e3
  have ea : (if (1 : Int32) < (if (3 : Int32) < nI ag then (3 : Int32) else nI ag) then (if (3 : Int32) < nI ag then (3 : Int32) else nI ag) else (1 : Int32)) = nI ag := by
    have : ag = 1 ∨ ag = 2 ∨ ag = 3 := by omega
    rcases this with rfl | rfl | rfl <;> decide
  rw [ea] at e3
  refine ⟨hn, ?_⟩
  intro σ5 e5 σ6 e6
  have c6 : RC z σ6 A := by
    rw [e6, e5, e3, e2]
    exact ((h.rc.sI (o := 34) (by unfold scr; omega) _).sI (o := 34) (by unfold scr; omega) _).sI (o := 34) (by unfold scr; omega) _
  have s6 : ∀ x, x ≠ z + 34 → sameC σ σ6 x := fun x hx => by
    rw [e6, e5, e3, e2]
    exact ((sameC.sI hx).tr (.sI hx)).tr ((sameC.sI hx).tr (.sL hx))
  have f6 : FrS z σ σ6 := by
    rw [e6, e5, e3, e2]
    exact ((FrS.sI (o := 34) (by unfold scr; omega) _).tr (FrS.sI (o := 34) (by unfold scr; omega) _)).tr ((FrS.sI (o := 34) (by unfold scr; omega) _).tr (FrS.sL (o := 34) (by unfold scr; omega) _))
  have y6 : YK z σ6 A nw ag s := by
    refine ⟨c6, ?_, ?_, ?_, h.2.2.2.2.2.2.same (s6 _ (by omega))⟩
    · rw [e6, gI_sL, e5, gI_sI_nk (by decide), e3, gI_sI_nk (by decide), e2, gI_sI_eq]
    · rw [e6, gI_sL, e5, gI_sI_nk (by decide), e3, gI_sI_eq]
    · rw [e6, gI_sL, e5, gI_sI_eq]
  obtain ⟨u1, u2, u3, u4, u5, u6⟩ := Y_tag c6
  refine ⟨z + 23, u2, u6, C_start (p := 0) c6 (h.2.2.2.2.2.1.same (fun o _ _ => s6 _ (by omega))) (by omega) (fun σ' ca cb cc cd f k pl y1 y2 y3 y4 y5 y6' => ?_)⟩
  refine hQ σ' ⟨ca, cb, cc, cd, f, k, pl, pl, y1, y6.same y5 (fun j => (y6'.2 _ (by omega)).2.2.1 j) (y6'.2 _ (by omega)), ?_, y2, y3, y4, ?_, f6.tr (y6'.S (fun o h1 h2 => by unfold scr; omega))⟩
  · rw [(y6'.2 _ (by omega)).2.2.2.1, e6, gL_sL_eq]
    rfl
  · have e0 : ES f k pl (bad ag s) = 0 := by
      rw [y4]
      refine bad_0.mpr ⟨?_, fun _ => rfl, fun _ => rfl⟩
      show 0 % 13 + 0 / 13 ≤ s
      omega
    exact fun i hi => bad_0.mp (lst_v y2.2.2.2.2.2 e0 i hi)
theorem X_spoilt (h : RX z σ A) (hW : WF A) {b s ag d nw : Int32} (hn : nw = 0 ∨ nw = 1) {Q : Int32 → Me → Prop} (hQ : ∀ σ', RX z σ' (sSp A b s ag d nw).2 → frM z σ σ' → Q (sSp A b s ag d nw).1 σ') : pX11_spoilt σ z b s ag d nw Q := by
  unfold sSp sNB at hQ
  have hbad : ¬ (inr b 0 3 ∧ gdS s ag d) → Q (-1) σ := fun q => by
    rw [if_neg q] at hQ
    exact hQ _ h .rf
  refine e_isBook (fun h1 => ⟨fun q => absurd q (by decide), fun _ => ?_⟩) (fun h1 => ⟨fun _ => hbad (fun y => h1 y.1), fun q => absurd rfl q⟩)
  refine e_within (fun h2 => ⟨fun q => absurd q (by decide), fun _ => ?_⟩) (fun h2 => ⟨fun _ => hbad (fun y => h2 y.2.1), fun q => absurd rfl q⟩)
  refine e_within (fun h3 => ⟨fun q => absurd q (by decide), fun _ => ?_⟩) (fun h3 => ⟨fun _ => hbad (fun y => h3 y.2.2.1), fun q => absurd rfl q⟩)
  refine e_areDays (fun h4 => ⟨fun q => absurd q (by decide), fun _ => ⟨X_tag h, ?_⟩⟩) (fun h4 => ⟨fun _ => hbad (fun y => h4 y.2.2.2), fun q => absurd rfl q⟩)
  rw [if_pos ⟨h1, h2, h3, h4⟩] at hQ
  obtain ⟨b, hb4, rfl⟩ := i3 h1
  obtain ⟨dd, hd1, hd, rfl⟩ := i1_6 h4
  obtain ⟨ag, ha1, ha3, rfl⟩ := i1_3 h3
  obtain ⟨s, hs, rfl⟩ := inr_ix (n := 12) h2 (by omega)
  rw [ixn (show b < 2 ^ 31 by omega), ixn (show dd < 2 ^ 31 by omega), ixn (show ag < 2 ^ 31 by omega), ixn (show s < 2 ^ 31 by omega)] at hQ
  have hb : b < 4 := by omega
  have k0 := C_bk h.rc hb
  refine ⟨_, k0.1, k0.2.1, k0.2.2.1, _, k0.2.2.2, X_lack3 h hb (fun y => ⟨fun q => absurd q (by decide), fun _ => ⟨X_tag h, ?_⟩⟩) (fun y y2 => ⟨fun q => absurd q (by decide), fun _ => ⟨X_tag h, ?_⟩⟩) (fun y y2 => ⟨fun _ => ⟨X_tag h, z + 34, h.1.rf (0, 8, 34) (by decide), (Y_tag h.rc).1, ?_⟩, fun q => absurd rfl q⟩)⟩
  · rw [if_pos y] at hQ
    exact X_fnd h (by omega) (by omega) hQ
  · rw [if_neg y, if_pos y2] at hQ
    exact X_fnd h (by omega) (by omega) hQ
  · rw [if_neg y, if_neg y2] at hQ
    have hw := WN_pos hW hb y2
    have b4 := pow_le63 (WN_le hW hb) hd
    refine C_beginS (b := b) h hn ha1 ha3 (fun σ1 hY => ?_)
    have c1 : RC z σ1 A := by
      obtain ⟨ca, cb, cc, cd, f, k, pl, ql, y1, y2, -⟩ := hY
      exact y2.1
    have k1 := C_bk c1 hb
    refine ⟨C_tag c1, z + 34, c1.1.rf (0, 8, 34) (by decide), _, k1.1, k1.2.1, k1.2.2.1, _, k1.2.2.2, (Y_tag c1).1, C_followS hW hb hs ha1 ha3 hd hY (fun σ2 hY2 => ?_)⟩
    obtain ⟨ca, cb, cc, cd, f, k, pl, ql, y1, y2, y3, y4, y5, y6, y7, y8⟩ := hY2
    have hR := h.back y8 y2.1 (spX.of y1 y4.w y5) y2.2.2.2.2
    have k2 := C_bk hR.rc hb
    exact ⟨X_tag hR, _, k2.1, k2.2.1, k2.2.2.1, _, k2.2.2.2, C_rowsOf hR.rc hW hb (by omega) ⟨X_tag hR, X_tell hR (vG_le hW hb nw ag hs hd) (by omega) (Nat.pow_pos hw) (fun σ4 z1 z2 => hQ σ4 z1 (y8.frM.tr z2))⟩⟩
end XT
