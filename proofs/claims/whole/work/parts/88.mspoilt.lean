/-- after t days -/
def MY (m N T : Nat) (σ0 σ : Me) (A : Ab) (b : Nat) (nw : Int32) (ag s t : Nat) : Prop := ∃ k pl f, RM m N σ A ∧ stT m (T + t) σ ∧ MS m σ (VG ag s) k pl f ∧ (∀ φ : Nat → Nat, SM f pl k (fun s => φ (piG s)) = pw (PG A b nw ag s) t φ 0) ∧ gL σ m 44 = lN (WN A b ^ t) ∧ FrW m σ0 σ
section SPO
variable {z n : Nat} {σ : Me} {A : Ab}
set_option maxHeartbeats 1000000 in
theorem M_spoilt (h : RM (z + 36) n σ A) (hW : WF A) (hn : n < 512) {b s ag d nw : Int32} {Q : Int32 → Me → Prop} (hQ : ∀ σ', RM (z + 36) (n + 1) σ' (sSp A b s ag d nw).2 → frX z σ σ' → Q (sSp A b s ag d nw).1 σ') : pX12_spoilt σ (z + 36) b s ag d nw Q := by
  unfold sSp at hQ
  have hbad : ¬ (inr b 0 3 ∧ gdS s ag d) → Q (-1) σ := fun q => by
    unfold sNB at hQ
    rw [if_neg q] at hQ
    exact hQ _ h.up .rf
  refine e_isPlace (fun h1 => ⟨fun q => absurd q (by decide), fun _ => ?_⟩) (fun h1 => ⟨fun _ => hbad (fun y => h1 y.1), fun q => absurd rfl q⟩)
  refine e_in (fun h2 => ⟨fun q => absurd q (by decide), fun _ => ?_⟩) (fun h2 => ⟨fun _ => hbad (fun y => h2 y.2.1), fun q => absurd rfl q⟩)
  refine e_in (fun h3 => ⟨fun q => absurd q (by decide), fun _ => ?_⟩) (fun h3 => ⟨fun _ => hbad (fun y => h3 y.2.2.1), fun q => absurd rfl q⟩)
  refine e_in (fun h4 => ⟨fun q => absurd q (by decide), fun _ => ⟨h.1.1, ?_⟩⟩) (fun h4 => ⟨fun _ => hbad (fun y => h4 y.2.2.2), fun q => absurd rfl q⟩)
  refine M_nb h h1 (show gdS s ag d from ⟨h2, h3, h4⟩) (K := (1, sTell A (vG A (ix b) nw (ix ag) (ix s) (ix d)) (WN A (ix b) ^ ix d))) (fun w σ' k1 k2 k3 k4 => ⟨fun q => absurd q k1, fun _ => ?_⟩) (fun k1 k2 ke => ⟨fun _ => ⟨h.1.1, ?_⟩, fun q => absurd (by decide) q⟩)
  · rw [k2]
    exact hQ σ' k3.up k4
  rw [ke] at hQ
  obtain ⟨b, hb4, rfl⟩ := i3 h1
  obtain ⟨dd, hd1, hd, rfl⟩ := i1_6 h4
  obtain ⟨ag, ha1, ha3, rfl⟩ := i1_3 h3
  obtain ⟨s, hs, rfl⟩ := inr_ix (n := 12) h2 (by omega)
  rw [ixn (show b < 2 ^ 31 by omega)] at hQ k2
  rw [ixn (show dd < 2 ^ 31 by omega), ixn (show ag < 2 ^ 31 by omega), ixn (show s < 2 ^ 31 by omega)] at hQ
  have hb : b < 4 := by omega
  have hw := WN_pos hW hb k2
  obtain ⟨T, hT, ht⟩ := h.T
  have b4 := pow_le63 (WN_le hW hb) hd
  have b5 := vG_le hW hb nw ag hs hd
  have hWl := WN_le hW hb
  have eW : (sW A b 7).toInt64 = lN (WN A b) := by
    rw [sW_eq hW hb 7 (by omega)]
    exact nI_l (by unfold WN at hWl; omega)
  refine M_allOf h hb ?_
  rintro _ rfl
  rw [eW]
  have r30 := h.1.row (30, 14, 20, 17000) (by decide)
  have r31 := h.1.row (31, 15, 21, 17000) (by decide)
  have hin : vp_in (0 : Int32) 17000 := vp_in_nI (show 0 < 17000 by omega) (by omega)
  refine ⟨h.1.1, ?_⟩
  rintro _ rfl
  refine ⟨z + 36 + 14, r30.1, r30.2.1, by show vp_in _ (gN σ (z + 36 + 14)); rw [r30.2.2]; exact hin, ?_⟩
  rintro _ rfl
  refine ⟨z + 36 + 15, r31.1, r31.2.1, by show vp_in _ (gN σ (z + 36 + 15)); rw [r31.2.2]; exact hin, ?_⟩
  rintro _ rfl _ rfl
  rw [show ((0 : Int32)).toNatClampNeg = 0 by decide]
  have h0 : MY (z + 36) (n + 1) T σ (sI (sL (sI (sL σ (z + 36) 44 1) (z + 36 + 14) 0 0) (z + 36 + 15) 0 1) (z + 36) 32 1) A b nw ag s 0 := by
    have fW : FrW (z + 36) σ (sI (sL (sI (sL σ (z + 36) 44 1) (z + 36 + 14) 0 0) (z + 36 + 15) 0 1) (z + 36) 32 1) := (((frW_L (o := 0) (by omega)).tr (frW_I (by omega))).tr (frW_L (by omega))).tr (frW_0 (by omega))
    have t0 : stT (z + 36) T (sI (sL (sI (sL σ (z + 36) 44 1) (z + 36 + 14) 0 0) (z + 36 + 15) 0 1) (z + 36) 32 1) := ht.fr (by rw [gI_sI_nk (by decide), gI_sL, gI_sI_ne (by omega)]; rfl) (fun j => by rw [gI_sI_ne (by omega), gI_sL, gI_sI_ne (by omega)]; rfl)
    refine ⟨1, fun _ => 0, fun _ => 1, h.up.frW fW t0 (by omega), t0, ⟨gI_sI_eq, by omega, fun i hi => ?_⟩, fun φ => ?_, ?_, fW⟩
    · have : i = 0 := by omega
      subst this
      refine ⟨?_, ?_, show 0 < 17000 by omega, ⟨show 0 / 25 + 0 % 25 ≤ s by omega, fun _ => rfl, fun _ => rfl⟩⟩
      · rw [gI_sI_ne (by omega), gI_sL, gI_sI_eq]
        rfl
      · rw [gL_sI, gL_sL_eq]
        rfl
    · show 0 + 1 * φ (piG 0) = φ 0
      rw [show piG 0 = 0 by rfl]
      omega
    · rw [gL_sI, gL_sL_ne (by omega), gL_sI, gL_sL_eq]
      rfl
  generalize (sI (sL (sI (sL σ (z + 36) 44 1) (z + 36 + 14) 0 0) (z + 36 + 15) 0 1) (z + 36) 32 1) = τ at *
  refine ⟨fun nn σ1 x9 w => ∃ t, t ≤ dd ∧ w = nI t ∧ nn = dd - t ∧ x9 = lN (vG A b nw ag s t) ∧ MY (z + 36) (n + 1) T σ σ1 A b nw ag s t, ?_, dd, 0, by omega, rfl, rfl, rfl, h0⟩
  rintro nn σ1 x9 w ⟨t, htd, rfl, rfl, rfl, hG⟩
  obtain ⟨k, pl, f, g1, g2, g3, g4, g6, g7⟩ := hG
  have hk := g3.2.1
  refine ⟨fun q => ⟨g1.1.1, ?_⟩, fun q => ⟨g1.1.1, ?_⟩⟩
  · have : t = dd := by
      have := (nI_leI (by omega) (by omega)).mp q
      omega
    subst this
    rw [g6]
    exact M_tells g1 b5 (by omega) (Nat.pow_pos hw) (fun σ2 y1 y2 => hQ σ2 y1 (g7.frX.tr y2))
  · have hlt2 : t < dd := by
      have : ¬ dd ≤ t := fun x => q ((nI_leI (by omega) (by omega)).mpr x)
      omega
    intro σ81 e81 σ82 e82 x44 e44 σ87 e87
    rw [lN_mul] at e44
    subst e44
    have i87 : gI σ87 = gI σ82 := by rw [e87, gI_sL]
    have i38 : gI σ87 (z + 36) 38 = nI (T + t + 1) := by rw [i87, e82, gI_sI_nk (by decide), e81, gI_sI_eq, g2.1]; exact sc1 _
    have i35 : gI σ87 (z + 36) 35 = 0 := by rw [i87, e82, gI_sI_eq]
    have i32 : gI σ87 (z + 36) 32 = gI σ1 (z + 36) 32 := by rw [i87, e82, gI_sI_nk (by omega), e81, gI_sI_nk (by omega)]
    have iO : ∀ o j, o ≠ 0 → gI σ87 (z + 36 + o) j = gI σ1 (z + 36 + o) j := fun o j ho => by rw [i87, e82, gI_sI_ne (by omega), e81, gI_sI_ne (by omega)]
    have lO : ∀ o j, o ≠ 0 → gL σ87 (z + 36 + o) j = gL σ1 (z + 36 + o) j := fun o j ho => by rw [e87, gL_sL_ne (by omega), e82, gL_sI, e81, gL_sI]
    have l82 : gL σ82 = gL σ1 := by rw [e82, gL_sI, e81, gL_sI]
    have l44 : gL σ87 (z + 36) 44 = lN (WN A b ^ (t + 1)) := by rw [e87, gL_sL_eq, l82, g6, lN_mul]; rfl
    have fW : FrW (z + 36) σ1 σ87 := by
      rw [e87, e82, e81]
      exact ((frW_0 (by omega)).tr (frW_0 (by omega))).tr (frW_L (o := 0) (by omega))
    obtain ⟨t1, t2⟩ := g2.up (by omega) (VG ag s) (fun _ => 0) (fun _ => 0) i38 (fun j => iO 19 j (by omega)) i35
    have w0 : MV (z + 36) (n + 1) (T + t + 1) (VG ag s) σ87 A k pl f 0 (fun _ => 0) (fun _ => 0) := ⟨g1.frW fW t1 (by omega), ⟨t1, by omega, by omega⟩, g3.fr i32 (fun j => iO 14 j (by omega)) (fun j => lO 15 j (by omega)), t2⟩
    clear e81 e82 e87 i87 l82
    refine ⟨fun nn σ2 x9 w => ∃ i kk ql g, i ≤ k ∧ w = nI i ∧ nn = k - i ∧ x9 = lN (vG A b nw ag s t * WN A b + SM f pl i (fun y => spG A b nw ag s (piG y))) ∧ MV (z + 36) (n + 1) (T + t + 1) (VG ag s) σ2 A k pl f kk ql g ∧ (∀ φ : Nat → Nat, SM g ql kk (fun s => φ (piG s)) = SM f pl i (fun y => PG A b nw ag s φ (piG y))) ∧ gL σ2 (z + 36) 44 = gL σ87 (z + 36) 44 ∧ FrW (z + 36) σ87 σ2, ?_, k, 0, 0, _, _, by omega, rfl, rfl, rfl, w0, fun φ => rfl, rfl, .rf⟩
    rintro nn σ2 x9 w ⟨i, kk, ql, g, hi, rfl, rfl, rfl, k1, k2, k4, k5⟩
    refine ⟨k1.1.1.1, ?_⟩
    rw [k1.2.2.1.1]
    refine ⟨fun q2 => ?_, fun q2 => ?_⟩
    · have : i = k := by
        have := (nI_leI (by omega) (by omega)).mp q2
        omega
      subst this
      intro σ96 e96
      have f96 : FrW (z + 36) σ2 σ96 := by rw [e96]; exact frW_0 (by omega)
      have j96 : ∀ j, j ≠ 32 → gI σ96 (z + 36) j = gI σ2 (z + 36) j := fun j hj => by rw [e96, gI_sI_nk hj]
      have o96 : ∀ o j, o ≠ 0 → gI σ96 (z + 36 + o) j = gI σ2 (z + 36 + o) j := fun o j ho => by rw [e96, gI_sI_ne (by omega)]
      have l96 : gL σ96 = gL σ2 := by rw [e96, gL_sI]
      have t96 : stT (z + 36) (T + t + 1) σ96 := k1.2.1.1.fr (j96 38 (by decide)) (fun j => o96 19 j (by omega))
      have n96 : MN (z + 36) σ96 (T + t + 1) (VG ag s) kk ql g := k1.2.2.2.fr (j96 35 (by decide)) (fun o j ho => o96 o j (by omega)) (fun j => by rw [l96])
      have m96 : gI σ96 (z + 36) 32 = nI kk := by rw [e96, gI_sI_eq]; exact k1.2.2.2.1
      refine M_cp (k1.1.frW f96 t96 (by omega)) t96 (by omega) n96 m96 (fun σ3 y1 y2 y3 y4 y5 y6 => ?_)
      rintro _ rfl
      refine ⟨dd - (t + 1), by omega, t + 1, by omega, sc1 t, rfl, ?_, kk, ql, g, y1, y2, y3, fun φ => ?_, ?_, ((g7.tr fW).tr k5).tr (f96.tr y6)⟩
      · rw [g4 (spG A b nw ag s)]
        rfl
      · rw [k2 φ]
        exact g4 (PG A b nw ag s φ)
      · rw [y4, l96, k4, l44]
    · have hlt3 : i < k := by
        have : ¬ k ≤ i := fun x => q2 ((nI_leI (by omega) (by omega)).mpr x)
        omega
      refine M_goS k1 hW hb hs ha1 ha3 hlt3 (fun σ3 kk3 ql3 g3' v1 v2 v4 v5 => ?_)
      rintro _ rfl
      refine ⟨k - (i + 1), by omega, i + 1, kk3, ql3, g3', by omega, sc1 i, rfl, ?_, v1, fun φ => ?_, by rw [v4, k4], k5.tr v5⟩
      · rw [SM_s, Nat.add_assoc]
      · rw [v2 φ, k2 φ, SM_s]
end SPO
