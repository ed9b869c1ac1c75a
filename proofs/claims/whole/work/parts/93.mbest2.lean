def prB (Xc one two s : Nat) : Prop := s / 625 < Xc ∨ (s / 625 = Xc ∧ (s / 25 % 25 < one ∨ (s / 25 % 25 = one ∧ s % 25 < two)))
/-- while a day is planned -/
def RB (z N T : Nat) (σ0 σ : Me) (A : Ab) (b t Xc one two : Nat) : Prop := RM (z + 36) N σ A ∧ stT (z + 36) T σ ∧ (∀ s, s < 17000 → VB A s → gL σ (z + 36 + 20) s = lN (UB A b t (eta A s))) ∧ (∀ s, s < 17000 → VB A s → prB Xc one two s → gL σ (z + 36 + 21) s = lN (UB A b (t + 1) (eta A s))) ∧ FrW (z + 36) σ0 σ
theorem RB.up {z N T : Nat} {σ0 σ : Me} {A : Ab} {b t Xc one two Xd one' two' : Nat} (h : RB z N T σ0 σ A b t Xc one two) (hp : ∀ s, VB A s → prB Xd one' two' s → prB Xc one two s) : RB z N T σ0 σ A b t Xd one' two' := ⟨h.1, h.2.1, h.2.2.1, fun s h1 h2 h3 => h.2.2.2.1 s h1 h2 (hp s h2 h3), h.2.2.2.2⟩
def oMx (A : Ab) : Nat := if leN A = 0 then 0 else 12
def tMx (A : Ab) : Nat := if leN A ≤ 1 then 0 else 12
theorem mx_le (A : Ab) (hW : WF A) : oMx A ≤ 12 ∧ tMx A ≤ 12 ∧ ∀ s, VM A s → s / 25 % 25 ≤ oMx A ∧ s % 25 ≤ tMx A := by
  refine ⟨by unfold oMx; split <;> omega, by unfold tMx; split <;> omega, fun s h => ?_⟩
  obtain ⟨l0, l1, l2⟩ := hW.lei
  have h2 := hW.le.2
  obtain ⟨h1, h2', h3, h4, h5⟩ := h
  unfold oMx tMx
  constructor
  · split
    · rename_i c
      have := (h4 (l0.mpr c)).1
      omega
    · omega
  · split
    · rename_i c
      have : leN A = 0 ∨ leN A = 1 := by omega
      rcases this with e | e
      · have := (h4 (l0.mpr e)).2
        omega
      · have := h5 (l1.mpr e)
        omega
    · omega
def bestT (A : Ab) (b X dd : Nat) : Nat × Nat := mnA (FB A b (UB A b (dd - 1)) (dd - 1) X 0) (usB A (dd - 1))
def sBest (A : Ab) (b x d : Int32) : Int32 × Ab := sNB A (isSt A x d) b (nI (bestT A (ix b) (stX x) (ix d)).2, sTell A (bestT A (ix b) (stX x) (ix d)).1 (WN A (ix b) ^ ix d))
theorem best_le {A : Ab} (hW : WF A) {b X dd : Nat} (hb : b < 4) (hX : X ≤ 24) (h1 : 1 ≤ dd) (hd : dd ≤ 6) : (bestT A b X dd).1 ≤ 1162937141087400 := by
  refine (mnA_le _ (fun a ha => ?_)).1
  have := usB_le A (dd - 1)
  exact b6 (t := dd - 1 + 1) (FB_le hW hb hX (by omega) (UB_le hW hb (dd - 1)) (Nat.le_refl _)) (by omega)
section MBE
variable {z n : Nat} {σ : Me} {A : Ab}
set_option maxHeartbeats 1000000 in
theorem M_best (h : RM (z + 36) n σ A) (hW : WF A) (hn : n < 512) {b x d : Int32} {Q : Int32 → Me → Prop} (hQ : ∀ σ', RM (z + 36) (n + 1) σ' (sBest A b x d).2 → frX z σ σ' → Q (sBest A b x d).1 σ') : pX12_best σ (z + 36) b x d Q := by
  unfold sBest at hQ
  have hbad : ¬ (inr b 0 3 ∧ isSt A x d) → Q (-1) σ := fun q => by
    unfold sNB at hQ
    rw [if_neg q] at hQ
    exact hQ _ h.up .rf
  refine e_isPlace (fun h1 => ⟨fun q => absurd q (by decide), fun _ => ⟨h.1.1, ?_⟩⟩) (fun h1 => ⟨fun _ => hbad (fun y => h1 y.1), fun q => absurd rfl q⟩)
  refine M_isStart h (fun h2 => ⟨fun q => absurd q (by decide), fun _ => ⟨h.1.1, ?_⟩⟩) (fun h2 => ⟨fun _ => hbad (fun y => h2 y.2), fun q => absurd rfl q⟩)
  refine M_nb h h1 h2 (K := (nI (bestT A (ix b) (stX x) (ix d)).2, sTell A (bestT A (ix b) (stX x) (ix d)).1 (WN A (ix b) ^ ix d))) (fun w σ' k1 k2 k3 k4 => ⟨fun q => absurd q k1, fun _ => ?_⟩) (fun k1 k2 ke => ⟨fun _ => ⟨h.1.1, ?_⟩, fun q => absurd (by decide) q⟩)
  · rw [k2]
    exact hQ σ' k3.up k4
  rw [ke] at hQ
  obtain ⟨b, hb4, rfl⟩ := i3 h1
  obtain ⟨dd, hd1, hd, rfl⟩ := i1_6 h2.2
  obtain ⟨ex, hfl, hmo, hX⟩ := x_sh hW h2.1
  rw [ixn (show b < 2 ^ 31 by omega)] at hQ k2
  rw [ixn (show dd < 2 ^ 31 by omega)] at hQ
  generalize stX x = X at *
  subst ex
  have hb : b < 4 := by omega
  have hw := WN_pos hW hb k2
  have mo := hW.mo
  have mx := mx_le A hW
  have fl := fl_12 A
  obtain ⟨T, hT, ht⟩ := h.T
  have hwp : 0 < WN A b ^ dd := Nat.pow_pos hw
  have b4 := pow_le63 (WN_le hW hb) hd
  have b5 := best_le hW hb hX hd1 hd
  have hWl := WN_le hW hb
  have eW : (sW A b 7).toInt64 = lN (WN A b) := by
    rw [sW_eq hW hb 7 (by omega)]
    exact nI_l (by unfold WN at hWl; omega)
  refine M_allOf h hb ?_
  rintro _ rfl
  rw [eW]
  have h17 : ∀ v : Int32, (17000 : Int32) ≤ v ↔ nI 17000 ≤ v := fun v => Iff.rfl
  refine ⟨fun nn σ1 w => ∃ k, k ≤ 17000 ∧ w = nI k ∧ nn = 17000 - k ∧ RM (z + 36) n σ1 A ∧ stT (z + 36) T σ1 ∧ (∀ j, j < k → gL σ1 (z + 36 + 20) j = 0) ∧ FrW (z + 36) σ σ1, ?_, 17000, 0, by omega, rfl, rfl, h, ht, fun j hj => by omega, .rf⟩
  rintro nn σ1 w ⟨k, hk, rfl, rfl, g1, g2, g3, g4⟩
  refine ⟨fun q => ?_, fun q => ⟨g1.1.1, ?_⟩⟩
  rotate_left
  · have hk2 : k < 17000 := by
      have : ¬ 17000 ≤ k := fun y => q ((nI_leI (a := 17000) (by omega) (by omega)).mpr y)
      omega
    have r := g1.1.row (45, 20, 21, 17000) (by decide)
    refine ⟨z + 36 + 20, r.1, r.2.1, by rw [r.2.2]; exact show vp_in (nI k) 17000 from vp_in_nI hk2 (by omega), ?_⟩
    rintro _ rfl _ rfl
    rw [nI_clamp (by omega)]
    have fW : FrW (z + 36) σ1 (sL σ1 (z + 36 + 20) k 0) := frW_L (by omega)
    refine ⟨17000 - (k + 1), by omega, k + 1, by omega, sc1 k, rfl, g1.frW fW g2 (by omega), g2, fun j hj => ?_, g4.tr fW⟩
    by_cases c : j = k
    · rw [c, gL_sL_eq]
    · rw [gL_sL_nk c]
      exact g3 j (by omega)
  have ek : k = 17000 := by
    have := (nI_leI (a := 17000) (by omega) (by omega)).mp q
    omega
  subst ek
  refine ⟨fun nn σ2 x7 x9 => ∃ t, t + 1 ≤ dd ∧ x9 = nI (t + 1) ∧ nn = dd - t ∧ x7 = lN (WN A b ^ t) ∧ RB z n T σ σ2 A b t 0 0 0, ?_, dd, 0, by omega, rfl, by omega, rfl, g1, g2, fun s hs _ => by rw [g3 s hs, UB_0]; rfl, fun s _ _ hp => by unfold prB at hp; omega, g4⟩
  clear g1 g2 g3 g4 q
  rintro nn σ2 x7 x9 ⟨t, htd, rfl, rfl, rfl, k1⟩
  refine ⟨fun q => ⟨k1.1.1.1, ?_⟩, fun q => ⟨k1.1.1.1, ?_⟩⟩
  · have et : t = dd - 1 := by
      have := (nI_leI (by omega) (by omega)).mp q
      omega
    subst et
    have v0 := pi_0 hX A
    have a1 : 625 * X / 625 = X := by omega
    have a2 : 625 * X / 25 % 25 = 0 := by omega
    have a3 : 625 * X % 25 = 0 := by omega
    have em := eta_m hW (625 * X)
    rw [a1, a2, a3, Nat.add_zero, Nat.min_eq_left hmo] at em
    have key := M_least (t := dd - 1) (s := 625 * X) (U := UB A b (dd - 1)) k1.1 k1.2.1 (by omega) hW hb (by omega) v0.1 (UB_le hW hb _) k1.2.2.1 (Q := fun r110 σ111 => gT σ111 (z + 36) = 12 ∧ pX12_tells σ111 (z + 36) r110 (lN (WN A b ^ (dd - 1)) * lN (WN A b)) (gI σ111 (z + 36) 47) (fun r114 σ115 => Q r114 σ115)) (fun σ3 y1 y2 => ?_)
    · rw [a1, a2, a3] at key
      exact key
    · have hR3 : RM (z + 36) n σ3 A := k1.1.frW y1.2.2 (y1.st k1.2.1) (by omega)
      rw [mn_useful hW, em.1, em.2] at y2 ⊢
      rw [y2, lN_mul, ← Nat.pow_succ, show (dd - 1).succ = dd by omega]
      refine ⟨hR3.1.1, M_tells hR3.up (u := (bestT A b X dd).1) (by omega) (by omega) hwp (fun σ4 z1 z2 => hQ σ4 z1 ((k1.2.2.2.2.tr y1.2.2).frX.tr z2))⟩
  · have htd2 : t + 1 < dd := by
      have : ¬ dd ≤ t + 1 := fun y => q ((nI_leI (by omega) (by omega)).mpr y)
      omega
    rw [k1.1.sc 19 (by decide), fl_sh]
    rintro _ rfl
    refine ⟨fun nn σ3 x10 => ∃ Xc, flN A ≤ Xc ∧ Xc ≤ moN A + 13 ∧ x10 = sh Xc ∧ nn = moN A + 13 - Xc ∧ RB z n T σ σ3 A b t Xc 0 0, ?_, moN A + 13 - flN A, flN A, by omega, by omega, rfl, by omega, k1.up (fun s h1 h2 => ?_)⟩
    rotate_left
    · have := h1.2.1
      unfold prB at h2
      omega
    rintro nn σ3 x10 ⟨Xc, hX1, hX2, rfl, rfl, k2⟩
    refine ⟨k2.1.1.1, ?_⟩
    rw [(k2.1.sc 17 (by decide)).trans mo.1, sh_n]
    refine ⟨fun q2 => ?_, fun q2 => ?_⟩
    · have eX : Xc = moN A + 13 := by
        have := (sh_lt (by omega) (by omega)).mp q2
        omega
      subst eX
      -- all that is new becomes the best
      have hall : ∀ s, s < 17000 → VB A s → gL σ3 (z + 36 + 21) s = lN (UB A b (t + 1) (eta A s)) := fun s h1 h2 => k2.2.2.2.1 s h1 h2 (Or.inl (by have := h2.2.2; omega))
      refine ⟨fun nn σ4 w => ∃ j, j ≤ 17000 ∧ w = nI j ∧ nn = 17000 - j ∧ RM (z + 36) n σ4 A ∧ stT (z + 36) T σ4 ∧ FrW (z + 36) σ σ4 ∧ (∀ i, gL σ4 (z + 36 + 21) i = gL σ3 (z + 36 + 21) i) ∧ ∀ i, i < j → gL σ4 (z + 36 + 20) i = gL σ3 (z + 36 + 21) i, ?_, 17000, 0, by omega, rfl, rfl, k2.1, k2.2.1, k2.2.2.2.2, fun _ => rfl, fun i hi => by omega⟩
      rintro nn σ4 w ⟨j, hj, rfl, rfl, m1, m2, m3, m4, m5⟩
      refine ⟨fun q3 => ?_, fun q3 => ⟨m1.1.1, ?_⟩⟩
      · have ej : j = 17000 := by
          have := (nI_leI (a := 17000) (by omega) (by omega)).mp q3
          omega
        subst ej
        rintro _ rfl _ rfl
        refine ⟨dd - (t + 1), by omega, t + 1, by omega, sc1 (t + 1), rfl, by rw [lN_mul]; rfl, m1, m2, fun s h1 h2 => by rw [m5 s h1]; exact hall s h1 h2, fun s _ _ hp => by unfold prB at hp; omega, m3⟩
      · have hj2 : j < 17000 := by
          have : ¬ 17000 ≤ j := fun y => q3 ((nI_leI (a := 17000) (by omega) (by omega)).mpr y)
          omega
        have r45 := m1.1.row (45, 20, 21, 17000) (by decide)
        have r46 := m1.1.row (46, 21, 21, 17000) (by decide)
        have hin : vp_in (nI j) 17000 := vp_in_nI hj2 (by omega)
        refine ⟨z + 36 + 20, r45.1, z + 36 + 21, r46.1, r46.2.1, by rw [r46.2.2]; exact hin, r45.2.1, by rw [r45.2.2]; exact hin, ?_⟩
        rintro _ rfl _ rfl
        rw [nI_clamp (by omega)]
        have fW : FrW (z + 36) σ4 (sL σ4 (z + 36 + 20) j (gL σ4 (z + 36 + 21) j)) := frW_L (by omega)
        refine ⟨17000 - (j + 1), by omega, j + 1, by omega, sc1 j, rfl, m1.frW fW m2 (by omega), m2, m3.tr fW, fun i => by rw [gL_sL_ne (by omega)]; exact m4 i, fun i hi => ?_⟩
        by_cases c : i = j
        · rw [c, gL_sL_eq]
          exact m4 j
        · rw [gL_sL_nk c]
          exact m5 i (by omega)
    · have hX3 : Xc ≤ moN A + 12 := by
        have : ¬ moN A + 12 < Xc := fun y => q2 ((sh_lt (by omega) (by omega)).mpr y)
        omega
      refine ⟨fun nn σ4 x11 => ∃ one, one ≤ oMx A + 1 ∧ x11 = nI one ∧ nn = oMx A + 1 - one ∧ RB z n T σ σ4 A b t Xc one 0, ?_, oMx A + 1, 0, by omega, rfl, rfl, k2⟩
      rintro nn σ4 x11 ⟨one, ho, rfl, rfl, k3⟩
      refine ⟨k3.1.1.1, ?_⟩
      intro v168 e168
      have e168' : v168 = nI (oMx A) := by
        rw [e168, k3.1.sc 18 (by decide), hW.le.1]
        unfold oMx
        by_cases c : leN A = 0
        · rw [if_pos c, c, if_pos (show nI 0 ≤ 0 by decide)]
          rfl
        · rw [if_neg c, if_neg (show ¬ nI (leN A) ≤ (0 : Int32) from fun y => c (by have := (nI_leI (b := 0) (by have := hW.le.2; omega) (by omega)).mp y; omega))]
          rfl
      clear e168
      subst e168'
      refine ⟨fun q3 => ?_, fun q3 => ?_⟩
      · have eo : one = oMx A + 1 := by
          have := (nI_ltI (by omega) (by omega)).mp q3
          omega
        subst eo
        rintro _ rfl
        refine ⟨moN A + 13 - (Xc + 1), by omega, Xc + 1, by omega, by omega, sh_add Xc 1, rfl, k3.up (fun s h1 h2 => ?_)⟩
        have := (mx.2.2 s h1.1).1
        unfold prB at h2 ⊢
        omega
      · have ho2 : one ≤ oMx A := by
          have : ¬ oMx A < one := fun y => q3 ((nI_ltI (by omega) (by omega)).mpr y)
          omega
        refine ⟨fun nn σ5 x12 => ∃ two, two ≤ tMx A + 1 ∧ x12 = nI two ∧ nn = tMx A + 1 - two ∧ RB z n T σ σ5 A b t Xc one two, ?_, tMx A + 1, 0, by omega, rfl, rfl, k3⟩
        rintro nn σ5 x12 ⟨two, hw2, rfl, rfl, k4⟩
        refine ⟨k4.1.1.1, ?_⟩
        intro v175 e175
        have e175' : v175 = nI (tMx A) := by
          rw [e175, k4.1.sc 18 (by decide), hW.le.1]
          unfold tMx
          by_cases c : leN A ≤ 1
          · rw [if_pos c, if_pos (show nI (leN A) ≤ (1 : Int32) from nI_le (b := 1) c (by omega))]
            rfl
          · rw [if_neg c, if_neg (show ¬ nI (leN A) ≤ (1 : Int32) from fun y => c ((nI_leI (b := 1) (by have := hW.le.2; omega) (by omega)).mp y))]
            rfl
        clear e175
        subst e175'
        refine ⟨fun q4 => ?_, fun q4 => ?_⟩
        · have et : two = tMx A + 1 := by
            have := (nI_ltI (by omega) (by omega)).mp q4
            omega
          subst et
          rintro _ rfl
          refine ⟨oMx A + 1 - (one + 1), by omega, one + 1, by omega, sc1 one, rfl, k4.up (fun s h1 h2 => ?_)⟩
          have := (mx.2.2 s h1.1).2
          unfold prB at h2 ⊢
          omega
        · have ht2 : two ≤ tMx A := by
            have : ¬ tMx A < two := fun y => q4 ((nI_ltI (by omega) (by omega)).mpr y)
            omega
          have r46 := k4.1.1.row (46, 21, 21, 17000) (by decide)
          have s1 : (625 * Xc + 25 * one + two) / 625 = Xc := by omega
          have s2 : (625 * Xc + 25 * one + two) / 25 % 25 = one := by omega
          have s3 : (625 * Xc + 25 * one + two) % 25 = two := by omega
          have sv : VM A (625 * Xc + 25 * one + two) := by
            obtain ⟨l0, l1, l2⟩ := hW.lei
            refine ⟨by omega, by omega, by omega, fun c => ?_, fun c => ?_⟩
            · have c' := l0.mp c
              rw [s2, s3]
              unfold oMx at ho2
              unfold tMx at ht2
              rw [if_pos c'] at ho2
              rw [if_pos (by omega)] at ht2
              omega
            · have c' := l1.mp c
              rw [s3]
              unfold tMx at ht2
              rw [if_pos (by omega)] at ht2
              omega
          have sl : 625 * Xc + 25 * one + two < 17000 := by omega
          refine ⟨z + 36 + 21, r46.1, ?_⟩
          show gT σ5 (z + 36) = 12 ∧ _
          rw [st_of]
          refine ⟨k4.1.1.1, ?_⟩
          have key := M_least (t := t) (s := 625 * Xc + 25 * one + two) (U := UB A b t) k4.1 k4.2.1 (by omega) hW hb (by omega) sv (UB_le hW hb _) k4.2.2.1 (Q := fun r182 σ183 => gT σ183 (z + 36 + 21) = 21 ∧ vp_in (nI (625 * Xc + 25 * one + two)) (gN σ183 (z + 36 + 21)) ∧ ∀ σ187 : Me, σ187 = sL σ183 (z + 36 + 21) (nI (625 * Xc + 25 * one + two)).toNatClampNeg r182 → ∀ x12_188 : Int32, x12_188 = nI two + 1 → ∃ m126 : Nat, m126 < tMx A + 1 - two ∧ ∃ two1, two1 ≤ tMx A + 1 ∧ x12_188 = nI two1 ∧ m126 = tMx A + 1 - two1 ∧ RB z n T σ σ187 A b t Xc one two1) (fun σ6 y1 y2 => ?_)
          · rw [s1, s2, s3] at key
            exact key
          · have hR6 : RM (z + 36) n σ6 A := k4.1.frW y1.2.2 (y1.st k4.2.1) (by omega)
            have r46' := hR6.1.row (46, 21, 21, 17000) (by decide)
            refine ⟨r46'.2.1, by rw [r46'.2.2]; exact show vp_in (nI (625 * Xc + 25 * one + two)) 17000 from vp_in_nI sl (by omega), ?_⟩
            rintro _ rfl _ rfl
            rw [nI_clamp (show 625 * Xc + 25 * one + two < 2 ^ 31 by omega), mn_useful hW]
            have fW : FrW (z + 36) σ6 (sL σ6 (z + 36 + 21) (625 * Xc + 25 * one + two) (lN (mnA (FB A b (UB A b t) t (eta A (625 * Xc + 25 * one + two) % 25) (eta A (625 * Xc + 25 * one + two) / 25)) (usB A t)).1)) := frW_L (by omega)
            refine ⟨tMx A + 1 - (two + 1), by omega, two + 1, by omega, sc1 two, rfl, hR6.frW fW (y1.st k4.2.1) (by omega), y1.st k4.2.1, fun s h1 h2 => ?_, fun s h1 h2 h3 => ?_, (k4.2.2.2.2.tr y1.2.2).tr fW⟩
            · rw [gL_sL_ne (by omega), y1.1]
              exact k4.2.2.1 s h1 h2
            · by_cases c : s = 625 * Xc + 25 * one + two
              · rw [c, gL_sL_eq, UB_s]
              · rw [gL_sL_nk c, y1.1]
                refine k4.2.2.2.1 s h1 h2 ?_
                unfold prB at h3 ⊢
                have a4 := Nat.div_add_mod s 625
                have : s / 625 = Xc → s / 25 % 25 = one → s % 25 = two → False := fun e1 e2 e3 => c (by omega)
                omega
end MBE
