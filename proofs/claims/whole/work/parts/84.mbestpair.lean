/-! The best pair of marks: the reference. -/
def bIn (C : Nat → Nat → Nat) (t : Nat) (s : Nat × Nat × Nat) : Nat → Nat × Nat × Nat
  | 0 => s
  | l + 1 => if C l t < (bIn C t s l).1 then (C l t, l, t) else bIn C t s l
def bOut (C : Nat → Nat → Nat) : Nat → Nat × Nat × Nat
  | 0 => (4611686018427387904, 0, 0)
  | h + 1 => bIn C (h + 12) (bOut C h) (h + 12)
theorem bIn_s (C : Nat → Nat → Nat) (t : Nat) (s : Nat × Nat × Nat) (l : Nat) : bIn C t s (l + 1) = if C l t < (bIn C t s l).1 then (C l t, l, t) else bIn C t s l := rfl
theorem bOut_s (C : Nat → Nat → Nat) (h : Nat) : bOut C (h + 1) = bIn C (h + 12) (bOut C h) (h + 12) := by rw [bOut]
def sNB (A : Ab) (g : Prop) [Decidable g] (b : Int32) (K : Int32 × Ab) : Int32 × Ab := if inr b 0 3 ∧ g then (if A.1 4 (ix b) = 0 then (-3, fnd A 1) else if sW A (ix b) 7 = 0 then (-3, fnd A 4) else K) else (-1, A)
def cP (A : Ab) (b X dd lo tp : Nat) : Nat := vC A b (oP lo tp) X dd
def bpT (A : Ab) (b X dd : Nat) : Ab := sTell (aS (aS A 48 0 (sh (bOut (cP A b X dd) (moN A + 1)).2.1)) 49 0 (sh (bOut (cP A b X dd) (moN A + 1)).2.2)) (bOut (cP A b X dd) (moN A + 1)).1 (WN A b ^ dd)
def sBP (A : Ab) (b x d : Int32) : Int32 × Ab := sNB A (isSt A x d) b (1, bpT A (ix b) (stX x) (ix d))
theorem cP_le {A : Ab} (hW : WF A) {b : Nat} (hb : b < 4) {X dd : Nat} (hX : X < 481) (hd : dd ≤ 6) (lo tp : Nat) : cP A b X dd lo tp ≤ 73265039888506200 := vC_le hW hb (oP12 lo tp) hX hd
/-- what the reference has found so far -/
def MB (m : Nat) (σ : Me) (A : Ab) (b dd h l : Nat) (s : Nat × Nat × Nat) (x5 : Int64) (x7 x8 : Int32) : Prop := (h = 0 ∧ l = 0 ∧ x5 = -1 ∧ x7 = -9 ∧ x8 = -9 ∧ s = (4611686018427387904, 0, 0)) ∨ (x5 = lN s.1 ∧ x7 = sh s.2.1 ∧ x8 = sh s.2.2 ∧ s.1 ≤ 73265039888506200 ∧ gL σ m 44 = lN (WN A b ^ dd))
section BP
variable {z n : Nat} {σ : Me} {A : Ab}
theorem M_nb (h : RM (z + 36) n σ A) {g : Prop} [Decidable g] {b : Int32} {K : Int32 × Ab} (hb : inr b 0 3) (hg : g) {Q : Int32 → Me → Prop} (hno : ∀ w σ', ¬ 0 ≤ w → w = (sNB A g b K).1 → RM (z + 36) n σ' (sNB A g b K).2 → frX z σ σ' → Q w σ') (hok : ¬ A.1 4 (ix b) = 0 → ¬ sW A (ix b) 7 = 0 → sNB A g b K = K → Q 0 σ) : pX12_needBook σ (z + 36) b Q := by
  unfold sNB at hno hok
  rw [if_pos ⟨hb, hg⟩] at hno hok
  obtain ⟨b, hb4, rfl⟩ := i3 hb
  rw [ixn (show b < 2 ^ 31 by omega)] at hno hok
  refine M_needBook h (by omega) (fun y σ' k1 k2 => ?_) (fun y y2 σ' k1 k2 => ?_) (fun y1 y2 => ?_)
  · rw [if_pos y] at hno
    exact hno _ _ (by decide) rfl k1 k2
  · rw [if_neg y, if_pos y2] at hno
    exact hno _ _ (by decide) rfl k1 k2
  · rw [if_neg y1, if_neg y2] at hok
    exact hok y1 y2 rfl
set_option maxHeartbeats 400000 in
theorem M_bestPair (h : RM (z + 36) n σ A) (hW : WF A) (hn : n < 512) {b x d : Int32} {Q : Int32 → Me → Prop} (hQ : ∀ σ', RM (z + 36) (n + 1) σ' (sBP A b x d).2 → frX z σ σ' → Q (sBP A b x d).1 σ') : pX12_bestPair σ (z + 36) b x d Q := by
  unfold sBP at hQ
  have hbad : ¬ (inr b 0 3 ∧ isSt A x d) → Q (-1) σ := fun q => by
    unfold sNB at hQ
    rw [if_neg q] at hQ
    exact hQ _ h.up .rf
  refine e_isPlace (fun h1 => ⟨fun q => absurd q (by decide), fun _ => ⟨h.1.1, ?_⟩⟩) (fun h1 => ⟨fun _ => hbad (fun y => h1 y.1), fun q => absurd rfl q⟩)
  refine M_isStart h (fun h2 => ⟨fun q => absurd q (by decide), fun _ => ⟨h.1.1, ?_⟩⟩) (fun h2 => ⟨fun _ => hbad (fun y => h2 y.2), fun q => absurd rfl q⟩)
  refine M_nb h h1 h2 (K := (1, bpT A (ix b) (stX x) (ix d))) (fun w σ' k1 k2 k3 k4 => ⟨fun q => absurd q k1, fun _ => ?_⟩) (fun k1 k2 ke => ⟨fun _ => ?_, fun q => absurd (by decide) q⟩)
  · rw [k2]
    exact hQ σ' k3.up k4
  rw [ke] at hQ
  obtain ⟨b, hb4, rfl⟩ := i3 h1
  obtain ⟨dd, hd1, hd, rfl⟩ := i1_6 h2.2
  obtain ⟨ex, -, -, hX⟩ := x_sh hW h2.1
  rw [ixn (show b < 2 ^ 31 by omega)] at hQ k2
  rw [ixn (show dd < 2 ^ 31 by omega)] at hQ
  generalize stX x = X at *
  subst ex
  have hw := WN_pos hW (show b < 4 by omega) k2
  have mo := hW.mo
  obtain ⟨T0, hT0, sT0⟩ := h.T
  have hC := cP_le hW (show b < 4 by omega) (X := X) (by omega) hd
  have hwp : 0 < WN A b ^ dd := Nat.pow_pos hw
  have b4 := pow_le63 (WN_le hW (show b < 4 by omega)) hd
  refine ⟨fun nn σ1 x5 x7 x8 x9 => ∃ hh T, hh ≤ moN A + 1 ∧ x9 = nI hh ∧ nn = moN A + 1 - hh ∧ RM (z + 36) (n + 1) σ1 A ∧ stT (z + 36) T σ1 ∧ T ≤ 2000 * n + 6 * (24 * hh) ∧ MB (z + 36) σ1 A b dd hh 0 (bOut (cP A b X dd) hh) x5 x7 x8 ∧ FrW (z + 36) σ σ1, ?_, moN A + 1, 0, T0, by omega, rfl, rfl, h.up, sT0, by omega, Or.inl ⟨rfl, rfl, rfl, rfl, rfl, rfl⟩, .rf⟩
  rintro nn σ1 x5 x7 x8 x9 ⟨hh, T, hle, rfl, rfl, g1, g2, g3, g4, g5⟩
  refine ⟨g1.1.1, ?_⟩
  rw [(g1.sc 17 (by decide)).trans mo.1]
  refine ⟨fun q => ?_, fun q => ?_⟩
  · have : moN A < hh := (nI_ltI (by omega) (by omega)).mp q
    have e : hh = moN A + 1 := by omega
    subst e
    rcases g4 with ⟨e, -⟩ | ⟨e1, e2, e3, e4, e5⟩
    · omega
    rintro _ rfl _ rfl
    subst e1 e2 e3
    have r1 := (g1.setS (f := 48) (by decide) (sh (bOut (cP A b X dd) (moN A + 1)).2.1)).setS (f := 49) (by decide) (sh (bOut (cP A b X dd) (moN A + 1)).2.2)
    show pX12_tells _ (z + 36) (lN (bOut (cP A b X dd) (moN A + 1)).1) (gL σ1 (z + 36) 44) 1 _
    rw [e5]
    refine M_tells r1 (by omega) (by omega) hwp (fun σ2 y1 y2 => hQ σ2 y1 (g5.frX.tr (((frX.sI (by omega) (by omega)).tr (.sI (by omega) (by omega))).tr y2)))
  · have hle2 : hh ≤ moN A := by
      have : ¬ moN A < hh := fun y => q ((nI_ltI (by omega) (by omega)).mpr y)
      omega
    refine ⟨fun nn σ2 x5 x7 x8 x10 => ∃ l T, l ≤ hh + 12 ∧ x10 = sh l ∧ nn = hh + 12 - l ∧ RM (z + 36) (n + 1) σ2 A ∧ stT (z + 36) T σ2 ∧ T ≤ 2000 * n + 6 * (24 * hh + l) ∧ MB (z + 36) σ2 A b dd hh l (bIn (cP A b X dd) (hh + 12) (bOut (cP A b X dd) hh) l) x5 x7 x8 ∧ FrW (z + 36) σ σ2, ?_, hh + 12, 0, T, by omega, sh_12, rfl, g1, g2, by omega, g4, g5⟩
    rintro nn σ2 x5 x7 x8 x10 ⟨l, T, hl, rfl, rfl, k1, k2, k3, k4, k5⟩
    refine ⟨fun q2 => ?_, fun q2 => ?_⟩
    · have el : l = hh + 12 := by
        rw [sh_n] at q2
        have := (sh_le (by omega) (by omega)).mp q2
        omega
      subst el
      rintro _ rfl
      refine ⟨moN A + 1 - (hh + 1), by omega, hh + 1, T, by omega, sc1 hh, rfl, k1, k2, by omega, ?_, k5⟩
      rcases k4 with ⟨-, e, -⟩ | k4
      · omega
      · rw [bOut_s]
        exact Or.inr k4
    · have hlt : l < hh + 12 := by
        rw [sh_n] at q2
        have : ¬ hh + 12 ≤ l := fun y => q2 ((sh_le (by omega) (by omega)).mpr y)
        omega
      refine ⟨k1.1.1, ?_⟩
      intro σ75 e75 σ76 e76
      have fW : FrW (z + 36) σ2 σ76 := by rw [e76, e75]; exact (frW_0 (by omega)).tr (frW_0 (by omega))
      have t76 : stT (z + 36) T σ76 := k2.fr (by rw [e76, e75, gI_sI_nk (by decide), gI_sI_nk (by decide)]) (fun j => by rw [e76, e75, gI_sI_ne (by omega), gI_sI_ne (by omega)])
      refine M_goPair (T := T) (N := n + 1) (lo := l) (tp := hh + 12) (dd := dd) (k1.frW fW t76 (by omega)) hW (by omega) hlt (by omega) (by rw [e76, gI_sI_nk (by decide), e75, gI_sI_eq]) (by rw [e76, gI_sI_eq]; exact sh_n hh) hX hd t76 (by omega) (by omega) (fun σ3 hH => ?_)
      obtain ⟨k, pl, f, m1, m2, m3, m4, m5, m6, m7, m8, m9⟩ := hH
      have c0 := hC l (hh + 12)
      have fin : ∀ (s : Nat × Nat × Nat), s = bIn (cP A b X dd) (hh + 12) (bOut (cP A b X dd) hh) (l + 1) → ∀ (y5 : Int64) (y7 y8 : Int32), y5 = lN s.1 → y7 = sh s.2.1 → y8 = sh s.2.2 → s.1 ≤ 73265039888506200 → ∀ y10 : Int32, y10 = sh l + 1 → ∃ m62 : Nat, m62 < hh + 12 - l ∧ ∃ l T, l ≤ hh + 12 ∧ y10 = sh l ∧ m62 = hh + 12 - l ∧ RM (z + 36) (n + 1) σ3 A ∧ stT (z + 36) T σ3 ∧ T ≤ 2000 * n + 6 * (24 * hh + l) ∧ MB (z + 36) σ3 A b dd hh l (bIn (cP A b X dd) (hh + 12) (bOut (cP A b X dd) hh) l) y5 y7 y8 ∧ FrW (z + 36) σ σ3 := by
        rintro s hs y5 y7 y8 u1 u2 u3 u4 y10 rfl
        refine ⟨hh + 12 - (l + 1), by omega, l + 1, T + dd, by omega, sh_add l 1, rfl, m1, m2, by omega, ?_, (k5.tr fW).tr m9⟩
        rw [← hs]
        exact Or.inr ⟨u1, u2, u3, u4, m6⟩
      rcases k4 with ⟨e1, e2, e3, e4, e5, e6⟩ | ⟨e1, e2, e3, e4, e5⟩
      · subst e3
        refine ⟨fun _ => ⟨m1.1.1, ?_⟩, fun q3 => absurd (by decide) q3⟩
        rintro _ rfl
        rw [m5]
        refine fin (cP A b X dd l (hh + 12), l, hh + 12) ?_ _ _ _ rfl rfl (sh_n hh) c0
        rw [bIn_s, e6, if_pos (by show cP A b X dd l (hh + 12) < 4611686018427387904; omega)]
      · subst e1
        refine ⟨fun q3 => ?_, fun _ => ⟨m1.1.1, ?_⟩⟩
        · have := (pk_lLT (b := 0) (by omega) (by omega)).mp q3
          omega
        rw [m5]
        refine ⟨fun q3 => ?_, fun q3 => ?_⟩
        · have a := (pk_lLE (by omega) (by show cP A b X dd l (hh + 12) < _; omega)).mp q3
          refine fin _ ?_ _ _ _ rfl e2 e3 e4
          rw [bIn_s, if_neg]
          show ¬ vC A b (oP l (hh + 12)) X dd < _
          omega
        · have a : ¬ (bIn (cP A b X dd) (hh + 12) (bOut (cP A b X dd) hh) l).1 ≤ vC A b (oP l (hh + 12)) X dd := fun y => q3 ((pk_lLE (by omega) (by show cP A b X dd l (hh + 12) < _; omega)).mpr y)
          rintro _ rfl
          refine fin (cP A b X dd l (hh + 12), l, hh + 12) ?_ _ _ _ rfl rfl (sh_n hh) c0
          rw [bIn_s, if_pos]
          show vC A b (oP l (hh + 12)) X dd < _
          omega
end BP
