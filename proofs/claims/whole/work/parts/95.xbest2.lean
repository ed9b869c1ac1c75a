theorem nI_m1 {k : Nat} (h : 1 ≤ k) : nI k + (-1) = nI (k - 1) := by
  rw [iI_n, show (-1 : Int32) = iI (-1) by decide, iI_add, iI_n]
  congr 1
  omega
section PY
variable {z : Nat} {σ : Me} {A : Ab}
theorem rf31 : ∀ q ∈ rfX, q.1 = 31 → q.2.1 = 0 := by decide
theorem rc_P31 (h : RC z σ A) {j : Nat} (hj : j = 1 ∨ j = 2) (v : Option Nat) : RC z (sP σ (z + 31) j v) A := by
  refine ⟨⟨h.1.1, fun q hq => ?_, h.1.2.2⟩, h.2⟩
  rw [gP_sP, if_neg]
  · exact h.1.2.1 q hq
  · rintro ⟨e1, e2⟩
    have := rf31 q hq (by omega)
    omega
theorem pB_now {b nb lb : Nat} {U : Nat → Nat} (h : PB z σ A b nb lb U) (j : Nat) (v : Int64) : PB z (sL σ (z + nb) j v) A b nb lb U := by
  obtain ⟨p1, p2, p3, p4, p5, p6, p7⟩ := h
  have r := P_row p1 p4
  exact ⟨p1, p2, p3.same (fun o _ _ => .sL (by omega)), p4, p5, p6, fun q hq => by rw [gL_sL_ne (by omega)]; exact p7 q hq⟩
theorem pl_e (c m : Nat) : nI c * (25 : Int32) + sh m - (-12 : Int32) = nI (c * 25 + m) := by
  rw [show (25 : Int32) = nI 25 by decide, pk_mul, Int32.add_comm, sh_add, sh_back, Nat.add_comm]
def prQ (c h q : Nat) : Prop := q / 25 < c ∨ (q / 25 = c ∧ q % 25 < h)
def PD (z : Nat) (σ0 σ : Me) (A : Ab) (b nb lb t c h : Nat) : Prop := PB z σ A b nb lb (UB A b t) ∧ gL σ (z + 31) 3 = lN (WN A b ^ (t + 1)) ∧ gL σ (z + 31) 4 = lN (WN A b ^ t) ∧ (∀ q, VQ A q → prQ c h q → gL σ (z + nb) q = lN (UB A b (t + 1) q)) ∧ FrS z σ0 σ
theorem PD.up {σ0 : Me} {b nb lb t c h c' h' : Nat} (k : PD z σ0 σ A b nb lb t c h) (hp : ∀ q, VQ A q → prQ c' h' q → prQ c h q) : PD z σ0 σ A b nb lb t c' h' := ⟨k.1, k.2.1, k.2.2.1, fun q h1 h2 => k.2.2.2.1 q h1 (hp q h1 h2), k.2.2.2.2⟩
set_option maxHeartbeats 1000000 in
theorem C_planDay (hW : WF A) {b nb lb : Nat} (hb : b < 4) {t : Nat} (ht : t ≤ 5) (hP : PB z σ A b nb lb (UB A b t)) (h3 : gL σ (z + 31) 3 = lN (WN A b ^ (t + 1))) (h4 : gL σ (z + 31) 4 = lN (WN A b ^ t)) {Q : Me → Prop} (hQ : ∀ σ', PB z σ' A b lb nb (UB A b (t + 1)) → FrS z σ σ' → Q σ') : pX4_planDay σ (z + 31) (z + (15 + 2 * b)) (nI (usB A t)) Q := by
  obtain ⟨t1, t2, t3, -⟩ := P_tag hP.1
  obtain ⟨s, s0, s1, s2, -⟩ := C_shop hP.1 hW
  have mo := hW.mo
  have fl := fl_12 A
  have cm := cMx_le A
  have us := usB_le A t
  refine ⟨t1, z + 9, t2, t3, ?_⟩
  rw [s1]
  intro v4 e4
  have e4' : v4 = nI (cMx A) := by
    rw [e4]
    unfold cMx
    split <;> rfl
  clear e4
  subst e4'
  refine ⟨fun nn σ1 w => ∃ c, c ≤ cMx A + 1 ∧ w = nI c ∧ nn = cMx A + 1 - c ∧ PD z σ σ1 A b nb lb t c 0, ?_, cMx A + 1, 0, by omega, rfl, rfl, hP, h3, h4, fun q _ hp => by unfold prQ at hp; omega, .rf⟩
  rintro nn σ1 w ⟨c, hc, rfl, rfl, k1⟩
  obtain ⟨p1, p2, p3, p4, p5, p6, p7⟩ := k1.1
  obtain ⟨u1, u2, u3, -⟩ := P_tag p1
  have r := P_row p1 p4
  refine ⟨fun q => ⟨u1, z + nb, p5, z + lb, p6, ?_⟩, fun q => ⟨u1, z + 9, u2, u3, C_floor p1 hW ?_⟩⟩
  · have ec : c = cMx A + 1 := by
      have := (nI_ltI (by omega) (by omega)).mp q
      omega
    subst ec
    rintro _ rfl _ rfl
    refine hQ _ ⟨rc_P31 (rc_P31 p1 (by omega) _) (by omega) _, p2, p3.same (fun o _ _ => .tr (.sP (by omega)) (.sP (by omega))), p4.symm.imp (fun y => ⟨y.2, y.1⟩) (fun y => ⟨y.2, y.1⟩), ?_, ?_, fun q hq => ?_⟩ (k1.2.2.2.2.tr ((FrS.sP (o := 31) (by unfold scr; omega) _).tr (FrS.sP (o := 31) (by unfold scr; omega) _)))
    · rw [gP_sP, if_neg (by omega), gP_sP, if_pos (by omega)]
    · rw [gP_sP, if_pos (by omega)]
    · exact k1.2.2.2.1 q hq (Or.inl (by have := hq.2.2; omega))
  · have hc2 : c ≤ cMx A := by
      have : ¬ cMx A < c := fun y => q ((nI_ltI (by omega) (by omega)).mpr y)
      omega
    refine ⟨fun nn σ2 w => ∃ h, flN A ≤ h ∧ h ≤ moN A + 13 ∧ w = sh h ∧ nn = moN A + 13 - h ∧ PD z σ σ2 A b nb lb t c h, ?_, moN A + 13 - flN A, flN A, by omega, by omega, rfl, rfl, k1.up (fun q h1 h2 => ?_)⟩
    rotate_left
    · have := h1.1
      unfold prQ at h2 ⊢
      omega
    rintro nn σ2 w ⟨h, hh1, hh2, rfl, rfl, k2⟩
    obtain ⟨x1, x2, x3, -⟩ := P_tag k2.1.1
    obtain ⟨y, y0, -⟩ := C_shop k2.1.1 hW
    refine ⟨x1, z + 9, x2, x3, ?_⟩
    rw [y0, sh_n]
    refine ⟨fun q2 => ?_, fun q2 => ?_⟩
    · have eh : h = moN A + 13 := by
        have := (sh_lt (by omega) (by omega)).mp q2
        omega
      subst eh
      rintro _ rfl
      refine ⟨cMx A + 1 - (c + 1), by omega, c + 1, by omega, sc1 c, rfl, k2.up (fun q h1 h2 => ?_)⟩
      have := h1.2.1
      unfold prQ at h2 ⊢
      omega
    · have hh3 : h ≤ moN A + 12 := by
        have : ¬ moN A + 12 < h := fun y => q2 ((sh_lt (by omega) (by omega)).mpr y)
        omega
      refine C_choose hW hb k2.1 ht (UB_le hW hb t) k2.2.1 k2.2.2.1 (by omega) (by omega) us (fun σ3 z1 z2 z3 z4 z5 z6 => ?_)
      have q1 : (c * 25 + h) % 25 = h := by omega
      have q2' : (c * 25 + h) / 25 = c := by omega
      obtain ⟨w1, w2, w3, -⟩ := P_tag z1.1
      have r3 := P_row z1.1 z1.2.2.2.1
      show (_ → _) ∧ (_ → _)
      rw [pl_e]
      refine ⟨fun q3 => ?_, fun _ => ⟨w1, z + nb, z1.2.2.2.2.1, r3.1.1, ?_⟩⟩
      · have := (nI_ltI (b := 0) (by omega) (by omega)).mp q3
        omega
      rw [r3.1.2]
      refine ⟨fun q3 => ?_, fun _ => ⟨vp_in_nI (by omega) (by omega), ?_⟩⟩
      · have := (nI_leI (by omega) (by omega)).mp q3
        omega
      rw [z4, nI_clamp (show c * 25 + h < 2 ^ 31 by omega)]
      rintro _ rfl _ rfl
      refine ⟨moN A + 13 - (h + 1), by omega, h + 1, by omega, by omega, sh_add h 1, rfl, pB_now z1 _ _, by rw [gL_sL_ne (by omega)]; exact z2, by rw [gL_sL_ne (by omega)]; exact z3, fun q h1 h2 => ?_, (k2.2.2.2.2.tr z6.S).tr (FrS.sL (o := nb) (by unfold scr; omega) _)⟩
      by_cases e : q = c * 25 + h
      · rw [e, gL_sL_eq, UB_s, q1, q2']
      · rw [gL_sL_nk e, (z6.2.1 (z + nb) (by omega)).2.2.2.1]
        refine k2.2.2.2.1 q h1 ?_
        unfold prQ at h2 ⊢
        have : q / 25 = c → q % 25 = h → False := fun e1 e2 => e (by omega)
        omega
set_option maxHeartbeats 1000000 in
theorem C_plan (hW : WF A) {b nb lb : Nat} (hb : b < 4) (i1 : RC z σ A) (i2 : PR z σ A b 25) (i3 : spX z σ) (i4 : cfP nb lb) (i5 : gP σ (z + 31) 1 = some (z + nb)) (i6 : gP σ (z + 31) 2 = some (z + lb)) {X dd : Nat} (hX : X ≤ 24) (h1 : 1 ≤ dd) (hd : dd ≤ 6) {Q : Me → Prop} (hQ : ∀ σ' nb' lb' U', PB z σ' A b nb' lb' U' → gL σ' (z + 31) 5 = lN (bestT A b X dd).1 → gI σ' (z + 31) 6 = nI (bestT A b X dd).2 → FrS z σ σ' → Q σ') : pX4_plan σ (z + 31) (z + (15 + 2 * b)) (sh X) (nI dd) Q := by
  have r0 := P_row i1 i4
  refine ⟨fun nn σ1 w => ∃ j, j ≤ 325 ∧ w = nI j ∧ nn = 325 - j ∧ RC z σ1 A ∧ PR z σ1 A b 25 ∧ spX z σ1 ∧ gP σ1 (z + 31) 1 = some (z + nb) ∧ gP σ1 (z + 31) 2 = some (z + lb) ∧ (∀ i, i < j → gL σ1 (z + lb) i = 0) ∧ FrS z σ σ1, ?_, 325, 0, by omega, rfl, rfl, i1, i2, i3, i5, i6, fun i hi => by omega, .rf⟩
  rintro nn σ1 w ⟨j, hj, rfl, rfl, g1, g2, g3, g4, g5, g6, g7⟩
  have t1 := (P_tag g1).1
  have r1 := P_row g1 i4
  refine ⟨t1, z + lb, g5, r1.2.1.1, ?_⟩
  rw [r1.2.1.2]
  refine ⟨fun q => ?_, fun q => ?_⟩
  rotate_left
  · have hj2 : j < 325 := by
      have : ¬ 325 ≤ j := fun y => q ((nI_leI (by omega) (by omega)).mpr y)
      omega
    refine ⟨vp_in_nI hj2 (by omega), ?_⟩
    rintro _ rfl _ rfl
    rw [nI_clamp (by omega)]
    refine ⟨325 - (j + 1), by omega, j + 1, by omega, sc1 j, rfl, g1, g2, g3.same (fun o _ _ => .sL (by omega)), g4, g5, fun i hi => ?_, g7.tr (FrS.sL (o := lb) (by unfold scr; omega) _)⟩
    by_cases c : i = j
    · rw [c, gL_sL_eq]
    · rw [gL_sL_nk c]
      exact g6 i (by omega)
  have ej : j = 325 := by
    have := (nI_leI (by omega) (by omega)).mp q
    omega
  subst ej
  refine ⟨fun nn σ2 w => ∃ t nb lb, t + 1 ≤ dd ∧ w = nI (dd - t) ∧ nn = dd - t ∧ PB z σ2 A b nb lb (UB A b t) ∧ FrS z σ σ2, ?_, dd, 0, nb, lb, by omega, rfl, rfl, ⟨g1, g2, g3, i4, g4, g5, fun q hq => by rw [g6 q hq.lt, UB_0]; rfl⟩, g7⟩
  clear g1 g2 g3 g4 g5 g6 g7 t1 r1 q
  rintro nn σ2 w ⟨t, nb, lb, htd, rfl, rfl, k1, k2⟩
  have u1 := (P_tag k1.1).1
  refine ⟨fun q => ⟨u1, ?_⟩, fun q => ⟨u1, ?_⟩⟩
  · have et : t = dd - 1 := by
      have := (nI_leI (b := 1) (by omega) (by omega)).mp q
      omega
    subst et
    rw [show (1 : Int32) = nI 1 by decide, nI_sb h1]
    refine C_turnTo hW hb k1 (by omega) (fun σ3 y1 y2 y3 y4 => ⟨(P_tag y1.1).1, ?_⟩)
    have key := C_useful (t := dd - 1) (dd := dd) hW y1.1 (by omega) hd (Q := fun r28 σ29 => gT σ29 (z + 31) = 4 ∧ pX4_choose σ29 (z + 31) (z + (15 + 2 * b)) (sh X) ((0 : Int32)) r28 (fun σ32 => Q σ32)) ⟨(P_tag y1.1).1, C_choose (c := 0) hW hb y1 (by omega) (UB_le hW hb _) y2 y3 hX (by omega) (usB_le A _) (fun σ4 z1 z2 z3 z4 z5 z6 => hQ σ4 nb lb _ z1 z4 z5 ((k2.tr y4.S).tr z6.S))⟩
    rw [show dd - (dd - 1) = 1 by omega] at key
    exact key
  · have ht2 : t + 2 ≤ dd := by
      have : ¬ dd - t ≤ 1 := fun y => q (nI_le (b := 1) y (by omega))
      omega
    rw [nI_sb (by omega), show dd - (dd - t) = t by omega]
    refine C_turnTo hW hb k1 (by omega) (fun σ3 y1 y2 y3 y4 => ⟨(P_tag y1.1).1, C_useful hW y1.1 htd hd ⟨(P_tag y1.1).1, C_planDay hW hb (by omega) y1 y2 y3 (fun σ4 z1 z2 => ?_)⟩⟩)
    rintro _ rfl
    refine ⟨dd - (t + 1), by omega, t + 1, lb, nb, by omega, ?_, rfl, z1, (k2.tr y4.S).tr z2⟩
    rw [nI_m1 (by omega)]
    rfl
theorem X_tellF (h : RX z σ A) {u l : Nat} (hu : u < 2 ^ 63) (hl : l < 2 ^ 63) (h0 : 0 < l) {Q : Int32 → Me → Prop} (hQ : ∀ σ', RX z σ' (sTell A u l) → frM z σ σ' → (∀ q, q ≠ z → sameC σ σ' q) → Q 1 σ') : pX11_tell σ z (lN u) (lN l) Q := by
  have hg : 0 < Nat.gcd u l := Nat.gcd_pos_of_pos_right u h0
  have hgl : Nat.gcd u l ≤ l := Nat.le_of_dvd h0 (Nat.gcd_dvd_right u l)
  have ne : ¬ lN (Nat.gcd u l) = 0 := fun e => by
    have := (pk_lEQ (b := 0) (show Nat.gcd u l < 2 ^ 63 by omega) (by omega)).mp e
    omega
  refine X_common hu hl ⟨fun q => ?_, fun _ => ⟨fun _ => ⟨ne, X_tag h, ?_⟩, fun q => ?_⟩⟩
  · have := (pk_lLE (b := 0) hl (by omega)).mp q
    omega
  · rintro _ rfl
    refine ⟨ne, ?_⟩
    rintro _ rfl
    rw [pk_lDiv hu hg (by omega), pk_lDiv hl hg (by omega)]
    exact hQ _ (h.tell _ _) ((frM.sL (by omega)).tr (.sL (by omega))) (fun q hq => .tr (.sL hq) (.sL hq))
  · exact absurd ((pk_lLT (a := 0) (by omega) (show Nat.gcd u l < 2 ^ 63 by omega)).mpr hg) q
theorem X_best (h : RX z σ A) (hW : WF A) {b x d : Int32} {Q : Int32 → Me → Prop} (hQ : ∀ σ', RX z σ' (sBest A b x d).2 → frM z σ σ' → Q (sBest A b x d).1 σ') : pX11_best σ z b x d Q := by
  unfold sBest sNB at hQ
  refine ⟨X_tag h, X_isStart h hW (fun h1 => ⟨fun q => absurd q (by decide), fun _ => ⟨X_tag h, ?_⟩⟩) (fun h1 => ⟨fun _ => by rw [if_neg h1] at hQ; exact hQ _ h .rf, fun q => absurd rfl q⟩)⟩
  rw [if_pos h1] at hQ
  obtain ⟨b, hb4, rfl⟩ := i3 h1.1
  obtain ⟨dd, hd1, hd, rfl⟩ := i1_6 h1.2.2
  obtain ⟨ex, -, -, hX⟩ := x_sh hW h1.2.1
  rw [ixn (show b < 2 ^ 31 by omega), ixn (show dd < 2 ^ 31 by omega)] at hQ
  generalize stX x = X at *
  subst ex
  have hb : b < 4 := by omega
  have k0 := C_bk h.rc hb
  have w0 := C_wk h.rc
  refine ⟨_, k0.1, k0.2.1, k0.2.2.1, _, k0.2.2.2, X_lack3 h hb (fun y => ⟨fun q => absurd q (by decide), fun _ => ⟨X_tag h, ?_⟩⟩) (fun y y2 => ⟨fun q => absurd q (by decide), fun _ => ⟨X_tag h, ?_⟩⟩) (fun y y2 => ⟨fun _ => ⟨X_tag h, _, w0.2.2.1, _, k0.1, k0.2.1, k0.2.2.1, _, k0.2.2.2, w0.2.2.2, ?_⟩, fun q => absurd rfl q⟩)⟩
  · rw [if_pos y] at hQ
    exact X_fnd h (by omega) (by omega) hQ
  · rw [if_neg y, if_pos y2] at hQ
    exact X_fnd h (by omega) (by omega) hQ
  · rw [if_neg y, if_neg y2] at hQ
    have hw := WN_pos hW hb y2
    have b4 := pow_le63 (WN_le hW hb) hd
    have b5 := best_le hW hb hX hd1 hd
    refine C_reckon h.rc hW hb (fun σ1 h1 h2 h3 => ?_)
    have k1 := C_bk h1 hb
    have f1 : FrS z σ σ1 := h2.S (fun o h1 h2 => by unfold scr; omega)
    have hs1 : spX z σ1 := h.2.2.2.2.2.1.same (fun o _ _ => h2.2 _ (by omega))
    have hp1 : plX z σ1 := h.2.2.2.2.2.2.same (h2.2 _ (by omega))
    have go : ∀ nb lb, cfP nb lb → gP σ1 (z + 31) 1 = some (z + nb) → gP σ1 (z + 31) 2 = some (z + lb) → pX4_plan σ1 (z + 31) (z + (15 + 2 * b)) (sh X) (nI dd) (fun σ29 => gT σ29 z = 11 ∧ ∃ b32 : Nat, gP σ29 z 7 = some b32 ∧ gT σ29 b32 = 4 ∧ ∃ b34 : Nat, gP σ29 z 0 = some b34 ∧ gT σ29 b34 = 24 ∧ vp_in (nI b) (gN σ29 b34) ∧ ∃ b37 : Nat, gP σ29 b34 (nI b).toNatClampNeg = some b37 ∧ pX11_rowsOf σ29 b37 (nI dd) (fun r38 σ39 => gT σ39 z = 11 ∧ pX11_tell σ39 z (gL σ29 b32 5) r38 (fun r40 σ41 => gT σ41 z = 11 ∧ ∃ b44 : Nat, gP σ41 z 7 = some b44 ∧ gT σ41 b44 = 4 ∧ Q (gI σ41 b44 6) σ41))) := by
      intro nb lb hc g1 g2
      refine C_plan hW hb h1 h3 hs1 hc g1 g2 hX hd1 hd (fun σ2 nb' lb' U' z1 z2 z3 z4 => ?_)
      have hp2 : plX z σ2 := by
        rcases z1.2.2.2.1 with ⟨e1, e2⟩ | ⟨e1, e2⟩
        · rw [e1, e2] at z1
          exact Or.inl ⟨z1.2.2.2.2.1, z1.2.2.2.2.2.1⟩
        · rw [e1, e2] at z1
          exact Or.inr ⟨z1.2.2.2.2.1, z1.2.2.2.2.2.1⟩
      have hR := h.back (f1.tr z4) z1.1 z1.2.2.1 hp2
      have k2 := C_bk hR.rc hb
      have pt := P_tag hR.rc
      refine ⟨X_tag hR, z + 31, hR.1.rf (0, 7, 31) (by decide), pt.1, _, k2.1, k2.2.1, k2.2.2.1, _, k2.2.2.2, C_rowsOf hR.rc hW hb (by omega) ⟨X_tag hR, ?_⟩⟩
      rw [z2]
      refine X_tellF hR (by omega) (by omega) (Nat.pow_pos hw) (fun σ4 v1 v2 v3 => ⟨X_tag v1, z + 31, v1.1.rf (0, 7, 31) (by decide), (P_tag v1.rc).1, ?_⟩)
      rw [(v3 (z + 31) (by omega)).2.2.1, z3]
      exact hQ σ4 v1 ((f1.tr z4).frM.tr v2)
    refine ⟨C_tag h1, z + 31, h1.1.rf (0, 7, 31) (by decide), _, k1.1, k1.2.1, k1.2.2.1, _, k1.2.2.2, (P_tag h1).1, ?_⟩
    rcases hp1 with ⟨g1, g2⟩ | ⟨g1, g2⟩
    · exact go 32 33 (Or.inl ⟨rfl, rfl⟩) g1 g2
    · exact go 33 32 (Or.inr ⟨rfl, rfl⟩) g1 g2
end PY
