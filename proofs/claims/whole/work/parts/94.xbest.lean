/-! The best that can be done: the class. -/
def cMx (A : Ab) : Nat := if A.1 18 0 = 2 then 12 else 0
def VQ (A : Ab) (q : Nat) : Prop := flN A ≤ q % 25 ∧ q % 25 ≤ moN A + 12 ∧ q / 25 ≤ cMx A
theorem cMx_le (A : Ab) : cMx A ≤ 12 := by unfold cMx; split <;> omega
theorem VQ.lt {A : Ab} {q : Nat} (h : VQ A q) : q < 325 := by
  have := cMx_le A
  have := h.2.2
  omega
theorem nB_v {A : Ab} (hW : WF A) {h c a : Nat} (ha : a ≤ 12) (d : Nat) : VQ A (nB A h c a d) := by
  obtain ⟨e1, e2⟩ := nB_m hW h c a d
  have fl := fl_12 A
  have hf : flN A ≤ lfN A (xB A h a) d := by unfold lfN; omega
  refine ⟨by rw [e1]; omega, by rw [e1]; omega, ?_⟩
  rw [e2]
  unfold ncB cMx
  split <;> omega
def cfP (nb lb : Nat) : Prop := (nb = 32 ∧ lb = 33) ∨ (nb = 33 ∧ lb = 32)
/-- what the planner knows of the later days -/
def PB (z : Nat) (σ : Me) (A : Ab) (b nb lb : Nat) (U : Nat → Nat) : Prop := RC z σ A ∧ PR z σ A b 25 ∧ spX z σ ∧ cfP nb lb ∧ gP σ (z + 31) 1 = some (z + nb) ∧ gP σ (z + 31) 2 = some (z + lb) ∧ ∀ q, VQ A q → gL σ (z + lb) q = lN (U q)
theorem P_tag {z : Nat} {σ : Me} {A : Ab} (h : RC z σ A) : gT σ (z + 31) = 4 ∧ gP σ (z + 31) 0 = some (z + 9) ∧ gT σ (z + 9) = 6 ∧ (gT σ (z + 32) = 21 ∧ gN σ (z + 32) = 325) ∧ (gT σ (z + 33) = 21 ∧ gN σ (z + 33) = 325) := ⟨(h.1.tg (31, 4, 0) (by decide)).1, h.1.rf (31, 0, 9) (by decide), (h.1.tg (9, 6, 0) (by decide)).1, h.1.tg (32, 21, 325) (by decide), h.1.tg (33, 21, 325) (by decide)⟩
theorem P_row {z : Nat} {σ : Me} {A : Ab} (h : RC z σ A) {nb lb : Nat} (hc : cfP nb lb) : (gT σ (z + nb) = 21 ∧ gN σ (z + nb) = 325) ∧ (gT σ (z + lb) = 21 ∧ gN σ (z + lb) = 325) ∧ nb ≠ lb ∧ (32 ≤ nb ∧ nb ≤ 33) ∧ (32 ≤ lb ∧ lb ≤ 33) := by
  obtain ⟨-, -, -, h1, h2⟩ := P_tag h
  rcases hc with ⟨rfl, rfl⟩ | ⟨rfl, rfl⟩
  · exact ⟨h1, h2, by omega, by omega, by omega⟩
  · exact ⟨h2, h1, by omega, by omega, by omega⟩
section PX
variable {z : Nat} {σ : Me} {A : Ab}
theorem C_priceOf (hW : WF A) {b nb lb : Nat} (hb : b < 4) {U : Nat → Nat} (hP : PB z σ A b nb lb U) {t : Nat} (h3 : gL σ (z + 31) 3 = lN (WN A b ^ (t + 1))) (h4 : gL σ (z + 31) 4 = lN (WN A b ^ t)) {h c a : Nat} (hh : h ≤ 24) (hc : c ≤ 12) (ha : a ≤ 12) {Q : Int64 → Me → Prop} (hQ : Q (lN (FB A b U t h c a)) σ) : pX4_priceOf σ (z + 31) (z + (15 + 2 * b)) (sh h) (nI c) (nI a) Q := by
  obtain ⟨p1, p2, p3, p4, p5, p6, p7⟩ := hP
  obtain ⟨t1, t2, t3, -⟩ := P_tag p1
  obtain ⟨-, r2, -, r4, r5⟩ := P_row p1 p4
  obtain ⟨s, s0, s1, s2, -⟩ := C_shop p1 hW
  have hx := xB_le hW hh a
  have op := op_le hW ha
  have pc := pc_le hW hb hx
  refine ⟨t1, z + 9, t2, t3, fun σ7 v => σ7 = σ ∧ v = sh (xB A h a), ?_, fun q => ?_, fun q => ?_⟩
  rotate_left
  · rw [s1] at q
    refine C_filled p1 hW (by omega) (by omega) ⟨rfl, ?_⟩
    unfold xB
    rw [if_pos q]
  · rw [s1] at q
    refine ⟨rfl, ?_⟩
    unfold xB
    rw [if_neg q]
  rintro σ7 v ⟨es, rfl⟩
  rw [es]
  refine ⟨t1, z + 9, t2, t3, ?_⟩
  rw [s1]
  intro v12 e12 v14 e14
  have e12' : v12 = nI (caB A c a) := by
    rw [e12]
    unfold caB
    split
    · rfl
    · split <;> rfl
  have e14' : v14 = nI (ncB A a) := by
    rw [e14]
    unfold ncB
    split <;> rfl
  clear e12 e14
  subst e12' e14'
  have cb : caB A c a ≤ 12 := by
    unfold caB
    split
    · omega
    · split <;> omega
  have nb12 : ncB A a ≤ 12 := by unfold ncB; split <;> omega
  refine C_orderPrice p1 hW ha ⟨t1, z + 9, t2, t3, (C_from p1 hW p2 hx).1 _ ⟨t1, ?_⟩⟩
  rw [h3, h4, nI_l (by omega), nI_l (by omega), lN_mul, lN_mul, lN_add]
  rintro _ rfl
  refine ⟨fun nn σ1 x8 w => ∃ e, e ≤ 7 ∧ w = nI e ∧ nn = 7 - e ∧ σ1 = σ ∧ x8 = lN (opN A a * WN A b ^ (t + 1) + pcN A b (xB A h a) 7 * WN A b ^ t + sumN (fun d => wN A b d * U (nB A h c a d)) e), ?_, 7, 0, by omega, rfl, rfl, rfl, rfl⟩
  rintro nn σ1 x8 w ⟨e, he, rfl, rfl, es1, rfl⟩
  rw [es1]
  refine ⟨fun q => ?_, fun q => ⟨(C_book1 p1 hb).1, ?_⟩⟩
  · have : e = 7 := by
      have := (nI_leI (a := 7) (by omega) (by omega)).mp q
      omega
    subst this
    exact hQ
  · have he7 : e < 7 := by
      have : ¬ 7 ≤ e := fun x => q ((nI_leI (a := 7) (by omega) (by omega)).mpr x)
      omega
    have we := wN_eq hW hb he7
    have su : sumN (fun d => wN A b d * U (nB A h c a d)) (e + 1) = sumN (fun d => wN A b d * U (nB A h c a d)) e + wN A b e * U (nB A h c a e) := rfl
    refine C_weightOf p1 hb he7 ?_
    rw [we.1]
    refine ⟨fun q2 => ?_, fun q2 => ⟨t1, z + 9, t2, t3, C_leftOf p1 hW (by omega) (by omega) ⟨t3, ?_⟩⟩⟩
    · have w0 : wN A b e = 0 := by
        have := (nI_leI (b := 0) (by omega) (by omega)).mp q2
        omega
      rintro _ rfl
      refine ⟨7 - (e + 1), by omega, e + 1, by omega, sc1 e, rfl, rfl, ?_⟩
      have su0 : sumN (fun d => wN A b d * U (nB A h c a d)) (e + 1) = sumN (fun d => wN A b d * U (nB A h c a d)) e := by
        rw [su, w0, Nat.zero_mul, Nat.add_zero]
      rw [su0]
    · have lf : lfN A (xB A h a) e ≤ 24 := by
        have := fl_12 A
        unfold lfN
        omega
      refine C_filled p1 hW (by omega) (by omega) ?_
      show gT σ (z + 31) = 4 ∧ pX4_laterAt σ (z + 31) _ _
      have ep : nI (ncB A a) * (25 : Int32) + sh (min (lfN A (xB A h a) e + caB A c a) (moN A + 12)) - (-12 : Int32) = nI (nB A h c a e) := by
        rw [show (25 : Int32) = nI 25 by decide, pk_mul, Int32.add_comm, sh_add, sh_back]
        unfold nB
        rw [Nat.add_comm]
      rw [ep]
      have vq := nB_v hW (h := h) (c := c) ha e
      have ql := vq.lt
      refine ⟨t1, fun q3 => ?_, fun _ => ⟨t1, z + lb, p6, r2.1, ?_⟩⟩
      · have := (nI_ltI (b := 0) (by omega) (by omega)).mp q3
        omega
      rw [r2.2]
      refine ⟨fun q3 => ?_, fun _ => ⟨vp_in_nI ql (by omega), ?_⟩⟩
      · have := (nI_leI (by omega) (by omega)).mp q3
        omega
      rw [nI_clamp (show nB A h c a e < 2 ^ 31 by omega), p7 _ vq]
      intro x8 e8
      rw [nI_l (show wN A b e < 2 ^ 31 by omega), lN_mul, lN_add] at e8
      rintro _ rfl
      refine ⟨7 - (e + 1), by omega, e + 1, by omega, sc1 e, rfl, rfl, e8.trans ?_⟩
      rw [su, Nat.add_assoc]
/-- only the planner's own fields have changed -/
def FP (z : Nat) (σ σ' : Me) : Prop := gz σ' = gz σ ∧ (∀ q, q ≠ z + 31 → sameC σ σ' q) ∧ (∀ j, gP σ' (z + 31) j = gP σ (z + 31) j) ∧ gT σ' (z + 31) = gT σ (z + 31)
theorem FP.tr {σ' σ'' : Me} (h : FP z σ σ') (h' : FP z σ' σ'') : FP z σ σ'' := ⟨h'.1.trans h.1, fun q hq => (h.2.1 q hq).tr (h'.2.1 q hq), fun j => (h'.2.2.1 j).trans (h.2.2.1 j), h'.2.2.2.trans h.2.2.2⟩
theorem fP_L (j : Nat) (v : Int64) : FP z σ (sL σ (z + 31) j v) := ⟨rfl, fun q hq => .sL hq, fun _ => rfl, rfl⟩
theorem fP_I (j : Nat) (v : Int32) : FP z σ (sI σ (z + 31) j v) := ⟨rfl, fun q hq => .sI hq, fun _ => rfl, rfl⟩
theorem FP.S {σ' : Me} (h : FP z σ σ') : FrS z σ σ' := ⟨h.1, fun q hq => h.2.1 q (fun e => hq 31 e (by unfold scr; omega))⟩
theorem pB_L {b nb lb : Nat} {U : Nat → Nat} (h : PB z σ A b nb lb U) (j : Nat) (v : Int64) : PB z (sL σ (z + 31) j v) A b nb lb U := by
  obtain ⟨p1, p2, p3, p4, p5, p6, p7⟩ := h
  have r := P_row p1 p4
  exact ⟨p1, p2, p3.same (fun o _ _ => .sL (by omega)), p4, p5, p6, fun q hq => by rw [gL_sL_ne (by omega)]; exact p7 q hq⟩
theorem pB_I {b nb lb : Nat} {U : Nat → Nat} (h : PB z σ A b nb lb U) (j : Nat) (v : Int32) : PB z (sI σ (z + 31) j v) A b nb lb U := by
  obtain ⟨p1, p2, p3, p4, p5, p6, p7⟩ := h
  exact ⟨p1.sI (o := 31) (by unfold scr; omega) v, fun i hi => by
    rw [gI_sI_ne (by omega), gI_sI_ne (by omega), gI_sI_ne (by omega)]
    exact p2 i hi, p3.same (fun o _ _ => .sI (by omega)), p4, p5, p6, p7⟩
theorem C_choose (hW : WF A) {b nb lb : Nat} (hb : b < 4) {U : Nat → Nat} (hP : PB z σ A b nb lb U) {t : Nat} (h5 : t ≤ 5) (hU : ∀ q, U q ≤ 3100 * t * 63 ^ t) (h3 : gL σ (z + 31) 3 = lN (WN A b ^ (t + 1))) (h4 : gL σ (z + 31) 4 = lN (WN A b ^ t)) {h c n : Nat} (hh : h ≤ 24) (hc : c ≤ 12) (hn : n ≤ 12) {Q : Me → Prop} (hQ : ∀ σ', PB z σ' A b nb lb U → gL σ' (z + 31) 3 = lN (WN A b ^ (t + 1)) → gL σ' (z + 31) 4 = lN (WN A b ^ t) → gL σ' (z + 31) 5 = lN (mnA (FB A b U t h c) n).1 → gI σ' (z + 31) 6 = nI (mnA (FB A b U t h c) n).2 → FP z σ σ' → Q σ') : pX4_choose σ (z + 31) (z + (15 + 2 * b)) (sh h) (nI c) (nI n) Q := by
  have fb : ∀ a, a ≤ 12 → FB A b U t h c a ≤ 1162937141087400 := fun a ha => b6 (t := t + 1) (FB_le hW hb hh ha hU (Nat.le_refl _)) (by omega)
  have mb : ∀ k, k ≤ 12 → (mnA (FB A b U t h c) k).1 ≤ 1162937141087400 := fun k hk => (mnA_le k (fun a ha => fb a (by omega))).1
  have t1 := (P_tag hP.1).1
  refine ⟨t1, C_priceOf (a := 0) hW hb hP h3 h4 hh hc (by omega) ⟨t1, ?_⟩⟩
  rintro _ rfl _ rfl
  refine ⟨fun nn σ1 w => ∃ k, k ≤ n ∧ w = nI (k + 1) ∧ nn = n - k ∧ PB z σ1 A b nb lb U ∧ gL σ1 (z + 31) 3 = lN (WN A b ^ (t + 1)) ∧ gL σ1 (z + 31) 4 = lN (WN A b ^ t) ∧ gL σ1 (z + 31) 5 = lN (mnA (FB A b U t h c) k).1 ∧ gI σ1 (z + 31) 6 = nI (mnA (FB A b U t h c) k).2 ∧ FP z σ σ1, ?_, n, 0, by omega, rfl, rfl, pB_I (pB_L hP 5 _) 6 _, by rw [gL_sI, gL_sL_nk (by decide)]; exact h3, by rw [gL_sI, gL_sL_nk (by decide)]; exact h4, by rw [gL_sI, gL_sL_eq]; rfl, gI_sI_eq, (fP_L 5 _).tr (fP_I 6 _)⟩
  rintro nn σ1 w ⟨k, hk, rfl, rfl, g1, g2, g3, g4, g5, g6⟩
  have u1 := (P_tag g1.1).1
  refine ⟨fun q => ?_, fun q => ⟨u1, ?_⟩⟩
  · have : k = n := by
      have := (nI_ltI (by omega) (by omega)).mp q
      omega
    subst this
    exact hQ σ1 g1 g2 g3 g4 g5 g6
  · have hk2 : k + 1 ≤ n := by
      have : ¬ n < k + 1 := fun y => q ((nI_ltI (by omega) (by omega)).mpr y)
      omega
    have f1 := fb (k + 1) (by omega)
    have m1 := mb k (by omega)
    refine C_priceOf (a := k + 1) hW hb g1 g2 g3 hh hc (by omega) ⟨u1, ?_⟩
    rw [g4]
    refine ⟨fun q2 => ?_, fun q2 => ?_⟩
    · have q3 := (pk_lLE (by omega) (by omega)).mp q2
      rintro _ rfl
      refine ⟨n - (k + 1), by omega, k + 1, by omega, sc1 (k + 1), rfl, g1, g2, g3, ?_, ?_, g6⟩
      · rw [mnA_s, if_neg (by omega)]
        exact g4
      · rw [mnA_s, if_neg (by omega)]
        exact g5
    · have q3 : ¬ (mnA (FB A b U t h c) k).1 ≤ FB A b U t h c (k + 1) := fun y => q2 ((pk_lLE (by omega) (by omega)).mpr y)
      rintro _ rfl _ rfl _ rfl
      refine ⟨n - (k + 1), by omega, k + 1, by omega, sc1 (k + 1), rfl, pB_I (pB_L g1 5 _) 6 _, by rw [gL_sI, gL_sL_nk (by decide)]; exact g2, by rw [gL_sI, gL_sL_nk (by decide)]; exact g3, ?_, ?_, g6.tr ((fP_L 5 _).tr (fP_I 6 _))⟩
      · rw [gL_sI, gL_sL_eq, mnA_s, if_pos (by omega)]
      · rw [gI_sI_eq, mnA_s, if_pos (by omega)]
theorem C_turnTo (hW : WF A) {b nb lb : Nat} (hb : b < 4) {U : Nat → Nat} (hP : PB z σ A b nb lb U) {t : Nat} (ht : t ≤ 5) {Q : Me → Prop} (hQ : ∀ σ', PB z σ' A b nb lb U → gL σ' (z + 31) 3 = lN (WN A b ^ (t + 1)) → gL σ' (z + 31) 4 = lN (WN A b ^ t) → FP z σ σ' → Q σ') : pX4_turnTo σ (z + 31) (z + (15 + 2 * b)) (nI t) Q := by
  refine C_rowsOf hP.1 hW hb (by omega) ⟨(P_tag hP.1).1, ?_⟩
  rintro _ rfl
  have p1 := pB_L hP 4 (lN (WN A b ^ t))
  rw [sc1]
  refine C_rowsOf p1.1 hW hb (by omega) ⟨(P_tag p1.1).1, ?_⟩
  rintro _ rfl
  exact hQ _ (pB_L p1 3 _) gL_sL_eq (by rw [gL_sL_nk (by decide), gL_sL_eq]) ((fP_L 4 _).tr (fP_L 3 _))
theorem C_useful (hW : WF A) (h : RC z σ A) {t dd : Nat} (ht : t + 1 ≤ dd) (hd : dd ≤ 6) {Q : Int32 → Me → Prop} (hQ : Q (nI (usB A t)) σ) : pX4_usefulOrder σ (z + 31) (nI (dd - t)) (nI dd) Q := by
  obtain ⟨t1, t2, t3, -⟩ := P_tag h
  obtain ⟨s, s0, s1, s2, -⟩ := C_shop h hW
  have l2 := hW.le
  refine ⟨t1, z + 9, t2, t3, ?_⟩
  rw [s1, l2.1, nI_add]
  rintro _ rfl
  unfold usB at hQ
  by_cases c : leN A < t + 1
  · rw [if_pos c] at hQ
    rw [if_neg (show ¬ nI dd < nI (dd - t + leN A) from fun y => by have := (nI_ltI (by omega) (by omega)).mp y; omega)]
    exact hQ
  · rw [if_neg c] at hQ
    rw [if_pos (show nI dd < nI (dd - t + leN A) from nI_lt (by omega) (by omega))]
    exact hQ
end PX
