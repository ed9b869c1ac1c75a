/-! The best pair of marks: the class. -/
theorem oP_c {lo tp i : Nat} (h : lo < tp) (ht : tp < 100) (hi : i < 100) : (if (0 : Int32) < (if (if sh lo < sh i then (0 : Int32) else sh tp - sh i) < (12 : Int32) then (if sh lo < sh i then (0 : Int32) else sh tp - sh i) else (12 : Int32)) then (if (if sh lo < sh i then (0 : Int32) else sh tp - sh i) < (12 : Int32) then (if sh lo < sh i then (0 : Int32) else sh tp - sh i) else (12 : Int32)) else (0 : Int32)) = nI (oP lo tp i) := by
  unfold oP
  by_cases c : i ≤ lo
  · rw [if_neg (show ¬ sh lo < sh i from fun q => by have := (sh_lt (by omega) (by omega)).mp q; omega), if_pos c]
    have e : sh tp - sh i = nI (tp - i) := by
      unfold sh
      rw [iI_sub, iI_n]
      congr 1
      omega
    rw [e, show (12 : Int32) = nI 12 by decide, show (0 : Int32) = nI 0 by decide]
    by_cases c2 : tp - i < 12
    · rw [if_pos (nI_lt c2 (by omega)), Nat.min_eq_right (by omega), if_pos (nI_lt (by omega) (by omega))]
    · rw [if_neg (fun q => c2 ((nI_ltI (by omega) (by omega)).mp q)), Nat.min_eq_left (by omega), if_pos (nI_lt (by omega) (by omega))]
  · rw [if_pos ((sh_lt (by omega) (by omega)).mpr (show lo < i by omega)), if_neg c]
    decide
/-- only what holds nothing of the common state, and the pair, has changed -/
def FrQ (z : Nat) (σ σ' : Me) : Prop := gz σ' = gz σ ∧ ∀ q, (∀ o, q = z + o → ¬ scr o) → gT σ' q = gT σ q ∧ gN σ' q = gN σ q ∧ (∀ j, (q = z → j < 9 ∨ 11 < j) → gI σ' q j = gI σ q j) ∧ (∀ j, gL σ' q j = gL σ q j) ∧ ∀ j, gP σ' q j = gP σ q j
theorem FrQ.rf {z : Nat} {σ : Me} : FrQ z σ σ := ⟨rfl, fun _ _ => ⟨rfl, rfl, fun _ _ => rfl, fun _ => rfl, fun _ => rfl⟩⟩
theorem FrQ.tr {z : Nat} {σ σ' σ'' : Me} (h : FrQ z σ σ') (h' : FrQ z σ' σ'') : FrQ z σ σ'' := ⟨h'.1.trans h.1, fun q hq => by
  obtain ⟨a1, a2, a3, a4, a5⟩ := h.2 q hq
  obtain ⟨b1, b2, b3, b4, b5⟩ := h'.2 q hq
  exact ⟨b1.trans a1, b2.trans a2, fun j hj => (b3 j hj).trans (a3 j hj), fun j => (b4 j).trans (a4 j), fun j => (b5 j).trans (a5 j)⟩⟩
theorem FrS.Q {z : Nat} {σ σ' : Me} (h : FrS z σ σ') : FrQ z σ σ' := ⟨h.1, fun q hq => ⟨(h.2 q hq).1, (h.2 q hq).2.1, fun j _ => (h.2 q hq).2.2.1 j, (h.2 q hq).2.2.2.1, (h.2 q hq).2.2.2.2⟩⟩
theorem frQ_z {z : Nat} {σ : Me} {j : Nat} (hj : 9 ≤ j ∧ j ≤ 11) (v : Int32) : FrQ z σ (sI σ z j v) := ⟨rfl, fun q hq => ⟨rfl, rfl, fun i hi => by
  by_cases c : q = z
  · exact gI_sI_nk (by have := hi c; omega)
  · exact gI_sI_ne c, fun _ => rfl, fun _ => rfl⟩⟩
theorem FrQ.frM {z : Nat} {σ σ' : Me} (h : FrQ z σ σ') : frM z σ σ' := fun q h1 h2 => by
  obtain ⟨a1, a2, a3, a4, a5⟩ := h.2 q (fun o e => by unfold scr; omega)
  exact ⟨a1, a2, fun j => a3 j (by omega), a4, a5⟩
theorem rc_z {z : Nat} {σ : Me} {A : Ab} (h : RC z σ A) {j : Nat} (hj : 9 ≤ j ∧ j ≤ 11) (v : Int32) : RC z (sI σ z j v) A := ⟨h.1, fun q hq => by
  have b := ce_b q hq
  rw [← h.2 q hq]
  by_cases c : q.2.2.1 = 0
  · have := b.2.2.1 c
    exact gI_sI_nk (by omega)
  · exact gI_sI_ne (by omega)⟩
theorem RX.pair {z : Nat} {σ σ' : Me} {A : Ab} {u v : Int32} (h : RX z σ A) (hf : FrQ z σ σ') (hc : RC z σ' A) (hs : spX z σ') (hp : plX z σ') (h9 : gI σ' z 9 = 1) (h10 : gI σ' z 10 = u) (h11 : gI σ' z 11 = v) : RX z σ' (aS (aS A 48 0 u) 49 0 v) := by
  have e0 : ∀ g j, g ≠ 48 → g ≠ 49 → (aS (aS A 48 0 u) 49 0 v).1 g j = A.1 g j := fun g j h1 h2 => (up2_ne h2).trans (up2_ne h1)
  have s0 := hf.2 z (fun o e => by unfold scr; omega)
  have s8 := hf.2 (z + 8) (fun o e => by unfold scr; omega)
  have hsr : ∀ y, z + 59 ≤ y → y < gz σ → sameC σ σ' y := fun y hy _ => by
    obtain ⟨a1, a2, a3, a4, a5⟩ := hf.2 y (fun o e => by unfold scr; omega)
    exact ⟨a1, a2, fun j => a3 j (by omega), a4, a5⟩
  refine ⟨hc.1, fun q hq => ?_, ⟨by rw [s0.2.2.2.1]; exact h.2.2.1.1, by rw [s0.2.2.2.1]; exact h.2.2.1.2⟩, Or.inr ⟨h9, ?_, ?_⟩, fun r hr => ?_, hs, hp⟩
  · have f := ce_f q hq
    rw [e0 _ _ f.2.2.2.2.2.2.2.1 f.2.2.2.2.2.2.2.2]
    exact hc.2 q hq
  · rw [h10]
    show u = up2 (up2 A.1 48 0 u) 49 0 v 48 0
    rw [up2_ne (by decide), up2_eq]
  · rw [h11]
    show v = up2 (up2 A.1 48 0 u) 49 0 v 49 0
    rw [up2_eq]
  · rw [e0 9 0 (by decide) (by decide), e0 16 r (by decide) (by decide)]
    refine ⟨fun c => ?_, fun c => by rw [s8.2.2.2.2]; exact (h.2.2.2.2.1 r hr).2 c⟩
    obtain ⟨q, a1, a2, a3⟩ := (h.2.2.2.2.1 r hr).1 c
    refine ⟨q, by rw [s8.2.2.2.2]; exact a1, ⟨a2.1, by rw [hf.1]; exact a2.2⟩, ?_⟩
    have a4 := a3.same a2 hsr (by rw [hf.1]; exact Nat.le_refl _)
    unfold ruO at a4 ⊢
    simp only [e0 10 _ (by decide) (by decide), e0 11 _ (by decide) (by decide), e0 12 _ (by decide) (by decide), e0 13 _ (by decide) (by decide), e0 14 _ (by decide) (by decide), e0 15 _ (by decide) (by decide)]
    exact a4
theorem bIn_le (C : Nat → Nat → Nat) (t : Nat) (s : Nat × Nat × Nat) : ∀ l, (bIn C t s l).1 ≤ s.1 ∧ ∀ j, j < l → (bIn C t s l).1 ≤ C j t
  | 0 => ⟨Nat.le_refl _, fun j hj => by omega⟩
  | l + 1 => by
    have h := bIn_le C t s l
    rw [bIn_s]
    by_cases c : C l t < (bIn C t s l).1
    · rw [if_pos c]
      refine ⟨by show C l t ≤ s.1; omega, fun j hj => ?_⟩
      show C l t ≤ C j t
      by_cases e : j = l
      · rw [e]
        exact Nat.le_refl _
      · have := h.2 j (by omega)
        omega
    · rw [if_neg c]
      refine ⟨h.1, fun j hj => ?_⟩
      by_cases e : j = l
      · rw [e]
        omega
      · exact h.2 j (by omega)
section XP
variable {z : Nat} {σ : Me} {A : Ab}
theorem C_usePair (h : RC z σ A) {lo tp : Nat} (hl : lo < tp) (ht : tp < 100) {Q : Me → Prop} (hQ : ∀ σ', RC z σ' A → FrC z 29 29 σ σ' → (∀ i, i < 49 → gI σ' (z + 29) i = nI (oP lo tp i)) → Q σ') : pX10_usePair σ (z + 28) (sh lo) (sh tp) Q := by
  refine ⟨fun n σ1 w => ∃ i, i ≤ 49 ∧ w = nI i ∧ n = 49 - i ∧ RC z σ1 A ∧ FrC z 29 29 σ σ1 ∧ ∀ j, j < i → gI σ1 (z + 29) j = nI (oP lo tp j), ?_, 49, 0, by omega, rfl, rfl, h, .rf, fun i hi => by omega⟩
  rintro n σ1 w ⟨i, hi, rfl, rfl, g1, g2, g3⟩
  have t28 := g1.1.tg (28, 10, 0) (by decide)
  have t29 := g1.1.tg (29, 20, 49) (by decide)
  refine ⟨t28.1, z + 29, g1.1.rf (28, 2, 29) (by decide), t29.1, ?_⟩
  rw [t29.2]
  refine ⟨fun c => ?_, fun c => ?_⟩
  · have : 49 ≤ i := (nI_leI (by show 49 < _; omega) (by omega)).mp c
    rw [show i = 49 by omega] at g3
    exact hQ σ1 g1 g2 g3
  · have hi2 : ¬ 49 ≤ i := fun x => c ((nI_leI (by show 49 < _; omega) (by omega)).mpr x)
    rw [sh_of]
    rintro _ rfl
    show _ ∧ _
    rw [oP_c hl ht (show i < 100 by omega)]
    refine ⟨t29.1, by rw [t29.2]; exact vp_in_nI (show i < 49 by omega) (by show 49 < _; omega), ?_⟩
    rintro _ rfl _ rfl
    rw [nI_clamp (show i < 2 ^ 31 by omega)]
    refine ⟨49 - (i + 1), by omega, i + 1, by omega, sc1 i, rfl, g1.sI (o := 29) (by unfold scr; omega) _, g2.tr (.sI (by show 29 ≤ 29; omega) (by show 29 ≤ 29; omega) _), fun j hj => ?_⟩
    by_cases e : j = i
    · rw [e, gI_sI_eq]
    · rw [gI_sI_nk e]
      exact g3 j (by omega)
/-- between two pairs -/
def SK (z : Nat) (σ0 σ : Me) (A : Ab) (b : Nat) : Prop := RC z σ A ∧ PR z σ A b 25 ∧ plX z σ ∧ spX z σ ∧ FrQ z σ0 σ
theorem WT.SK {b : Nat} {o : Nat → Nat} {u : Int32} {p t : Nat} {σ0 σ1 : Me} (hf : FrQ z σ σ0) (hT : WT z σ0 σ1 A b o u p t) : SK z σ σ1 A b := by
  have hs := hT.sp
  obtain ⟨ca, cb, cc, cd, f, k, pl, ql, h1, h2, h3, h4, h5, h6, h7, h8⟩ := hT
  exact ⟨h2.1, h2.2.1, h2.2.2.2.2, hs, hf.tr h7.Q⟩
def seB (σ9 : Me) (a0 a1 : Nat) (x2 x3 : Int32) (x4 : Int64) (x7 x6 : Int32) (K1 : Me → Prop) (K2 : Int64 → Me → Prop) : Prop := gT σ9 a0 = 11 ∧ ∃ b18 : Nat, gP σ9 a0 6 = some b18 ∧ gT σ9 b18 = 10 ∧ pX10_usePair σ9 b18 x7 x6 (fun σ20 => gT σ20 a0 = 11 ∧ ∃ b23 : Nat, gP σ20 a0 6 = some b23 ∧ gT σ20 b23 = 10 ∧ pX10_follow σ20 b23 a1 x2 x3 x4 (fun r24 σ25 => (x4 ≤ r24 → K1 σ25) ∧ (¬ x4 ≤ r24 → gT σ25 a0 = 11 ∧ ∀ σ37 : Me, σ37 = sI σ25 a0 10 x7 → ∀ σ38 : Me, σ38 = sI σ37 a0 11 x6 → K2 r24 σ38)))
/-- the last walk: l' its mark, t its days -/
def LW (z : Nat) (σ : Me) (A : Ab) (b X dd tp l v : Nat) : Prop := ∃ l' t, l' < l ∧ t ≤ dd ∧ v ≤ ac (PN A b (oP l' tp) 0) (WN A b) (prN A b (oP l' tp)) X t * WN A b ^ (dd - t) ∧ (∀ i, gI σ (z + 30) i = 0 → ∀ t', t' < t → pw (PN A b (oP l' tp) 0) t' (ind i) X = 0) ∧ ∀ j, l' < j → j < l → gI σ (z + 30) j = 0
theorem LW.skip {b X dd tp l v : Nat} (h : LW z σ A b X dd tp l v) (h0 : gI σ (z + 30) l = 0) : LW z σ A b X dd tp (l + 1) v ∧ v ≤ cP A b X dd l tp := by
  obtain ⟨l', t, h1, h2, h3, h4, h5⟩ := h
  have h6 : ∀ j, l' < j → j < l + 1 → gI σ (z + 30) j = 0 := fun j a1 a2 => by
    by_cases e : j = l
    · rw [e]
      exact h0
    · exact h5 j a1 (by omega)
  refine ⟨⟨l', t, by omega, h2, h3, h4, h6⟩, ?_⟩
  have e := ac_same (A := A) (b := b) (o := oP l' tp) (o' := oP l tp) (u := 0) (D := fun j => l' < j ∧ j < l + 1) (fun i hi => ?_) (p := X) t (fun t' ht' i hi => h4 i (h6 i hi.1 hi.2) t' ht')
  · have m := ac_md (PN A b (oP l tp) 0) (WN A b) (prN A b (oP l tp)) X h2
    rw [e] at m
    unfold cP vC
    omega
  · unfold oP
    by_cases c : i ≤ l'
    · rw [if_pos c, if_pos (by omega)]
    · rw [if_neg c, if_neg (fun y => hi ⟨by omega, by omega⟩)]
theorem C_seB (hW : WF A) {b : Nat} (hb : b < 4) {σ0 : Me} (h : SK z σ0 σ A b) {X dd l tp v : Nat} (hX : X ≤ 24) (hd : dd ≤ 6) (hl : l < tp) (ht : tp < 100) (hv : v < 2 ^ 63) {K1 : Me → Prop} {K2 : Int64 → Me → Prop} (h1 : ∀ σ', SK z σ0 σ' A b → (∀ j, gI σ' z j = gI σ z j) → LW z σ' A b X dd tp (l + 1) v → v ≤ cP A b X dd l tp → K1 σ') (h2 : ∀ σ', SK z σ0 σ' A b → gI σ' z 10 = sh l → gI σ' z 11 = sh tp → LW z σ' A b X dd tp (l + 1) (cP A b X dd l tp) → cP A b X dd l tp < v → K2 (lN (cP A b X dd l tp)) σ') : seB σ z (z + (15 + 2 * b)) (sh X) (nI dd) (lN v) (sh l) (sh tp) K1 K2 := by
  obtain ⟨k1, k2, k3, k4, k5⟩ := h
  have w := C_wk k1
  refine ⟨C_tag k1, _, w.1, w.2.1, C_usePair k1 hl ht (fun σ1 y1 y2 y3 => ?_)⟩
  have w1 := C_wk y1
  have hK : WK z σ1 A b (oP l tp) (gI σ1 (z + 28) 4) := ⟨y1, fun i hi => by
    have := k2 i hi
    rw [(y2.2 (z + 10) (by omega)).2.2.1, (y2.2 (z + 11) (by omega)).2.2.1, (y2.2 (z + 12) (by omega)).2.2.1]
    exact this, y3, rfl, k3.same (y2.2 _ (by omega))⟩
  have hs : spX z σ1 := k4.same (fun o _ _ => y2.2 _ (by omega))
  have f1 : FrS z σ σ1 := y2.S (fun o h1 h2 => by unfold scr; omega)
  refine ⟨C_tag y1, _, w1.1, w1.2.1, C_follow hW hb (oP12 l tp) hK hs (by omega) hd hv (fun σ2 t ht hor hT => ?_)⟩
  have hS := hT.SK (k5.tr f1.Q)
  have hm := ac_md (PN A b (oP l tp) 0) (WN A b) (prN A b (oP l tp)) X ht
  have hC := cP_le hW hb (X := X) (by omega) hd l tp
  have hC' : cP A b X dd l tp = ac (PN A b (oP l tp) 0) (WN A b) (prN A b (oP l tp)) X dd := rfl
  obtain ⟨ca, cb, cc, cd, f, k, pl, ql, c1, c2, c3, c4, c5, c6, c7, c8⟩ := hT
  refine ⟨fun q => ?_, fun q => ⟨C_tag hS.1, ?_⟩⟩
  · have q' := (pk_lLE hv (by omega)).mp q
    refine h1 σ2 hS (fun j => ?_) ⟨l, t, by omega, ht, q', c8, fun j a1 a2 => by omega⟩ (by omega)
    have a := (f1.tr c7).2 z (fun o e => by unfold scr; omega)
    exact a.2.2.1 j
  · have q' : ¬ v ≤ ac (PN A b (oP l tp) 0) (WN A b) (prN A b (oP l tp)) X t * WN A b ^ (dd - t) := fun y => q ((pk_lLE hv (by omega)).mpr y)
    have e : t = dd := by
      rcases hor with e | e
      · exact e
      · omega
    subst e
    rw [Nat.sub_self, Nat.pow_zero, Nat.mul_one] at q' ⊢
    rintro _ rfl _ rfl
    refine h2 _ ⟨rc_z (rc_z hS.1 (by omega) _) (by omega) _, fun i hi => ?_, hS.2.2.1, hS.2.2.2.1.same (fun o _ _ => .tr (.sI (by omega)) (.sI (by omega))), hS.2.2.2.2.tr ((frQ_z (by omega) _).tr (frQ_z (by omega) _))⟩ ?_ gI_sI_eq ⟨l, t, by omega, Nat.le_refl _, ?_, fun i hi => ?_, fun j a1 a2 => by omega⟩ (by omega)
    · rw [gI_sI_ne (by omega), gI_sI_ne (by omega), gI_sI_ne (by omega), gI_sI_ne (by omega), gI_sI_ne (by omega), gI_sI_ne (by omega)]
      exact hS.2.1 i hi
    · rw [gI_sI_nk (by decide), gI_sI_eq]
    · rw [Nat.sub_self, Nat.pow_zero, Nat.mul_one]
      exact Nat.le_refl _
    · rw [gI_sI_ne (by omega), gI_sI_ne (by omega)] at hi
      exact c8 i hi
theorem C_reached (h : RC z σ A) {l : Nat} (hl : l < 49) {Q : Int32 → Me → Prop} (h0 : gI σ (z + 30) l = 0 → Q 0 σ) (h1 : ¬ gI σ (z + 30) l = 0 → Q 1 σ) : pX10_hasReached σ (z + 28) (sh l) Q := by
  have t28 := h.1.tg (28, 10, 0) (by decide)
  have t30 := h.1.tg (30, 22, 49) (by decide)
  refine e_isPosition (fun _ => ⟨fun q => absurd q (by decide), fun _ => ⟨t28.1, z + 30, h.1.rf (28, 3, 30) (by decide), t30.1, by rw [sh_back, t30.2]; exact show vp_in (nI l) 49 from vp_in_nI hl (by omega), ?_⟩⟩) (fun q => absurd (inr_sh hl) q)
  rintro _ rfl
  rw [sh_back, nI_clamp (by omega)]
  by_cases c : gI σ (z + 30) l = 0
  · rw [if_pos c]
    exact ⟨Or.inl rfl, h0 c⟩
  · rw [if_neg c]
    exact ⟨Or.inr rfl, h1 c⟩
def PK (z : Nat) (σ : Me) (s : Nat × Nat × Nat) : Prop := s.1 = 4611686018427387904 ∨ (gI σ z 10 = sh s.2.1 ∧ gI σ z 11 = sh s.2.2)
theorem bOut_le (C : Nat → Nat → Nat) : ∀ h, (bOut C h).1 ≤ 4611686018427387904
  | 0 => Nat.le_refl _
  | h + 1 => by
    rw [bOut_s]
    exact Nat.le_trans (bIn_le C (h + 12) (bOut C h) (h + 12)).1 (bOut_le C h)
set_option maxHeartbeats 400000 in
theorem C_seek (hW : WF A) {b : Nat} (hb : b < 4) (h : SK z σ σ A b) {X dd : Nat} (hX : X ≤ 24) (hd : dd ≤ 6) {Q : Int64 → Me → Prop} (hQ : ∀ σ', SK z σ σ' A b → gI σ' z 9 = 1 → gI σ' z 10 = sh (bOut (cP A b X dd) (moN A + 1)).2.1 → gI σ' z 11 = sh (bOut (cP A b X dd) (moN A + 1)).2.2 → Q (lN (bOut (cP A b X dd) (moN A + 1)).1) σ') : pX11_seekPair σ z (z + (15 + 2 * b)) (sh X) (nI dd) Q := by
  have mo := hW.mo
  refine ⟨fun nn σ1 x4 x6 => ∃ hh, hh ≤ moN A + 1 ∧ x6 = nI hh ∧ nn = moN A + 1 - hh ∧ x4 = lN (bOut (cP A b X dd) hh).1 ∧ SK z σ σ1 A b ∧ PK z σ1 (bOut (cP A b X dd) hh), ?_, moN A + 1, 0, by omega, rfl, rfl, rfl, h, Or.inl rfl⟩
  rintro nn σ1 x4 x6 ⟨hh, hle, rfl, rfl, rfl, g1, g2⟩
  obtain ⟨t, s0, s1, s2, -⟩ := C_shop g1.1 hW
  refine ⟨C_tag g1.1, _, (C_wk g1.1).2.2.1, t, ?_⟩
  rw [s0]
  refine ⟨fun q => ?_, fun q => ?_⟩
  · have : moN A < hh := (nI_ltI (by omega) (by omega)).mp q
    have e : hh = moN A + 1 := by omega
    subst e
    rintro _ rfl
    have hk : gI σ1 z 10 = sh (bOut (cP A b X dd) (moN A + 1)).2.1 ∧ gI σ1 z 11 = sh (bOut (cP A b X dd) (moN A + 1)).2.2 := by
      rcases g2 with e | e
      · exfalso
        rw [bOut_s] at e
        have h1 := (bIn_le (cP A b X dd) (moN A + 12) (bOut (cP A b X dd) (moN A)) (moN A + 12)).2 0 (by omega)
        have h2 := cP_le hW hb (X := X) (by omega) hd 0 (moN A + 12)
        omega
      · exact e
    refine hQ _ ⟨rc_z g1.1 (by omega) _, fun i hi => ?_, g1.2.2.1, g1.2.2.2.1.same (fun o _ _ => .sI (by omega)), g1.2.2.2.2.tr (frQ_z (by omega) _)⟩ gI_sI_eq ?_ ?_
    · rw [gI_sI_ne (by omega), gI_sI_ne (by omega), gI_sI_ne (by omega)]
      exact g1.2.1 i hi
    · rw [gI_sI_nk (by decide)]
      exact hk.1
    · rw [gI_sI_nk (by decide)]
      exact hk.2
  · have hle2 : hh ≤ moN A := by
      have : ¬ moN A < hh := fun y => q ((nI_ltI (by omega) (by omega)).mpr y)
      omega
    refine ⟨fun nn σ2 x4 x7 => ∃ l, l ≤ hh + 12 ∧ x7 = sh l ∧ nn = hh + 12 - l ∧ x4 = lN (bIn (cP A b X dd) (hh + 12) (bOut (cP A b X dd) hh) l).1 ∧ SK z σ σ2 A b ∧ PK z σ2 (bIn (cP A b X dd) (hh + 12) (bOut (cP A b X dd) hh) l) ∧ (l = 0 ∨ LW z σ2 A b X dd (hh + 12) l (bIn (cP A b X dd) (hh + 12) (bOut (cP A b X dd) hh) l).1), ?_, hh + 12, 0, by omega, sh_12, rfl, rfl, g1, g2, Or.inl rfl⟩
    rintro nn σ2 x4 x7 ⟨l, hl, rfl, rfl, rfl, k1, k2, k3⟩
    have hvle := (bIn_le (cP A b X dd) (hh + 12) (bOut (cP A b X dd) hh) l).1
    have hvle2 := bOut_le (cP A b X dd) hh
    rw [sh_n hh]
    refine ⟨fun q2 => ?_, fun q2 => ?_⟩
    · have el : l = hh + 12 := by
        have := (sh_le (by omega) (by omega)).mp q2
        omega
      subst el
      rintro _ rfl
      refine ⟨moN A + 1 - (hh + 1), by omega, hh + 1, by omega, by rw [← sh_n]; exact sc1 hh, rfl, ?_, k1, ?_⟩
      · rw [bOut_s]
      · rw [bOut_s]
        exact k2
    · have hlt : l < hh + 12 := by
        have : ¬ hh + 12 ≤ l := fun y => q2 ((sh_le (by omega) (by omega)).mpr y)
        omega
      have keep : ∀ σ3, SK z σ σ3 A b → PK z σ3 (bIn (cP A b X dd) (hh + 12) (bOut (cP A b X dd) hh) l) → LW z σ3 A b X dd (hh + 12) (l + 1) (bIn (cP A b X dd) (hh + 12) (bOut (cP A b X dd) hh) l).1 → (bIn (cP A b X dd) (hh + 12) (bOut (cP A b X dd) hh) l).1 ≤ cP A b X dd l (hh + 12) → ∀ y : Int32, y = sh l + 1 → ∃ m24 : Nat, m24 < hh + 12 - l ∧ ∃ l1, l1 ≤ hh + 12 ∧ y = sh l1 ∧ m24 = hh + 12 - l1 ∧ lN (bIn (cP A b X dd) (hh + 12) (bOut (cP A b X dd) hh) l).1 = lN (bIn (cP A b X dd) (hh + 12) (bOut (cP A b X dd) hh) l1).1 ∧ SK z σ σ3 A b ∧ PK z σ3 (bIn (cP A b X dd) (hh + 12) (bOut (cP A b X dd) hh) l1) ∧ (l1 = 0 ∨ LW z σ3 A b X dd (hh + 12) l1 (bIn (cP A b X dd) (hh + 12) (bOut (cP A b X dd) hh) l1).1) := by
        rintro σ3 y1 y2 y3 y4 _ rfl
        have e : bIn (cP A b X dd) (hh + 12) (bOut (cP A b X dd) hh) (l + 1) = bIn (cP A b X dd) (hh + 12) (bOut (cP A b X dd) hh) l := by
          rw [bIn_s, if_neg (by omega)]
        refine ⟨hh + 12 - (l + 1), by omega, l + 1, by omega, sh_add l 1, rfl, ?_, y1, ?_, Or.inr ?_⟩
        · rw [e]
        · rw [e]
          exact y2
        · rw [e]
          exact y3
      have walk : seB σ2 z (z + (15 + 2 * b)) (sh X) (nI dd) (lN (bIn (cP A b X dd) (hh + 12) (bOut (cP A b X dd) hh) l).1) (sh l) (sh (hh + 12)) (fun σ3 => ∀ y : Int32, y = sh l + 1 → ∃ m24 : Nat, m24 < hh + 12 - l ∧ ∃ l1, l1 ≤ hh + 12 ∧ y = sh l1 ∧ m24 = hh + 12 - l1 ∧ lN (bIn (cP A b X dd) (hh + 12) (bOut (cP A b X dd) hh) l).1 = lN (bIn (cP A b X dd) (hh + 12) (bOut (cP A b X dd) hh) l1).1 ∧ SK z σ σ3 A b ∧ PK z σ3 (bIn (cP A b X dd) (hh + 12) (bOut (cP A b X dd) hh) l1) ∧ (l1 = 0 ∨ LW z σ3 A b X dd (hh + 12) l1 (bIn (cP A b X dd) (hh + 12) (bOut (cP A b X dd) hh) l1).1)) (fun r3 σ3 => ∀ y : Int32, y = sh l + 1 → ∃ m24 : Nat, m24 < hh + 12 - l ∧ ∃ l1, l1 ≤ hh + 12 ∧ y = sh l1 ∧ m24 = hh + 12 - l1 ∧ r3 = lN (bIn (cP A b X dd) (hh + 12) (bOut (cP A b X dd) hh) l1).1 ∧ SK z σ σ3 A b ∧ PK z σ3 (bIn (cP A b X dd) (hh + 12) (bOut (cP A b X dd) hh) l1) ∧ (l1 = 0 ∨ LW z σ3 A b X dd (hh + 12) l1 (bIn (cP A b X dd) (hh + 12) (bOut (cP A b X dd) hh) l1).1)) := by
        refine C_seB hW hb k1 hX hd hlt (by omega) (by omega) (fun σ3 y1 y2 y3 y4 => ?_) (fun σ3 y1 y2 y3 y4 y5 => ?_)
        · refine keep σ3 y1 ?_ y3 y4
          unfold PK
          rw [y2, y2]
          exact k2
        · rintro _ rfl
          have e : bIn (cP A b X dd) (hh + 12) (bOut (cP A b X dd) hh) (l + 1) = (cP A b X dd l (hh + 12), l, hh + 12) := by
            rw [bIn_s, if_pos y5]
          refine ⟨hh + 12 - (l + 1), by omega, l + 1, by omega, sh_add l 1, rfl, ?_, y1, ?_, Or.inr ?_⟩
          · rw [e]
          · rw [e]
            exact Or.inr ⟨y2, y3⟩
          · rw [e]
            exact y4
      refine ⟨fun q3 => walk, fun q3 => ?_⟩
      have hl0 : ¬ l = 0 := fun e => q3 (by rw [e]; decide)
      have w2 := C_wk k1.1
      refine ⟨C_tag k1.1, _, w2.1, w2.2.1, C_reached k1.1 (by omega) (fun c => ⟨fun _ => ?_, fun q4 => absurd rfl q4⟩) (fun c => ⟨fun q4 => absurd q4 (by decide), fun _ => walk⟩)⟩
      rcases k3 with e | k3
      · exact absurd e hl0
      · have := k3.skip c
        exact keep σ2 k1 k2 this.1 this.2
theorem X_bestPair (h : RX z σ A) (hW : WF A) {b x d : Int32} {Q : Int32 → Me → Prop} (hQ : ∀ σ', RX z σ' (sBP A b x d).2 → frM z σ σ' → Q (sBP A b x d).1 σ') : pX11_bestPair σ z b x d Q := by
  unfold sBP sNB at hQ
  refine ⟨X_tag h, X_isStart h hW (fun h1 => ⟨fun q => absurd q (by decide), fun _ => ⟨X_tag h, ?_⟩⟩) (fun h1 => ⟨fun _ => by rw [if_neg h1] at hQ; exact hQ _ h .rf, fun q => absurd rfl q⟩)⟩
  rw [if_pos h1] at hQ
  obtain ⟨b, hb4, rfl⟩ := i3 h1.1
  obtain ⟨dd, hd1, hd, rfl⟩ := i1_6 h1.2.2
  obtain ⟨ex, -, -, hX⟩ := x_sh hW h1.2.1
  rw [ixn (show b < 2 ^ 31 by omega), ixn (show dd < 2 ^ 31 by omega)] at hQ
  generalize stX x = X at *
  subst ex
  have hb : b < 4 := by omega
  have k0 := C_bk h.rc hb
  have w0 := C_wk h.rc
  refine ⟨_, k0.1, k0.2.1, k0.2.2.1, _, k0.2.2.2, X_lack3 h hb (fun y => ⟨fun q => absurd q (by decide), fun _ => ⟨X_tag h, ?_⟩⟩) (fun y y2 => ⟨fun q => absurd q (by decide), fun _ => ⟨X_tag h, ?_⟩⟩) (fun y y2 => ⟨fun _ => ⟨X_tag h, _, w0.2.2.1, _, k0.1, k0.2.1, k0.2.2.1, _, k0.2.2.2, w0.2.2.2, ?_⟩, fun q => absurd rfl q⟩)⟩
  · rw [if_pos y] at hQ
    exact X_fnd h (by omega) (by omega) hQ
  · rw [if_neg y, if_pos y2] at hQ
    exact X_fnd h (by omega) (by omega) hQ
  · rw [if_neg y, if_neg y2] at hQ
    have hw := WN_pos hW hb y2
    have b4 := pow_le63 (WN_le hW hb) hd
    refine C_reckon h.rc hW hb (fun σ1 h1 h2 h3 => ?_)
    have k1 := C_bk h1 hb
    have f1 : FrS z σ σ1 := h2.S (fun o h1 h2 => by unfold scr; omega)
    refine ⟨C_tag h1, _, k1.1, k1.2.1, k1.2.2.1, _, k1.2.2.2, C_seek hW hb ⟨h1, h3, h.2.2.2.2.2.2.same (h2.2 _ (by omega)), h.2.2.2.2.2.1.same (fun o _ _ => h2.2 _ (by omega)), .rf⟩ hX hd (fun σ2 y1 y9 y10 y11 => ?_)⟩
    have fQ := f1.Q.tr y1.2.2.2.2
    have hR := RX.pair h fQ y1.1 y1.2.2.2.1 y1.2.2.1 y9 y10 y11
    have k2 := C_bk y1.1 hb
    have hv := bOut_le (cP A b X dd) (moN A + 1)
    exact ⟨C_tag y1.1, _, k2.1, k2.2.1, k2.2.2.1, _, k2.2.2.2, C_rowsOf y1.1 hW hb (by omega) ⟨C_tag y1.1, X_tell hR (by omega) (by omega) (Nat.pow_pos hw) (fun σ4 z1 z2 => hQ σ4 z1 (fQ.frM.tr z2))⟩⟩
end XP
