/-! What a rule costs; how often nothing lacks. -/
abbrev isSt (A : Ab) (x d : Int32) : Prop := inr x (if A.1 19 0 = 0 then (0 : Int32) else -12) (A.1 17 0) ∧ inr d 1 6
def stX (x : Int32) : Nat := (x.toInt + 12).toNat
theorem i1_6 {d : Int32} (h : inr d 1 6) : ∃ k, 1 ≤ k ∧ k ≤ 6 ∧ d = nI k := by
  have h0 : (0 : Int32) ≤ d := by
    have a1 := Int32.le_iff_toInt_le.mp h.1
    have e1 : (1 : Int32).toInt = 1 := by decide
    have e0 : (0 : Int32).toInt = 0 := by decide
    exact Int32.le_iff_toInt_le.mpr (by omega)
  obtain ⟨k, h1, rfl⟩ := inr_ix (n := 6) ⟨h0, h.2⟩ (by omega)
  refine ⟨k, ?_, h1, rfl⟩
  have := (nI_leI (a := 1) (by omega) (by omega)).mp h.1
  exact this
theorem sh_t (X : Nat) (h : X < 2 ^ 30) : (sh X).toInt = (X : Int) - 12 := iI_t (by omega) (by omega)
theorem x_sh {A : Ab} (hW : WF A) {x : Int32} (h : inr x (if A.1 19 0 = 0 then (0 : Int32) else -12) (A.1 17 0)) : x = sh (stX x) ∧ flN A ≤ stX x ∧ stX x ≤ moN A + 12 ∧ stX x ≤ 24 := by
  have mo := hW.mo
  have fl := fl_12 A
  have h1 := h.1
  have h2 := h.2
  rw [fl_sh] at h1
  rw [mo.1, sh_n] at h2
  have a1 := Int32.le_iff_toInt_le.mp h1
  have a2 := Int32.le_iff_toInt_le.mp h2
  rw [sh_t _ (by omega)] at a1 a2
  have e : stX x = (x.toInt + 12).toNat := rfl
  refine ⟨?_, by omega, by omega, by omega⟩
  unfold sh
  rw [show ((stX x : Nat) : Int) - 12 = x.toInt by omega]
  exact (Int32.ofInt_toInt x).symm
def sNeed (A : Ab) (g : Prop) [Decidable g] (r b x d : Int32) (K : Int32 × Ab) : Int32 × Ab := if g ∧ isR A r ∧ inr b 0 3 ∧ isSt A x d then (if A.1 16 (ix r) = 0 then (if A.1 4 (ix b) = 0 then (-3, fnd A 1) else if sW A (ix b) 7 = 0 then (-3, fnd A 4) else K) else (-3, fnd A 1)) else (-1, A)
abbrev okN (A : Ab) (g : Prop) (r b x d : Int32) : Prop := (g ∧ isR A r ∧ inr b 0 3 ∧ isSt A x d) ∧ A.1 16 (ix r) = 0 ∧ ¬ A.1 4 (ix b) = 0 ∧ ¬ sW A (ix b) 7 = 0
theorem sNeed_ok {A : Ab} {g : Prop} [Decidable g] {r b x d : Int32} {K : Int32 × Ab} (h : okN A g r b x d) : sNeed A g r b x d K = K := by
  unfold sNeed
  rw [if_pos h.1, if_pos h.2.1, if_neg h.2.2.1, if_neg h.2.2.2]
section CO
variable {z n : Nat} {σ : Me} {A : Ab}
theorem M_isStart (h : RM (z + 36) n σ A) {x d : Int32} {Q : Int32 → Me → Prop} (ht : isSt A x d → Q 1 σ) (hf : ¬ isSt A x d → Q 0 σ) : pX12_isStart σ (z + 36) x d Q := by
  refine ⟨h.1.1, ?_⟩
  rintro _ rfl
  rw [h.sc 19 (by decide), h.sc 17 (by decide)]
  refine e_in (fun h1 => ⟨fun q => absurd q (by decide), fun _ => ?_⟩) (fun h1 => ⟨fun _ => hf (fun q => h1 q.1), fun q => absurd rfl q⟩)
  refine e_in (fun h2 => ?_) (fun h2 => ?_)
  · rintro _ rfl
    exact ⟨Or.inr rfl, ht ⟨h1, h2⟩⟩
  · rintro _ rfl
    exact ⟨Or.inl rfl, hf (fun q => h2 q.2)⟩
theorem X_isStart (h : RX z σ A) (hW : WF A) {b x d : Int32} {Q : Int32 → Me → Prop} (ht : inr b 0 3 ∧ isSt A x d → Q 1 σ) (hf : ¬ (inr b 0 3 ∧ isSt A x d) → Q 0 σ) : pX11_isStart σ z b x d Q := by
  obtain ⟨t, s0, s1, s2, -⟩ := C_shop h.rc hW
  refine e_isBook (fun h1 => ⟨fun q => absurd q (by decide), fun _ => ?_⟩) (fun h1 => ⟨fun _ => hf (fun q => h1 q.1), fun q => absurd rfl q⟩)
  refine e_areDays (fun h2 => ⟨fun q => absurd q (by decide), fun _ => ?_⟩) (fun h2 => ⟨fun _ => hf (fun q => h2 q.2.2), fun q => absurd rfl q⟩)
  refine ⟨X_tag h, _, h.1.rf (0, 5, 9) (by decide), t, C_floor h.rc hW ⟨X_tag h, _, h.1.rf (0, 5, 9) (by decide), t, ?_⟩⟩
  show pX11_isWithin σ x (sh (flN A)) (gI σ (z + 9) 0) _
  rw [s0, ← fl_sh, ← hW.mo.1]
  refine e_within (fun h3 => ?_) (fun h3 => ?_)
  · rintro _ rfl
    exact ⟨Or.inr rfl, ht ⟨h1, h3, h2⟩⟩
  · rintro _ rfl
    exact ⟨Or.inl rfl, hf (fun q => h3 q.2.1)⟩
theorem M_needBook (h : RM (z + 36) n σ A) {b : Nat} (hb : b < 4) {Q : Int32 → Me → Prop} (h1 : A.1 4 b = 0 → ∀ σ', RM (z + 36) n σ' (fnd A 1) → frX z σ σ' → Q (-3) σ') (h4 : ¬ A.1 4 b = 0 → sW A b 7 = 0 → ∀ σ', RM (z + 36) n σ' (fnd A 4) → frX z σ σ' → Q (-3) σ') (hok : ¬ A.1 4 b = 0 → ¬ sW A b 7 = 0 → Q 0 σ) : pX12_needBook σ (z + 36) (nI b) Q := by
  have r := h.1.row (4, 2, 22, 4) (by decide)
  have e := h.ar (4, 2, 4) (by decide) (show b < 4 by omega)
  refine ⟨h.1.1, _, r.1, r.2.1, by rw [r.2.2]; exact show vp_in (nI b) 4 from vp_in_nI hb (by omega), ?_⟩
  rw [nI_clamp (by omega), e]
  refine ⟨fun q => M_fnd h (k := 1) (by omega) (h1 q), fun q => M_allOf h hb ⟨fun q2 => ⟨h.1.1, M_fnd h (k := 4) (by omega) (h4 q q2)⟩, fun q2 => hok q q2⟩⟩
theorem M_needBoth (h : RM (z + 36) n σ A) (hU : WFu A) {g : Prop} [Decidable g] {v r b x d : Int32} (hv : ¬ v = 0 ↔ g) {K : Int32 × Ab} {Q : Int32 → Me → Prop} (hno : ∀ w σ', ¬ 0 ≤ w → w = (sNeed A g r b x d K).1 → RM (z + 36) n σ' (sNeed A g r b x d K).2 → frX z σ σ' → Q w σ') (hok : okN A g r b x d → Q 0 σ) : pX12_needBoth σ (z + 36) v r b x d Q := by
  have hbad : ¬ (g ∧ isR A r ∧ inr b 0 3 ∧ isSt A x d) → Q (-1) σ := fun q => by
    unfold sNeed at hno
    rw [if_neg q] at hno
    exact hno _ _ (by decide) rfl h .rf
  refine ⟨fun q => hbad (fun y => hv.mpr y.1 q), fun q => ⟨h.1.1, h.1.1, ?_⟩⟩
  have hg := hv.mp q
  rw [h.sc 9 (by decide)]
  refine e_in (fun h1 => ⟨Or.inr rfl, fun q => absurd q (by decide), fun _ => ?_⟩) (fun h1 => ⟨Or.inl rfl, fun _ => hbad (fun y => h1 y.2.1), fun q => absurd rfl q⟩)
  refine e_isPlace (fun h2 => ⟨fun q => absurd q (by decide), fun _ => ⟨h.1.1, ?_⟩⟩) (fun h2 => ⟨fun _ => hbad (fun y => h2 y.2.2.1), fun q => absurd rfl q⟩)
  refine M_isStart h (fun h3 => ⟨fun q => absurd q (by decide), fun _ => ?_⟩) (fun h3 => ⟨fun _ => hbad (fun y => h3 y.2.2.2), fun q => absurd rfl q⟩)
  have hU' := hU
  obtain ⟨⟨R, hR, e9, -⟩, -⟩ := hU'
  have hall : g ∧ isR A r ∧ inr b 0 3 ∧ isSt A x d := ⟨hg, h1, h2, h3⟩
  have hok' := fun y1 y2 y3 => hok ⟨hall, y1, y2, y3⟩
  unfold sNeed at hno
  rw [if_pos hall] at hno
  obtain ⟨r, hr, rfl⟩ := isR_nat hR e9 h1
  obtain ⟨b, hb, rfl⟩ := i3 h2
  rw [ixn (show r < 2 ^ 31 by omega), ixn (show b < 2 ^ 31 by omega)] at hno hok'
  obtain ⟨a1, a2, a3⟩ := M_at h 16 13 12 (t := 22) (by decide) (show r < 12 by omega) (by omega)
  have e := h.ar (16, 13, 12) (by decide) (show r < 12 by omega)
  refine ⟨h.1.1, _, a1, a2, a3, ?_⟩
  rw [nI_clamp (show r < 2 ^ 31 by omega), show gI σ (z + 36 + 13) r = A.1 16 r from e]
  refine ⟨fun q => ?_, fun q => ?_⟩
  · rw [if_pos q] at hno
    refine M_needBook h (by omega) (fun y σ' k1 k2 => ?_) (fun y y2 σ' k1 k2 => ?_) (fun y1 y2 => hok' q y1 y2)
    · rw [if_pos y] at hno
      exact hno _ _ (by decide) rfl k1 k2
    · rw [if_neg y, if_pos y2] at hno
      exact hno _ _ (by decide) rfl k1 k2
  · rw [if_neg q] at hno
    exact M_fnd h (k := 1) (by omega) (fun σ' k1 k2 => hno _ _ (by decide) rfl k1 k2)
theorem X_lack3 (h : RX z σ A) {b : Nat} (hb : b < 4) {Q : Int32 → Me → Prop} (h1 : A.1 4 b = 0 → Q (nI 1) σ) (h4 : ¬ A.1 4 b = 0 → sW A b 7 = 0 → Q (nI 4) σ) (hok : ¬ A.1 4 b = 0 → ¬ sW A b 7 = 0 → Q 0 σ) : pX11_lackOf σ (z + (15 + 2 * b)) Q := by
  obtain ⟨a1, a2, a3, a4, a5, a6, a7⟩ := C_book1 h.rc hb
  refine ⟨a1, ?_⟩
  rw [a6]
  refine ⟨h1, fun q => C_all h.rc hb ?_⟩
  rintro _ rfl
  by_cases c : sW A b 7 = 0
  · rw [if_pos c]
    exact h4 q c
  · rw [if_neg c]
    exact hok q c
end CO
theorem WN_pos {A : Ab} (hW : WF A) {b : Nat} (hb : b < 4) (h : ¬ sW A b 7 = 0) : 0 < WN A b := by
  rcases Nat.eq_zero_or_pos (WN A b) with e | e
  · rw [sW_eq hW hb 7 (by omega)] at h
    unfold WN at e
    rw [e] at h
    exact absurd rfl h
  · exact e
def vC (A : Ab) (b : Nat) (o : Nat → Nat) (X dd : Nat) : Nat := ac (PN A b o 0) (WN A b) (prN A b o) X dd
def sCost (A : Ab) (r b x d : Int32) : Int32 × Ab := sNeed A True r b x d (1, sTell A (vC A (ix b) (oR A (ix r)) (stX x) (ix d)) (WN A (ix b) ^ ix d))
theorem vC_le {A : Ab} (hW : WF A) {b : Nat} (hb : b < 4) {o : Nat → Nat} (ho : ∀ i, i < 49 → o i ≤ 12) {X dd : Nat} (hX : X < 481) (hd : dd ≤ 6) : vC A b o X dd ≤ 73265039888506200 := by
  have m2 := ac_le hW hb ho 0 (ψ := prN A b o) (c := 195300) (fun p hp => pr_le hW hb ho hp) hX dd
  have m3 := ac6 m2 (Nat.le_refl _) hd
  unfold vC
  omega
theorem oR12 (A : Ab) (r : Nat) : ∀ i, i < 49 → oR A r i ≤ 12 := fun i _ => (oR_eq A r i).2
section CP
variable {z n : Nat} {σ : Me} {A : Ab}
/-- what a call that needs a rule and a book finds -/
theorem okN.nat (hW : WF A) (hU : WFu A) {g : Prop} {r b x d : Int32} (h : okN A g r b x d) : ∃ r' b' X dd, r' < 12 ∧ r = nI r' ∧ ix r = r' ∧ WFr A r' ∧ b' < 4 ∧ b = nI b' ∧ ix b = b' ∧ x = sh X ∧ stX x = X ∧ X ≤ 24 ∧ d = nI dd ∧ ix d = dd ∧ 1 ≤ dd ∧ dd ≤ 6 ∧ 0 < WN A b' ∧ A.1 16 r' = 0 := by
  obtain ⟨⟨-, h1, h2, h3, h4⟩, h5, h6, h7⟩ := h
  obtain ⟨⟨R, hR, e9, hWr⟩, -⟩ := hU
  obtain ⟨r', hr, rfl⟩ := isR_nat hR e9 h1
  obtain ⟨b', hb, rfl⟩ := i3 h2
  obtain ⟨dd, hd1, hd2, rfl⟩ := i1_6 h4
  have hx := x_sh hW h3
  rw [ixn (show r' < 2 ^ 31 by omega)] at h5
  rw [ixn (show b' < 2 ^ 31 by omega)] at h7
  exact ⟨r', b', stX x, dd, by omega, rfl, ixn (by omega), hWr r' hr, by omega, rfl, ixn (by omega), hx.1, rfl, hx.2.2.2, rfl, ixn (by omega), hd1, hd2, WN_pos hW (by omega) h7, h5⟩
theorem M_cost (h : RM (z + 36) n σ A) (hW : WF A) (hU : WFu A) (hn : n < 512) {r b x d : Int32} {Q : Int32 → Me → Prop} (hQ : ∀ σ', RM (z + 36) (n + 1) σ' (sCost A r b x d).2 → frX z σ σ' → Q (sCost A r b x d).1 σ') : pX12_cost σ (z + 36) r b x d Q := by
  unfold sCost at hQ
  refine ⟨h.1.1, M_needBoth h hU (g := True) (K := (1, sTell A (vC A (ix b) (oR A (ix r)) (stX x) (ix d)) (WN A (ix b) ^ ix d))) ⟨fun _ => trivial, fun _ => by decide⟩ (fun w σ' h1 h2 h3 h4 => ⟨fun q => absurd q h1, fun _ => ?_⟩) (fun hok => ⟨fun _ => ⟨h.1.1, ?_⟩, fun q => absurd (by decide) q⟩)⟩
  · rw [h2]
    exact hQ σ' h3.up h4
  · rw [sNeed_ok hok] at hQ
    obtain ⟨r', b', X, dd, a1, rfl, a3, a4, a5, rfl, a7, rfl, a9, a10, rfl, a12, a13, a14, a15, a16⟩ := hok.nat hW hU
    rw [a3, a7, a9, a12] at hQ
    obtain ⟨T, hT, sT⟩ := h.T
    refine M_goThrough h.up hW a5 a1 a4 a10 a14 sT (by omega) (by omega) (fun σ' hG _ => ?_)
    obtain ⟨k, pl, f, g1, g2, g3, g4, g5, g6, g7⟩ := hG
    refine ⟨g1.1.1, ?_⟩
    rw [(g5 rfl).1, g6]
    have b1 := vC_le hW a5 (oR12 A r') (X := X) (by omega) a14
    have b2 := pow_le63 (WN_le hW a5) a14
    refine M_tells g1 (u := vC A b' (oR A r') X dd) (by omega) (by omega) (Nat.pow_pos a15) (fun σ2 y1 y2 => hQ σ2 y1 (g7.frX.tr y2))
/-- the class has reckoned, and uses a rule -/
theorem X_use (h : RX z σ A) (hW : WF A) {b q r : Nat} (hb : b < 4) (ho : ruO z σ q A r) (hq : z + 59 ≤ q ∧ q < gz σ) {Q : Me → Prop} (hQ : ∀ σ1, RC z σ1 A → FrC z 10 12 σ σ1 → (∀ K : Me → Prop, (∀ σ2 u, WK z σ2 A b (oR A r) u → spX z σ2 → FrS z σ σ2 → K σ2) → pX10_useRule σ1 (z + 28) q K) → Q σ1) : pX6_reckon σ (z + 9) (z + (15 + 2 * b)) Q := by
  refine C_reckon h.rc hW hb (fun σ1 h1 h2 h3 => hQ σ1 h1 h2 (fun K hK => ?_))
  have hs : ∀ y, z + 59 ≤ y → y < gz σ → sameC σ σ1 y := fun y hy _ => h2.2 y (by omega)
  refine C_useRule h1 (ho.same hq hs (by rw [h2.1]; exact Nat.le_refl _)) (by rw [h2.1]; exact hq) (fun σ2 k1 k2 k3 => ?_)
  have f1 : FrS z σ σ1 := h2.S (fun o h1 h2 => by unfold scr; omega)
  have f2 : FrS z σ1 σ2 := k2.S (fun o h1 h2 => by unfold scr; omega)
  refine hK σ2 (gI σ2 (z + 28) 4) ⟨k1, fun i hi => ?_, k3, rfl, ?_⟩ ?_ (f1.tr f2)
  · have := h3 i hi
    rw [(k2.2 (z + 10) (by omega)).2.2.1, (k2.2 (z + 11) (by omega)).2.2.1, (k2.2 (z + 12) (by omega)).2.2.1]
    exact this
  · exact (h.2.2.2.2.2.2.same (h2.2 _ (by omega))).same (k2.2 _ (by omega))
  · exact (h.2.2.2.2.2.1.same (fun o _ _ => h2.2 _ (by omega))).same (fun o _ _ => k2.2 _ (by omega))
theorem WT.back {b : Nat} {o : Nat → Nat} {u : Int32} {p t : Nat} {σ0 σ1 : Me} (h : RX z σ A) (hf : FrS z σ σ0) (hT : WT z σ0 σ1 A b o u p t) : RX z σ1 A ∧ FrS z σ σ1 := by
  have hs := hT.sp
  obtain ⟨ca, cb, cc, cd, f, k, pl, ql, h1, h2, h3, h4, h5, h6, h7, h8⟩ := hT
  exact ⟨h.back (hf.tr h7) h2.1 hs h2.2.2.2.2, hf.tr h7⟩
/-- to the end, with no limit -/
theorem C_followAll (hW : WF A) {b : Nat} (hb : b < 4) {o : Nat → Nat} (ho : ∀ i, i < 49 → o i ≤ 12) {u : Int32} (h : WK z σ A b o u) (hs : spX z σ) {p dd : Nat} (hp : p < 481) (hd : dd ≤ 6) {Q : Int64 → Me → Prop} (hQ : ∀ σ', WT z σ σ' A b o 0 p dd → Q (lN (vC A b o p dd)) σ') : pX10_follow σ (z + 28) (z + (15 + 2 * b)) (sh p) (nI dd) (4611686018427387904 : Int64) Q := by
  refine C_follow (L := 4611686018427387904) hW hb ho h hs hp hd (by omega) (fun σ' t ht hor hT => ?_)
  have b1 := vC_le hW hb ho hp hd
  have b2 := ac_md (PN A b o 0) (WN A b) (prN A b o) p ht
  unfold vC at b1
  have e : t = dd := by
    rcases hor with e | e
    · exact e
    · omega
  subst e
  rw [Nat.sub_self, Nat.pow_zero, Nat.mul_one]
  exact hQ σ' hT
theorem X_need (h : RX z σ A) (hW : WF A) (hU : WFu A) {g : Prop} [Decidable g] (hg : g) {r b x d : Int32} {K : Int32 × Ab} {Q : Int32 → Me → Prop} (hno : ∀ w σ', w = (sNeed A g r b x d K).1 → RX z σ' (sNeed A g r b x d K).2 → frM z σ σ' → Q w σ') {L : Int32 → Me → Prop} (hL : ∀ k : Nat, 1 ≤ k → k ≤ 5 → pX11_refuse σ z (nI k) Q → L (nI k) σ) (hok : okN A g r b x d → L 0 σ) {G : Int32 → Me → Prop} (hG0 : Q (-1) σ → G 0 σ) (hG1 : isR A r ∧ inr b 0 3 ∧ isSt A x d → (∃ b10 : Nat, gP σ z 3 = some b10 ∧ gT σ b10 = 25 ∧ vp_in r (gN σ b10) ∧ ∃ b13 : Nat, gP σ z 0 = some b13 ∧ gT σ b13 = 24 ∧ vp_in b (gN σ b13) ∧ ∃ b16 : Nat, gP σ b13 b.toNatClampNeg = some b16 ∧ pX11_lackOf_ σ (gP σ b10 r.toNatClampNeg) b16 L) → G 1 σ) : pX11_isRule σ z r (fun r1 σ2 => (r1 = 0 → Q (-1) σ2) ∧ (¬ r1 = 0 → gT σ2 z = 11 ∧ pX11_isStart σ2 z b x d G)) := by
  have hbad : ¬ (isR A r ∧ inr b 0 3 ∧ isSt A x d) → Q (-1) σ := fun q => by
    unfold sNeed at hno
    rw [if_neg (fun y => q y.2)] at hno
    exact hno _ _ rfl h .rf
  refine X_isRule h hU (fun h1 => ⟨fun q => absurd q (by decide), fun _ => ⟨X_tag h, ?_⟩⟩) (fun h1 => ⟨fun _ => hbad (fun y => h1 y.1), fun q => absurd rfl q⟩)
  refine X_isStart h hW (fun h2 => hG1 ⟨h1, h2⟩ ?_) (fun h2 => hG0 (hbad (fun y => h2 y.2)))
  have hall : g ∧ isR A r ∧ inr b 0 3 ∧ isSt A x d := ⟨hg, h1, h2⟩
  have hok' := fun y1 y2 y3 => hok ⟨hall, y1, y2, y3⟩
  unfold sNeed at hno
  rw [if_pos hall] at hno
  obtain ⟨b, hb, rfl⟩ := i3 h2.1
  obtain ⟨r', hr, ex, ei, hWr, a1, a2, a3, gn, gs⟩ := X_ruleIf h hU h1
  obtain ⟨c1, c2, c3, c4, c5, c6, c7⟩ := C_book1 h.rc (show b < 4 by omega)
  have t1 := h.1.tg (1, 24, 4) (by decide)
  rw [ei, ixn (show b < 2 ^ 31 by omega)] at hno hok'
  refine ⟨_, a1, a2, a3, _, h.1.rf (0, 0, 1) (by decide), t1.1, by rw [t1.2]; exact show vp_in (nI b) 4 from vp_in_nI (by omega) (by omega), _, by rw [nI_clamp (by omega)]; exact c5, fun q => ?_, fun b1 hb1 => ?_⟩
  · rw [if_neg (gn q)] at hno
    exact hL 1 (by omega) (by omega) (X_fnd h (by omega) (by omega) (fun σ' y1 y2 => hno _ _ rfl y1 y2))
  · obtain ⟨h16, -, -⟩ := gs b1 hb1
    rw [if_pos h16] at hno
    refine X_lack3 h (by omega) (fun y => ?_) (fun y y2 => ?_) (fun y y2 => hok' h16 y y2)
    · rw [if_pos y] at hno
      exact hL 1 (by omega) (by omega) (X_fnd h (by omega) (by omega) (fun σ' y1 y2 => hno _ _ rfl y1 y2))
    · rw [if_neg y, if_pos y2] at hno
      exact hL 4 (by omega) (by omega) (X_fnd h (by omega) (by omega) (fun σ' y1 y2 => hno _ _ rfl y1 y2))
end CP
