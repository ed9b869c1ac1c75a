theorem PN_cn (A : Ab) (b : Nat) (o : Nat → Nat) (c : Nat) : PN A b o 0 (fun _ => c) = fun _ => c * WN A b := by
  funext p
  unfold PN mdN WN
  rw [if_pos rfl, sumN_cg (g := fun e => c * wN A b e) _ (fun e _ => Nat.mul_comm _ _), sumN_mul]
theorem pw_cn (A : Ab) (b : Nat) (o : Nat → Nat) (p : Nat) : ∀ t c, pw (PN A b o 0) t (fun _ => c) p = c * WN A b ^ t
  | 0, c => by
    show c = c * 1
    omega
  | t + 1, c => by
    show pw (PN A b o 0) t (PN A b o 0 (fun _ => c)) p = _
    rw [PN_cn, pw_cn A b o p t, Nat.pow_succ, Nat.mul_assoc, Nat.mul_comm (WN A b)]
theorem ac_cn (A : Ab) (b : Nat) (o : Nat → Nat) (p c : Nat) : ∀ t, ac (PN A b o 0) (WN A b) (fun _ => c) p t = t * c * WN A b ^ (t - 1)
  | 0 => by
    show 0 = 0 * c * _
    rw [Nat.zero_mul, Nat.zero_mul]
  | t + 1 => by
    show ac (PN A b o 0) (WN A b) (fun _ => c) p t * WN A b + pw (PN A b o 0) t (fun _ => c) p = _
    rw [ac_cn A b o p c t, pw_cn]
    cases t with
    | zero =>
      show 0 * c * _ * _ + c * 1 = (0 + 1) * c * 1
      rw [Nat.zero_mul, Nat.zero_mul, Nat.zero_mul]
      omega
    | succ s =>
      show (s + 1) * c * WN A b ^ s * WN A b + c * WN A b ^ (s + 1) = (s + 1 + 1) * c * WN A b ^ (s + 1)
      rw [Nat.mul_assoc ((s + 1) * c), ← Nat.pow_succ, ← Nat.add_mul, Nat.add_mul (s + 1) 1 c, Nat.one_mul]
def vD (A : Ab) (b dd : Nat) : Nat := dd * DN A b * WN A b ^ (dd - 1)
def vA (A : Ab) (b : Nat) (o : Nat → Nat) (ψ : Nat → Nat) (X dd : Nat) : Nat := ac (PN A b o 0) (WN A b) ψ X dd
def svT (A : Ab) (k : Int32) (b : Nat) (o : Nat → Nat) (X dd : Nat) : Ab := if k = 0 then sTell A (pw (PN A b o 1) dd (fun _ => 1) X) (WN A b ^ dd) else if k = 1 then (if vD A b dd = 0 then sTell A 0 1 else sTell A (vA A b o (maN A b o) X dd) (vD A b dd)) else sTell A (vA A b o (iaN A b o) X dd) (dd * WN A b ^ dd)
def sServ (A : Ab) (k r b x d : Int32) : Int32 × Ab := sNeed A (inr k 0 2) r b x d (1, svT A k (ix b) (oR A (ix r)) (stX x) (ix d))
theorem vA_le {A : Ab} (hW : WF A) {b : Nat} (hb : b < 4) {o : Nat → Nat} (ho : ∀ i, i < 49 → o i ≤ 12) {X dd : Nat} (hX : X < 481) (hd : dd ≤ 6) : vA A b o (maN A b o) X dd < 2 ^ 63 ∧ vA A b o (iaN A b o) X dd < 2 ^ 63 := by
  have m2 := ac6 (ac_le hW hb ho 0 (ψ := maN A b o) (c := 378) (fun p hp => mt_le hW hb) hX dd) (by omega) hd
  have m3 := ac6 (ac_le hW hb ho 0 (ψ := iaN A b o) (c := 63) (fun p hp => ih_le hW hb) hX dd) (by omega) hd
  unfold vA
  omega
theorem vD_le {A : Ab} (hW : WF A) {b : Nat} (hb : b < 4) {dd : Nat} (hd : dd ≤ 6) : vD A b dd < 2 ^ 63 ∧ dd * WN A b ^ dd < 2 ^ 63 ∧ dd * DN A b ≤ 2268 := by
  have h1 : dd * DN A b ≤ 6 * 378 := Nat.mul_le_mul hd (DN_le hW hb)
  have h2 := pow_le63 (k := dd - 1) (WN_le hW hb) (by omega)
  have h3 := pow_le63 (k := dd) (WN_le hW hb) hd
  have h4 : dd * DN A b * WN A b ^ (dd - 1) ≤ 2268 * 62523502209 := Nat.mul_le_mul (by omega) h2
  have h5 : dd * WN A b ^ dd ≤ 6 * 62523502209 := Nat.mul_le_mul hd h3
  unfold vD
  omega
theorem p1_le {A : Ab} (hW : WF A) {b : Nat} (hb : b < 4) {o : Nat → Nat} (ho : ∀ i, i < 49 → o i ≤ 12) {X dd : Nat} (hX : X < 481) (hd : dd ≤ 6) : pw (PN A b o 1) dd (fun _ => 1) X < 2 ^ 63 := by
  have h1 := pw_le hW hb ho 1 dd (φ := fun _ => 1) (c := 1) (fun _ _ => Nat.le_refl _) X hX
  have h2 := pow_le63 (w := 63) (Nat.le_refl _) hd
  omega
section SV
variable {z n : Nat} {σ : Me} {A : Ab}
theorem M_serviceG (h : RM (z + 36) n σ A) (hW : WF A) (hn : n < 512) {k : Int32} {r b X dd : Nat} (hr : r < 12) (hU : WFr A r) (hb : b < 4) (hX : X ≤ 24) (h1 : 1 ≤ dd) (hd : dd ≤ 6) (hw : 0 < WN A b) {Q : Int32 → Me → Prop} (hQ : ∀ σ', RM (z + 36) (n + 1) σ' (svT A k b (oR A r) X dd) → frX z σ σ' → Q 1 σ') : pX12_goThrough σ (z + 36) (nI r) (nI b) (sh X) (nI dd) (if k = 0 then (1 : Int32) else (0 : Int32)) (fun σ10 => (k = 0 → gT σ10 (z + 36) = 12 ∧ pX12_tells σ10 (z + 36) (gL σ10 (z + 36) 43) (gL σ10 (z + 36) 44) ((1 : Int32)) (fun r29 σ30 => Q r29 σ30)) ∧ (¬ k = 0 → (k = ((1 : Int32)) → gT σ10 (z + 36) = 12 ∧ ((gL σ10 (z + 36) 41) = ((0 : Int64)) → pX12_tells σ10 (z + 36) ((0 : Int64)) ((1 : Int64)) ((1 : Int32)) (fun r26 σ27 => Q r26 σ27)) ∧ (¬ (gL σ10 (z + 36) 41) = ((0 : Int64)) → pX12_tells σ10 (z + 36) (gL σ10 (z + 36) 40) (gL σ10 (z + 36) 41) ((1 : Int32)) (fun r24 σ25 => Q r24 σ25))) ∧ (¬ k = ((1 : Int32)) → gT σ10 (z + 36) = 12 ∧ pX12_tells σ10 (z + 36) (gL σ10 (z + 36) 42) ((gL σ10 (z + 36) 44) * (nI dd).toInt64) ((1 : Int32)) (fun r15 σ16 => Q r15 σ16)))) := by
  obtain ⟨T, hT, sT⟩ := h.T
  have ho := oR12 A r
  have b1 := vA_le hW hb ho (X := X) (by omega) hd
  have b2 := vD_le hW hb hd
  have b3 := p1_le hW hb ho (X := X) (by omega) hd
  have b4 := pow_le63 (WN_le hW hb) hd
  have hp : 0 < WN A b ^ dd := Nat.pow_pos hw
  unfold svT at hQ
  refine M_goThrough h.up hW hb hr hU hX hd sT (by omega) (by omega) (fun σ' hG e43 => ?_)
  obtain ⟨kk, pl, f, g1, g2, g3, g4, g5, g6, g7⟩ := hG
  refine ⟨fun q => ⟨g1.1.1, ?_⟩, fun q => ⟨fun q1 => ⟨g1.1.1, ?_⟩, fun q1 => ⟨g1.1.1, ?_⟩⟩⟩
  · rw [e43, g6, if_pos q]
    rw [if_pos q] at hQ
    exact M_tells g1 b3 (by omega) hp (fun σ2 y1 y2 => hQ σ2 y1 (g7.frX.tr y2))
  · rw [if_neg q] at g5
    obtain ⟨a1, a2, a3, a4⟩ := g5 rfl
    rw [ac_cn] at a3
    rw [if_neg q, if_pos q1] at hQ
    rw [a2, a3]
    refine ⟨fun q2 => ?_, fun q2 => ?_⟩
    · have e : vD A b dd = 0 := (pk_lEQ (b := 0) b2.1 (by omega)).mp q2
      rw [if_pos e] at hQ
      exact M_tells g1 (u := 0) (l := 1) (by omega) (by omega) (by omega) (fun σ2 y1 y2 => hQ σ2 y1 (g7.frX.tr y2))
    · have e : ¬ vD A b dd = 0 := fun x => q2 (by show lN (vD A b dd) = 0; rw [x]; rfl)
      rw [if_neg e] at hQ
      exact M_tells g1 (u := vA A b (oR A r) (maN A b (oR A r)) X dd) (l := vD A b dd) b1.1 b2.1 (by omega) (fun σ2 y1 y2 => hQ σ2 y1 (g7.frX.tr y2))
  · rw [if_neg q] at g5
    obtain ⟨a1, a2, a3, a4⟩ := g5 rfl
    rw [if_neg q, if_neg q1] at hQ
    rw [a4, g6, nI_l (by omega), lN_mul, Nat.mul_comm (WN A b ^ dd)]
    exact M_tells g1 (u := vA A b (oR A r) (iaN A b (oR A r)) X dd) b1.2 b2.2.1 (Nat.mul_pos (by omega) hp) (fun σ2 y1 y2 => hQ σ2 y1 (g7.frX.tr y2))
theorem M_service (h : RM (z + 36) n σ A) (hW : WF A) (hU : WFu A) (hn : n < 512) {k r b x d : Int32} {Q : Int32 → Me → Prop} (hQ : ∀ σ', RM (z + 36) (n + 1) σ' (sServ A k r b x d).2 → frX z σ σ' → Q (sServ A k r b x d).1 σ') : pX12_service σ (z + 36) k r b x d Q := by
  unfold sServ at hQ
  have main : ∀ v : Int32, (¬ v = 0 ↔ inr k 0 2) → gT σ (z + 36) = 12 ∧ pX12_needBoth σ (z + 36) v r b x d (fun r3 σ4 => (0 ≤ r3 → ∀ v_7 : Int32, v_7 = (if k = 0 then ((1 : Int32)) else ((0 : Int32))) → gT σ4 (z + 36) = 12 ∧ pX12_goThrough σ4 (z + 36) r b x d v_7 (fun σ10 => (k = 0 → gT σ10 (z + 36) = 12 ∧ pX12_tells σ10 (z + 36) (gL σ10 (z + 36) 43) (gL σ10 (z + 36) 44) ((1 : Int32)) (fun r29 σ30 => Q r29 σ30)) ∧ (¬ k = 0 → (k = ((1 : Int32)) → gT σ10 (z + 36) = 12 ∧ ((gL σ10 (z + 36) 41) = ((0 : Int64)) → pX12_tells σ10 (z + 36) ((0 : Int64)) ((1 : Int64)) ((1 : Int32)) (fun r26 σ27 => Q r26 σ27)) ∧ (¬ (gL σ10 (z + 36) 41) = ((0 : Int64)) → pX12_tells σ10 (z + 36) (gL σ10 (z + 36) 40) (gL σ10 (z + 36) 41) ((1 : Int32)) (fun r24 σ25 => Q r24 σ25))) ∧ (¬ k = ((1 : Int32)) → gT σ10 (z + 36) = 12 ∧ pX12_tells σ10 (z + 36) (gL σ10 (z + 36) 42) ((gL σ10 (z + 36) 44) * d.toInt64) ((1 : Int32)) (fun r15 σ16 => Q r15 σ16))))) ∧ (¬ 0 ≤ r3 → Q r3 σ4)) := by
    intro v hv
    refine ⟨h.1.1, M_needBoth h hU (g := inr k 0 2) (K := (1, svT A k (ix b) (oR A (ix r)) (stX x) (ix d))) hv (fun w σ' h1 h2 h3 h4 => ⟨fun q => absurd q h1, fun _ => ?_⟩) (fun hok => ⟨fun _ => ?_, fun q => absurd (by decide) q⟩)⟩
    · rw [h2]
      exact hQ σ' h3.up h4
    · rw [sNeed_ok hok] at hQ
      obtain ⟨r', b', X, dd, a1, rfl, a3, a4, a5, rfl, a7, rfl, a9, a10, rfl, a12, a13, a14, a15, a16⟩ := hok.nat hW hU
      rw [a3, a7, a9, a12] at hQ
      rintro _ rfl
      exact ⟨h.1.1, M_serviceG h hW hn a1 a4 a5 a10 a13 a14 a15 hQ⟩
  exact e_in (fun hk => main 1 ⟨fun _ => hk, fun _ => by decide⟩) (fun hk => main 0 ⟨fun q => absurd rfl q, fun q => absurd q hk⟩)
theorem C_bk (h : RC z σ A) {b : Nat} (hb : b < 4) : gP σ z 0 = some (z + 1) ∧ gT σ (z + 1) = 24 ∧ vp_in (nI b) (gN σ (z + 1)) ∧ gP σ (z + 1) (nI b).toNatClampNeg = some (z + (15 + 2 * b)) := by
  have t1 := h.1.tg (1, 24, 4) (by decide)
  refine ⟨h.1.rf (0, 0, 1) (by decide), t1.1, ?_, ?_⟩
  · rw [t1.2]
    exact show vp_in (nI b) 4 from vp_in_nI hb (by omega)
  · rw [nI_clamp (by omega)]
    exact (C_book1 h hb).2.2.2.2.1
theorem C_wk (h : RC z σ A) : gP σ z 6 = some (z + 28) ∧ gT σ (z + 28) = 10 ∧ gP σ z 5 = some (z + 9) ∧ gT σ (z + 9) = 6 := ⟨h.1.rf (0, 6, 28) (by decide), (h.1.tg (28, 10, 0) (by decide)).1, h.1.rf (0, 5, 9) (by decide), (h.1.tg (9, 6, 0) (by decide)).1⟩
/-- the rule of a call that finds what it needs -/
theorem X_ruleOk (h : RX z σ A) (hU : WFu A) {g : Prop} {r b x d : Int32} (hok : okN A g r b x d) : ∃ q, gP σ z 3 = some (z + 8) ∧ gT σ (z + 8) = 25 ∧ vp_in r (gN σ (z + 8)) ∧ gP σ (z + 8) r.toNatClampNeg = some q ∧ (z + 59 ≤ q ∧ q < gz σ) ∧ ruO z σ q A (ix r) := by
  obtain ⟨r', hr, ex, ei, hWr, a1, a2, a3, gn, gs⟩ := X_ruleIf h hU hok.1.2.1
  have h16 := hok.2.1
  rw [ei] at h16 ⊢
  cases e : gP σ (z + 8) r.toNatClampNeg with
  | none => exact absurd h16 (gn e)
  | some q => exact ⟨q, a1, a2, a3, rfl, (gs q e).2⟩
theorem X_cost (h : RX z σ A) (hW : WF A) (hU : WFu A) {r b x d : Int32} {Q : Int32 → Me → Prop} (hQ : ∀ σ', RX z σ' (sCost A r b x d).2 → frM z σ σ' → Q (sCost A r b x d).1 σ') : pX11_cost σ z r b x d Q := by
  unfold sCost at hQ
  refine ⟨X_tag h, X_need h hW hU (g := True) trivial (K := (1, sTell A (vC A (ix b) (oR A (ix r)) (stX x) (ix d)) (WN A (ix b) ^ ix d))) (fun w σ' e k1 k2 => by rw [e]; exact hQ σ' k1 k2) (fun k h1 h5 hr => ⟨fun q => absurd ((nI_eq (b := 0) (by omega) (by omega)).mp q) (by omega), fun _ => ⟨X_tag h, hr⟩⟩) (fun hok => ⟨fun _ => ?_, fun q => absurd rfl q⟩) (fun q => ⟨fun _ => q, fun x => absurd rfl x⟩) (fun _ hx => ⟨fun q => absurd q (by decide), fun _ => ⟨X_tag h, hx⟩⟩)⟩
  rw [sNeed_ok hok] at hQ
  obtain ⟨q, p1, p2, p3, p4, p5, p6⟩ := X_ruleOk h hU hok
  obtain ⟨r', b', X, dd, a1, rfl, a3, a4, a5, rfl, a7, rfl, a9, a10, rfl, a12, a13, a14, a15, a16⟩ := hok.nat hW hU
  rw [a3] at p6
  rw [a3, a7, a9, a12] at hQ
  have k0 := C_bk h.rc a5
  have w0 := C_wk h.rc
  refine ⟨X_tag h, _, w0.2.2.1, _, k0.1, k0.2.1, k0.2.2.1, _, k0.2.2.2, w0.2.2.2, X_use h hW a5 p6 p5 (fun σ1 h1 f1 hu => ?_)⟩
  have w1 := C_wk h1
  have s8 := f1.2 (z + 8) (by omega)
  have s0 := f1.2 z (by omega)
  refine ⟨C_tag h1, _, w1.1, _, (s0.2.2.2.2 3).trans p1, by rw [s8.1]; exact p2, by rw [s8.2.1]; exact p3, _, (s8.2.2.2.2 _).trans p4, w1.2.1, hu _ (fun σ2 u k1 k2 k3 => ?_)⟩
  have w2 := C_wk k1.1
  have k2' := C_bk k1.1 a5
  refine ⟨C_tag k1.1, _, w2.1, _, k2'.1, k2'.2.1, k2'.2.2.1, _, k2'.2.2.2, w2.2.1, C_followAll hW a5 (oR12 A r') k1 k2 (by omega) a14 (fun σ3 hT => ?_)⟩
  have hB := WT.back h k3 hT
  have k3' := C_bk hB.1.rc a5
  have b1 := vC_le hW a5 (oR12 A r') (X := X) (by omega) a14
  have b2 := pow_le63 (WN_le hW a5) a14
  refine ⟨X_tag hB.1, _, k3'.1, k3'.2.1, k3'.2.2.1, _, k3'.2.2.2, C_rowsOf hB.1.rc hW a5 (by omega) ⟨X_tag hB.1, X_tell hB.1 (by omega) (by omega) (Nat.pow_pos a15) (fun σ4 y1 y2 => hQ σ4 y1 (hB.2.frM.tr y2))⟩⟩
theorem X_service (h : RX z σ A) (hW : WF A) (hU : WFu A) {k r b x d : Int32} {Q : Int32 → Me → Prop} (hQ : ∀ σ', RX z σ' (sServ A k r b x d).2 → frM z σ σ' → Q (sServ A k r b x d).1 σ') : pX11_service σ z k r b x d Q := by
  unfold sServ at hQ
  refine e_within (fun hk => ⟨fun q => absurd q (by decide), fun _ => ?_⟩) (fun hk => ⟨fun _ => ?_, fun q => absurd rfl q⟩)
  rotate_left
  · unfold sNeed at hQ
    rw [if_neg (fun y => hk y.1)] at hQ
    exact hQ _ h .rf
  refine ⟨X_tag h, X_need h hW hU (g := inr k 0 2) hk (K := (1, svT A k (ix b) (oR A (ix r)) (stX x) (ix d))) (fun w σ' e k1 k2 => by rw [e]; exact hQ σ' k1 k2) (fun k h1 h5 hr => ⟨fun q => absurd ((nI_eq (b := 0) (by omega) (by omega)).mp q) (by omega), fun _ => ⟨X_tag h, hr⟩⟩) (fun hok => ⟨fun _ => ?_, fun q => absurd rfl q⟩) (fun q => ⟨fun _ => q, fun x => absurd rfl x⟩) (fun _ hx => ⟨fun q => absurd q (by decide), fun _ => ⟨X_tag h, hx⟩⟩)⟩
  rw [sNeed_ok hok] at hQ
  obtain ⟨q, p1, p2, p3, p4, p5, p6⟩ := X_ruleOk h hU hok
  obtain ⟨r', b', X, dd, a1, rfl, a3, a4, a5, rfl, a7, rfl, a9, a10, rfl, a12, a13, a14, a15, a16⟩ := hok.nat hW hU
  rw [a3] at p6
  rw [a3, a7, a9, a12] at hQ
  have k0 := C_bk h.rc a5
  have w0 := C_wk h.rc
  have ho := oR12 A r'
  have b1 := vA_le hW a5 ho (X := X) (by omega) a14
  have b2 := vD_le hW a5 a14
  have b3 := p1_le hW a5 ho (X := X) (by omega) a14
  have b4 := pow_le63 (WN_le hW a5) a14
  have hp : 0 < WN A b' ^ dd := Nat.pow_pos a15
  unfold svT at hQ
  refine ⟨X_tag h, _, k0.1, k0.2.1, k0.2.2.1, _, k0.2.2.2, _, w0.2.2.1, w0.2.2.2, X_use h hW a5 p6 p5 (fun σ1 h1 f1 hu => ?_)⟩
  have w1 := C_wk h1
  have s8 := f1.2 (z + 8) (by omega)
  have s0 := f1.2 z (by omega)
  refine ⟨C_tag h1, _, w1.1, _, (s0.2.2.2.2 3).trans p1, by rw [s8.1]; exact p2, by rw [s8.2.1]; exact p3, _, (s8.2.2.2.2 _).trans p4, w1.2.1, hu _ (fun σ2 u k1 k2 k3 => ?_)⟩
  have w2 := C_wk k1.1
  refine ⟨fun q0 => ⟨C_tag k1.1, _, w2.1, w2.2.1, C_unbroken hW a5 ho k1 k2 (by omega) a14 (fun σ3 hT => ?_)⟩, fun q0 => ⟨C_tag k1.1, _, w2.1, w2.2.1, C_followAll hW a5 ho k1 k2 (by omega) a14 (fun σ3 hT => ?_)⟩⟩
  · have hB := WT.back h k3 hT
    rw [if_pos q0] at hQ
    exact C_rowsOf hB.1.rc hW a5 (by omega) ⟨X_tag hB.1, X_tell hB.1 b3 (by omega) hp (fun σ4 y1 y2 => hQ σ4 y1 (hB.2.frM.tr y2))⟩
  · have hB := WT.back h k3 hT
    have w3 := C_wk hB.1.rc
    obtain ⟨ca, cb, cc, cd, f, kk, pl, ql, c1, c2, c3, -⟩ := hT
    rw [if_neg q0] at hQ
    refine ⟨fun q1 => ⟨X_tag hB.1, _, w3.1, w3.2.1, (C_book1 hB.1.rc a5).1, X_dem hB.1 a5 ?_⟩, fun q1 => ⟨X_tag hB.1, _, w3.1, w3.2.1, C_rowsOf hB.1.rc hW a5 (by omega) ⟨X_tag hB.1, ?_⟩⟩⟩
    · rw [if_pos q1] at hQ
      rw [show (1 : Int32) = nI 1 by decide, nI_sb a13]
      refine C_rowsOf hB.1.rc hW a5 (by omega) ⟨X_tag hB.1, ?_⟩
      rw [c3.2.1, sD_eq hW a5 7 (by omega), pk_mul, nI_l (show dd * sumN (fun d => d * wN A b' d) 7 < 2 ^ 31 by have := b2.2.2; unfold DN at this; omega), lN_mul]
      by_cases e : vD A b' dd = 0
      · rw [if_pos e] at hQ
        have e' : dd * sumN (fun d => d * wN A b' d) 7 * WN A b' ^ (dd - 1) = 0 := e
        rw [e']
        exact X_tell0 hB.1 (u := vA A b' (oR A r') (maN A b' (oR A r')) X dd) b1.1 (fun σ4 y1 y2 => hQ σ4 y1 (hB.2.frM.tr y2))
      · rw [if_neg e] at hQ
        exact X_tell hB.1 (u := vA A b' (oR A r') (maN A b' (oR A r')) X dd) (l := vD A b' dd) b1.1 b2.1 (by omega) (fun σ4 y1 y2 => hQ σ4 y1 (hB.2.frM.tr y2))
    · rw [if_neg q1] at hQ
      rw [c3.2.2, nI_l (by omega), lN_mul]
      exact X_tell hB.1 (u := vA A b' (oR A r') (iaN A b' (oR A r')) X dd) b1.2 b2.2.1 (Nat.mul_pos (by omega) hp) (fun σ4 y1 y2 => hQ σ4 y1 (hB.2.frM.tr y2))
end SV
