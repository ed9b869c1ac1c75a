/-! All days of a walk. -/
theorem ac_mono (P : (Nat → Nat) → Nat → Nat) (W : Nat) (ψ : Nat → Nat) (p : Nat) : ∀ t j, ac P W ψ p t * W ^ j ≤ ac P W ψ p (t + j)
  | t, 0 => by
    show ac P W ψ p t * 1 ≤ ac P W ψ p t
    omega
  | t, j + 1 => by
    have h1 := ac_mono P W ψ p t j
    have h2 : ac P W ψ p t * W ^ j * W ≤ ac P W ψ p (t + j) * W := Nat.mul_le_mul_right _ h1
    show ac P W ψ p t * (W ^ j * W) ≤ ac P W ψ p (t + j) * W + pw P (t + j) ψ p
    rw [← Nat.mul_assoc]
    omega
theorem ac_md (P : (Nat → Nat) → Nat → Nat) (W : Nat) (ψ : Nat → Nat) (p : Nat) {t d : Nat} (h : t ≤ d) : ac P W ψ p t * W ^ (d - t) ≤ ac P W ψ p d := by
  have h1 := ac_mono P W ψ p t (d - t)
  rw [show t + (d - t) = d by omega] at h1
  exact h1
section FA
variable {z : Nat} {σ : Me} {A : Ab}
theorem pw1_le (hW : WF A) {b : Nat} (hb : b < 4) {o : Nat → Nat} (ho : ∀ i, i < 49 → o i ≤ 12) (u : Int32) {t p : Nat} (ht : t ≤ 5) (hp : p < 481) : pw (PN A b o u) t (fun _ => 1) p * WN A b ≤ 62523502209 := by
  have h1 := pw_le hW hb ho u t (φ := fun _ => 1) (c := 1) (fun _ _ => Nat.le_refl _) p hp
  have h2 : (63 : Nat) ^ t ≤ 63 ^ 5 := Nat.pow_le_pow_right (by omega) ht
  have h3 : pw (PN A b o u) t (fun _ => 1) p * WN A b ≤ 63 ^ 5 * 63 := Nat.mul_le_mul (by omega) (WN_le hW hb)
  omega
/-- what holds after t days -/
def WT (z : Nat) (σ0 σ : Me) (A : Ab) (b : Nat) (o : Nat → Nat) (u : Int32) (p t : Nat) : Prop := ∃ ca cb cc cd f k pl ql, cfg ca cb cc cd ∧ WK z σ A b o u ∧ WA z σ (ac (PN A b o u) (WN A b) (prN A b o) p t) (ac (PN A b o u) (WN A b) (maN A b o) p t) (ac (PN A b o u) (WN A b) (iaN A b o) p t) ∧ TDy z σ ca cc f k pl ∧ TMo z σ cb cd (fun _ => 0) 0 ql ∧ (∀ φ, ES f k pl φ = pw (PN A b o u) t φ p) ∧ FrS z σ0 σ ∧ ∀ i, gI σ (z + 30) i = 0 → ∀ t', t' < t → pw (PN A b o u) t' (ind i) p = 0
theorem WT.day (hW : WF A) {b : Nat} (hb : b < 4) {o : Nat → Nat} (ho : ∀ i, i < 49 → o i ≤ 12) {u : Int32} {p t : Nat} (hp : p < 481) (ht : t ≤ 5) {σ1 : Me} (h : WT z σ σ1 A b o u p t) {Q : Me → Prop} (hQ : ∀ σ', WT z σ σ' A b o u p (t + 1) → Q σ') : pX10_passDay σ1 (z + 28) (z + (15 + 2 * b)) Q := by
  obtain ⟨ca, cb, cc, cd, f, k, pl, ql, h1, h2, h3, h4, h5, h6, h7, h8⟩ := h
  refine C_day hW hb ho h2 h3 h1 h4 h5 ?_ (fun σ' g n ql' y1 y2 y3 y4 y5 y6 y7 y8 => hQ σ' ?_)
  · rw [h6]
    have := pw1_le hW hb ho u ht hp
    omega
  · refine ⟨_, _, _, _, g, n, ql', ql', y1, y2, ?_, y4, y5, fun φ => ?_, h7.tr y7, fun i hi t' ht' => ?_⟩
    · rw [h6, h6, h6] at y3
      exact y3
    · rw [y6, h6]
      rfl
    · have h9 := y8 i hi
      by_cases c : t' = t
      · rw [c, ← h6]
        exact h9.2
      · exact h8 i h9.1 t' (by omega)
theorem WT.sp {b : Nat} {o : Nat → Nat} {u : Int32} {p t : Nat} {σ1 : Me} (h : WT z σ σ1 A b o u p t) : spX z σ1 := by
  obtain ⟨ca, cb, cc, cd, f, k, pl, ql, h1, h2, h3, h4, h5, h6, h7, h8⟩ := h
  exact spX.of h1 h4.w h5
theorem WK.u {b : Nat} {o : Nat → Nat} {u : Int32} (h : WK z σ A b o u) (v : Int32) : WK z (sI σ (z + 28) 4 v) A b o v :=
  ⟨h.1.sI (o := 28) (by unfold scr; omega) v, fun i hi => by
    have := h.2.1 i hi
    rw [gI_sI_ne (by omega), gI_sI_ne (by omega), gI_sI_ne (by omega)]
    exact this, fun i hi => by rw [gI_sI_ne (by omega)]; exact h.2.2.1 i hi, gI_sI_eq, h.2.2.2.2⟩
theorem C_go {b : Nat} {o : Nat → Nat} {u : Int32} (h : WK z σ A b o u) (hs : spX z σ) {p : Nat} (hp : p < 481) (v : Int32) {Q : Me → Prop} (hQ : ∀ σ', WT z σ σ' A b o v p 0 → Q σ') : pX10_begin (sI σ (z + 28) 4 v) (z + 28) (sh p) Q :=
  C_begin (h.u v) (hs.same (fun x _ _ => .sI (by omega))) hp (fun σ' ca cb cc cd f k pl y1 y2 y3 y4 y5 y6 y7 => hQ σ' ⟨ca, cb, cc, cd, f, k, pl, pl, y1, y2, y3, y4, y5, y6, (FrS.sI (by unfold scr; omega) _).tr y7, fun i _ t' ht' => by omega⟩)
theorem C_follow (hW : WF A) {b : Nat} (hb : b < 4) {o : Nat → Nat} (ho : ∀ i, i < 49 → o i ≤ 12) {u : Int32} (h : WK z σ A b o u) (hs : spX z σ) {p dd L : Nat} (hp : p < 481) (hd : dd ≤ 6) (hL : L < 2 ^ 63) {Q : Int64 → Me → Prop} (hQ : ∀ σ' t, t ≤ dd → (t = dd ∨ L ≤ ac (PN A b o 0) (WN A b) (prN A b o) p t * WN A b ^ (dd - t)) → WT z σ σ' A b o 0 p t → Q (lN (ac (PN A b o 0) (WN A b) (prN A b o) p t * WN A b ^ (dd - t))) σ') : pX10_follow σ (z + 28) (z + (15 + 2 * b)) (sh p) (nI dd) (lN L) Q := by
  refine ⟨(h.1.1.tg (28, 10, 0) (by decide)).1, ?_⟩
  rintro _ rfl
  refine C_go h hs hp 0 (fun σ0 h0 => ?_)
  refine ⟨fun nn σ1 w => ∃ t, t ≤ dd ∧ w = nI (t + 1) ∧ nn = dd - t ∧ WT z σ σ1 A b o 0 p t, ?_, dd, 0, by omega, rfl, rfl, h0⟩
  rintro nn σ1 w ⟨t, ht, rfl, rfl, hT⟩
  have t28 : gT σ1 (z + 28) = 10 := by
    obtain ⟨ca, cb, cc, cd, f, k, pl, ql, h1, h2, _⟩ := hT
    exact (h2.1.1.tg (28, 10, 0) (by decide)).1
  refine ⟨fun q => ⟨t28, ?_⟩, fun q => ⟨t28, ?_⟩⟩
  · have : dd < t + 1 := (nI_ltI (by omega) (by omega)).mp q
    have e : t = dd := by omega
    subst e
    have h1 := hQ σ1 t (by omega) (Or.inl rfl) hT
    rw [Nat.sub_self, Nat.pow_zero, Nat.mul_one] at h1
    obtain ⟨ca, cb, cc, cd, f, k, pl, ql, _, _, h3, _⟩ := hT
    rw [h3.1]
    exact h1
  · have hlt : ¬ dd < t + 1 := fun x => q ((nI_ltI (by omega) (by omega)).mpr x)
    refine hT.day hW hb ho hp (by omega) (fun σ2 hT2 => ?_)
    have hT2' := hT2
    obtain ⟨ca, cb, cc, cd, f, k, pl, ql, h1, h2, h3, _⟩ := hT2'
    refine ⟨(h2.1.1.tg (28, 10, 0) (by decide)).1, ?_⟩
    rw [nI_sb (by omega)]
    refine C_rowsOf h2.1 hW hb (by omega) ?_
    rintro _ rfl
    rw [h3.1, lN_mul]
    have m1 : ac (PN A b o 0) (WN A b) (prN A b o) p (t + 1) * WN A b ^ (dd - (t + 1)) ≤ _ := ac_md _ _ _ _ (by omega)
    have m2 := ac_le hW hb ho 0 (ψ := prN A b o) (c := 195300) (fun p hp => pr_le hW hb ho hp) hp dd
    have m3 := ac6 m2 (Nat.le_refl _) hd
    refine ⟨fun q2 => ?_, fun q2 => ?_⟩
    · rintro _ rfl
      exact ⟨dd - (t + 1), by omega, t + 1, by omega, sc1 _, rfl, hT2⟩
    · refine hQ σ2 (t + 1) (by omega) (Or.inr ?_) hT2
      have : ¬ ac (PN A b o 0) (WN A b) (prN A b o) p (t + 1) * WN A b ^ (dd - (t + 1)) < L := fun x => q2 ((pk_lLT (by omega) hL).mpr x)
      omega
theorem C_unbroken (hW : WF A) {b : Nat} (hb : b < 4) {o : Nat → Nat} (ho : ∀ i, i < 49 → o i ≤ 12) {u : Int32} (h : WK z σ A b o u) (hs : spX z σ) {p dd : Nat} (hp : p < 481) (hd : dd ≤ 6) {Q : Int64 → Me → Prop} (hQ : ∀ σ', WT z σ σ' A b o 1 p dd → Q (lN (pw (PN A b o 1) dd (fun _ => 1) p)) σ') : pX10_followUnbroken σ (z + 28) (z + (15 + 2 * b)) (sh p) (nI dd) Q := by
  refine ⟨(h.1.1.tg (28, 10, 0) (by decide)).1, ?_⟩
  rintro _ rfl
  refine C_go h hs hp 1 (fun σ0 h0 => ?_)
  refine ⟨fun nn σ1 w => ∃ t, t ≤ dd ∧ w = nI (t + 1) ∧ nn = dd - t ∧ WT z σ σ1 A b o 1 p t, ?_, dd, 0, by omega, rfl, rfl, h0⟩
  rintro nn σ1 w ⟨t, ht, rfl, rfl, hT⟩
  have hT' := hT
  obtain ⟨ca, cb, cc, cd, f, k, pl, ql, h1, h2, h3, h4, h5, h6, _⟩ := hT'
  have t28 : gT σ1 (z + 28) = 10 := (h2.1.1.tg (28, 10, 0) (by decide)).1
  refine ⟨fun q => ⟨t28, _, h2.1.1.rf (28, 1, 23) (by decide), (S_tag h2.1 h1).1, ?_⟩, fun q => ⟨t28, ?_⟩⟩
  · have : dd < t + 1 := (nI_ltI (by omega) (by omega)).mp q
    have e : t = dd := by omega
    subst e
    refine S_all h2.1 h1 h4 ?_
    rw [h6]
    exact hQ σ1 hT
  · have hlt : ¬ dd < t + 1 := fun x => q ((nI_ltI (by omega) (by omega)).mpr x)
    refine hT.day hW hb ho hp (by omega) (fun σ2 hT2 => ?_)
    rintro _ rfl
    exact ⟨dd - (t + 1), by omega, t + 1, by omega, sc1 _, rfl, hT2⟩
end FA
/-! Where two walks are one. -/
theorem pw_zero {A : Ab} {b : Nat} {o : Nat → Nat} {u : Int32} {D : Nat → Prop} {φ ψ : Nat → Nat} (hφ : ∀ q, ¬ D (posN q) → φ q = ψ q) : ∀ t p, (∀ i, D i → pw (PN A b o u) t (ind i) p = 0) → pw (PN A b o u) t φ p = pw (PN A b o u) t ψ p
  | 0, p, h => by
    refine hφ p (fun hD => ?_)
    have h1 : (if posN p = posN p then 1 else 0) = 0 := h _ hD
    rw [if_pos rfl] at h1
    omega
  | t + 1, p, h => by
    rw [pw_front, pw_front]
    refine sumN_cg _ (fun e he => ?_)
    show wN A b e * pw (PN A b o u) t φ (nxN A o p e) = wN A b e * pw (PN A b o u) t ψ (nxN A o p e)
    by_cases c : wN A b e = 0
    · rw [c, Nat.zero_mul, Nat.zero_mul]
    · rw [pw_zero hφ t _ (fun i hi => ?_)]
      have h1 := h i hi
      rw [pw_front] at h1
      have h2 := sumN_ge (fun e => wN A b e * pw (PN A b o u) t (ind i) (nxN A o p e)) _ e he
      have h3 : wN A b e * pw (PN A b o u) t (ind i) (nxN A o p e) = 0 := by
        have h4 : PN A b o u (pw (PN A b o u) t (ind i)) p = sumN (fun e => wN A b e * pw (PN A b o u) t (ind i) (nxN A o p e)) (mdN A o u p + 1) := rfl
        have h5 : wN A b e * pw (PN A b o u) t (ind i) (nxN A o p e) ≤ sumN (fun e => wN A b e * pw (PN A b o u) t (ind i) (nxN A o p e)) (mdN A o u p + 1) := h2
        omega
      rcases Nat.mul_eq_zero.mp h3 with h4 | h4
      · exact absurd h4 c
      · exact h4
theorem PN_off {A : Ab} {b : Nat} {o o' : Nat → Nat} {u : Int32} {p : Nat} (h : o' (posN p) = o (posN p)) (φ : Nat → Nat) : PN A b o' u φ p = PN A b o u φ p ∧ prN A b o' p = prN A b o p := by
  have e1 : xS A o' p = xS A o p := by unfold xS; rw [h]
  have e2 : cmN A o' p = cmN A o p := by unfold cmN; rw [h]
  have e3 : ncN A o' p = ncN A o p := by unfold ncN; rw [h]
  have e4 : ∀ e, nxN A o' p e = nxN A o p e := fun e => by unfold nxN; rw [e1, e2, e3]
  have e5 : mdN A o' u p = mdN A o u p := by unfold mdN; rw [e1]
  refine ⟨?_, by unfold prN; rw [e1, h]⟩
  unfold PN
  rw [e5]
  exact sumN_cg _ (fun e _ => by rw [e4])
theorem pw_same {A : Ab} {b : Nat} {o o' : Nat → Nat} {u : Int32} {D : Nat → Prop} (ho : ∀ i, ¬ D i → o' i = o i) : ∀ t φ p, (∀ t', t' < t → ∀ i, D i → pw (PN A b o u) t' (ind i) p = 0) → pw (PN A b o' u) t φ p = pw (PN A b o u) t φ p
  | 0, φ, p, h => rfl
  | t + 1, φ, p, h => by
    show pw (PN A b o' u) t (PN A b o' u φ) p = pw (PN A b o u) t (PN A b o u φ) p
    rw [pw_same ho t _ p (fun t' ht' => h t' (by omega))]
    exact pw_zero (D := D) (fun q hq => (PN_off (ho _ hq) φ).1) t p (h t (by omega))
theorem ac_same {A : Ab} {b : Nat} {o o' : Nat → Nat} {u : Int32} {D : Nat → Prop} (ho : ∀ i, ¬ D i → o' i = o i) {p : Nat} : ∀ t, (∀ t', t' < t → ∀ i, D i → pw (PN A b o u) t' (ind i) p = 0) → ac (PN A b o' u) (WN A b) (prN A b o') p t = ac (PN A b o u) (WN A b) (prN A b o) p t
  | 0, h => rfl
  | t + 1, h => by
    show ac (PN A b o' u) (WN A b) (prN A b o') p t * WN A b + pw (PN A b o' u) t (prN A b o') p = ac (PN A b o u) (WN A b) (prN A b o) p t * WN A b + pw (PN A b o u) t (prN A b o) p
    rw [ac_same ho t (fun t' ht' => h t' (by omega)), pw_same ho t _ p (fun t' ht' => h t' (by omega)), pw_zero (D := D) (φ := prN A b o') (ψ := prN A b o) (fun q hq => (PN_off (u := u) (ho _ hq) (fun _ => 0)).2) t p (h t (by omega))]
