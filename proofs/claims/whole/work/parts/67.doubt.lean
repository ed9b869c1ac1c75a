/-! Weights as natural numbers; doubts. -/
def sumN (f : Nat → Nat) : Nat → Nat
  | 0 => 0
  | n + 1 => sumN f n + f n
def wN (A : Ab) (b d : Nat) : Nat := ix (A.1 5 (7 * b + d))
def WN (A : Ab) (b : Nat) : Nat := sumN (wN A b) 7
def DN (A : Ab) (b : Nat) : Nat := sumN (fun d => d * wN A b d) 7
def psN (A : Ab) (b : Nat) : Nat → Nat
  | 0 => 1
  | j + 1 => psN A b j * wN A b (ix (A.1 56 j))
theorem wN_eq {A : Ab} (hW : WF A) {b d : Nat} (hb : b < 4) (hd : d < 7) : A.1 5 (7 * b + d) = nI (wN A b d) ∧ wN A b d ≤ 9 := by
  obtain ⟨w, h1, h2⟩ := hW.2.1 (7 * b + d) (by omega)
  have : wN A b d = w := by
    unfold wN
    rw [h2]
    exact ixn (by omega)
  rw [this]
  exact ⟨h2, h1⟩
theorem sumN_le {f : Nat → Nat} {c : Nat} : ∀ n, (∀ i, i < n → f i ≤ c) → sumN f n ≤ c * n
  | 0, _ => Nat.le_refl _
  | n + 1, h => by
    have h1 := sumN_le n (fun i hi => h i (by omega))
    have h2 := h n (by omega)
    show sumN f n + f n ≤ c * (n + 1)
    rw [Nat.mul_succ]
    omega
theorem sumN_cg {f g : Nat → Nat} : ∀ n, (∀ i, i < n → f i = g i) → sumN f n = sumN g n
  | 0, _ => rfl
  | n + 1, h => by
    show sumN f n + f n = sumN g n + g n
    rw [sumN_cg n (fun i hi => h i (by omega)), h n (by omega)]
theorem sW_eq {A : Ab} (hW : WF A) {b : Nat} (hb : b < 4) : ∀ k, k ≤ 7 → sW A b k = nI (sumN (wN A b) k)
  | 0, _ => rfl
  | k + 1, hk => by
    show sW A b k + A.1 5 (7 * b + k) = nI (sumN (wN A b) k + wN A b k)
    rw [sW_eq hW hb k (by omega), (wN_eq hW hb (show k < 7 by omega)).1, nI_add]
theorem sD_eq {A : Ab} (hW : WF A) {b : Nat} (hb : b < 4) : ∀ k, k ≤ 7 → sD A b k = nI (sumN (fun d => d * wN A b d) k)
  | 0, _ => rfl
  | k + 1, hk => by
    show sD A b k + nI k * A.1 5 (7 * b + k) = nI (sumN (fun d => d * wN A b d) k + k * wN A b k)
    rw [sD_eq hW hb k (by omega), (wN_eq hW hb (show k < 7 by omega)).1, pk_mul, nI_add]
theorem WN_le {A : Ab} (hW : WF A) {b : Nat} (hb : b < 4) : WN A b ≤ 63 := sumN_le (c := 9) 7 (fun d hd => (wN_eq hW hb hd).2)
theorem DN_le {A : Ab} (hW : WF A) {b : Nat} (hb : b < 4) : DN A b ≤ 378 := sumN_le (c := 54) 7 (fun d hd => by
  have h1 := (wN_eq hW hb hd).2
  have h2 : d * wN A b d ≤ 6 * 9 := Nat.mul_le_mul (by omega) h1
  omega)
theorem pow_le63 {w k : Nat} (hw : w ≤ 63) (hk : k ≤ 6) : w ^ k ≤ 62523502209 := by
  have h1 : w ^ k ≤ 63 ^ k := Nat.pow_le_pow_left hw k
  have h2 : (63 : Nat) ^ k ≤ 63 ^ 6 := Nat.pow_le_pow_right (by omega) hk
  omega
theorem psN_le {A : Ab} (hW : WF A) {b : Nat} (hb : b < 4) : ∀ j, j ≤ 6 → psN A b j ≤ 9 ^ j
  | 0, _ => Nat.le_refl _
  | j + 1, h => by
    obtain ⟨d, h1, h2⟩ := hW.2.2.2.2.2.2.2.2.2.2 j (by omega)
    have e : ix (A.1 56 j) = d := by rw [h2]; exact ixn (by omega)
    show psN A b j * wN A b (ix (A.1 56 j)) ≤ 9 ^ j * 9
    rw [e]
    exact Nat.mul_le_mul (psN_le hW hb j (by omega)) (wN_eq hW hb (by omega)).2
theorem pow_le9 {k : Nat} (hk : k ≤ 6) : 9 ^ k ≤ 531441 := Nat.pow_le_pow_right (n := 9) (by omega) hk
/-- how often it is so, by the first book and by the other -/
def dbN (A : Ab) (u p q : Nat) : Nat := u * psN A p (ix (A.1 55 0)) * WN A q ^ ix (A.1 55 0)
def sDoubt (A : Ab) (p q u v : Int32) : Int32 × Ab := if inr p 0 3 ∧ inr q 0 3 ∧ ¬ p = q ∧ inr u 1 9 ∧ inr v 1 9 then (if A.1 4 (ix p) = 0 ∨ A.1 4 (ix q) = 0 then (-3, fnd A 1) else if WN A (ix p) = 0 ∨ WN A (ix q) = 0 ∨ dbN A (ix u) (ix p) (ix q) + dbN A (ix v) (ix q) (ix p) = 0 then (-3, fnd A 4) else (1, sTell A (dbN A (ix u) (ix p) (ix q)) (dbN A (ix u) (ix p) (ix q) + dbN A (ix v) (ix q) (ix p)))) else (-1, A)
theorem i9 {x : Int32} (h : inr x 1 9) : ∃ b : Nat, 1 ≤ b ∧ b ≤ 9 ∧ x = nI b := by
  have h0 : (0 : Int32) ≤ x := by
    have a1 := Int32.le_iff_toInt_le.mp h.1
    have e1 : (1 : Int32).toInt = 1 := by decide
    have e0 : (0 : Int32).toInt = 0 := by decide
    exact Int32.le_iff_toInt_le.mpr (by omega)
  obtain ⟨b, hb, rfl⟩ := inr_ix (x := x) (n := 9) ⟨h0, h.2⟩ (by omega)
  exact ⟨b, (nI_leI (a := 1) (by omega) (by omega)).mp h.1, hb, rfl⟩
theorem db_le {A : Ab} (hW : WF A) {u p q : Nat} (hu : u ≤ 9) (hp : p < 4) (hq : q < 4) : dbN A u p q ≤ 9 * 531441 * 62523502209 := by
  obtain ⟨k, hk, ek⟩ := hW.2.2.2.2.2.2.2.2.2.1
  have e : ix (A.1 55 0) = k := by rw [ek]; exact ixn (by omega)
  unfold dbN
  rw [e]
  exact Nat.mul_le_mul (Nat.mul_le_mul hu (Nat.le_trans (psN_le hW hp k hk) (pow_le9 hk))) (pow_le63 (WN_le hW hq) hk)
section DB
variable {z n : Nat} {σ : Me} {A : Ab}
theorem X_rowsOf (h : RX z σ A) (hW : WF A) {b : Nat} (hb : b < 4) {k : Nat} (hk : k < 2 ^ 31) {Q : Int64 → Me → Prop} (hQ : Q (lN (WN A b ^ k)) σ) : pX11_rowsOf σ (z + (15 + 2 * b)) (nI k) Q := by
  refine ⟨(X_book1 h hb).1, X_all h hb ?_⟩
  rintro _ rfl
  rw [sW_eq hW hb 7 (by omega), nI_l (by have := WN_le hW hb; unfold WN at this; omega)]
  show ∃ I : Nat → Me → Int64 → Int32 → Prop, (∀ (n12 : Nat) (σ5 : Me) (x4_6 : Int64) (x6_7 : Int32), I n12 σ5 x4_6 x6_7 → (nI k ≤ x6_7 → Q x4_6 σ5) ∧ (¬ nI k ≤ x6_7 → ∀ x4_10 : Int64, x4_10 = x4_6 * lN (WN A b) → _)) ∧ _
  refine ⟨fun m σ' v w => σ' = σ ∧ ∃ j, j ≤ k ∧ w = nI j ∧ m = k - j ∧ v = lN (WN A b ^ j), ?_, k, rfl, 0, by omega, rfl, rfl, rfl⟩
  rintro m σ1 v w ⟨es, j, hj, rfl, rfl, rfl⟩
  rw [es]
  refine ⟨fun hc => ?_, fun hc => ?_⟩
  · have : k ≤ j := (nI_leI hk (by omega)).mp hc
    rw [show k = j by omega] at hQ
    exact hQ
  · have : ¬ k ≤ j := fun q => hc ((nI_leI hk (by omega)).mpr q)
    rintro _ rfl _ rfl
    exact ⟨k - (j + 1), by omega, rfl, j + 1, by omega, sc1 j, rfl, by rw [lN_mul, Nat.pow_succ]⟩
theorem X_seenW (h : RX z σ A) (hW : WF A) {b : Nat} (hb : b < 4) {Q : Int64 → Me → Prop} (hQ : Q (lN (psN A b (ix (A.1 55 0)))) σ) : pX11_weightOfSeen σ z (z + (15 + 2 * b)) Q := by
  obtain ⟨k, hk, ek⟩ := hW.2.2.2.2.2.2.2.2.2.1
  have e : ix (A.1 55 0) = k := by rw [ek]; exact ixn (by omega)
  have t := h.1.tg (13, 20, 6) (by decide)
  have r := h.1.rf (0, 12, 13) (by decide)
  have g : gI σ z 13 = nI k := (h.ce (55, 0, 0, 13) (by decide)).trans ek
  rw [e] at hQ
  refine ⟨fun m σ' v w => σ' = σ ∧ ∃ j, j ≤ k ∧ w = nI j ∧ m = k - j ∧ v = lN (psN A b j), ?_, k, rfl, 0, by omega, rfl, rfl, rfl⟩
  rintro m σ1 v w ⟨es, j, hj, rfl, rfl, rfl⟩
  rw [es]
  refine ⟨X_tag h, ?_⟩
  rw [g]
  refine ⟨fun hc => ?_, fun hc => ⟨_, r, t.1, ?_⟩⟩
  · have : k ≤ j := (nI_leI (by omega) (by omega)).mp hc
    rw [show k = j by omega] at hQ
    exact hQ
  · have hjk : ¬ k ≤ j := fun q => hc ((nI_leI (by omega) (by omega)).mpr q)
    rw [t.2]
    refine ⟨fun q => absurd ((nI_leI (by show 6 < _; omega) (by omega)).mp q) (by show ¬ 6 ≤ j; omega), fun _ => ⟨vp_in_nI (show j < 6 by omega) (by show 6 < _; omega), (X_book1 h hb).1, ?_⟩⟩
    obtain ⟨d, h1, h2⟩ := hW.2.2.2.2.2.2.2.2.2.2 j (by omega)
    have e2 : ix (A.1 56 j) = d := by rw [h2]; exact ixn (by omega)
    rw [nI_clamp (show j < 2 ^ 31 by omega), show gI σ (z + (0, 12, 13).2.2) j = A.1 56 j from h.ce (56, j, 13, j) (ce56 j (by omega)), h2]
    refine X_weightOf h hb (by omega) ?_
    rintro _ rfl _ rfl
    have w := wN_eq hW hb (show d < 7 by omega)
    exact ⟨k - (j + 1), by omega, rfl, j + 1, by omega, sc1 j, rfl, by rw [w.1, nI_l (by omega), lN_mul]; show _ = lN (psN A b j * wN A b (ix (A.1 56 j))); rw [e2]⟩
theorem X_doubt (h : RX z σ A) (hW : WF A) {p q u v : Int32} {Q : Int32 → Me → Prop} (hQ : ∀ σ', RX z σ' (sDoubt A p q u v).2 → frM z σ σ' → Q (sDoubt A p q u v).1 σ') : pX11_doubt σ z p q u v Q := by
  unfold sDoubt at hQ
  refine e_isBook (fun h1 => ⟨fun q => absurd q (by decide), fun _ => ?_⟩) (fun h1 => ⟨fun _ => by rw [if_neg (fun q => h1 q.1)] at hQ; exact hQ _ h .rf, fun q => absurd rfl q⟩)
  refine e_isBook (fun h2 => ⟨fun q => absurd q (by decide), fun _ => ⟨fun h3 => ?_, fun h3 => ?_⟩⟩) (fun h1 => ⟨fun _ => by rw [if_neg (fun q => h1 q.2.1)] at hQ; exact hQ _ h .rf, fun q => absurd rfl q⟩)
  · rw [if_neg (fun q => q.2.2.1 h3)] at hQ
    exact hQ _ h .rf
  refine e_within (fun h4 => ⟨fun q => absurd q (by decide), fun _ => ?_⟩) (fun h1 => ⟨fun _ => by rw [if_neg (fun q => h1 q.2.2.2.1)] at hQ; exact hQ _ h .rf, fun q => absurd rfl q⟩)
  refine e_within (fun h5 => ⟨fun q => absurd q (by decide), fun _ => ?_⟩) (fun h1 => ⟨fun _ => by rw [if_neg (fun q => h1 q.2.2.2.2)] at hQ; exact hQ _ h .rf, fun q => absurd rfl q⟩)
  rw [if_pos ⟨h1, h2, h3, h4, h5⟩] at hQ
  obtain ⟨a, ha, rfl⟩ := i3 h1
  obtain ⟨b, hb, rfl⟩ := i3 h2
  obtain ⟨s, hs1, hs9, rfl⟩ := i9 h4
  obtain ⟨t, ht1, ht9, rfl⟩ := i9 h5
  rw [ixn (show a < 2 ^ 31 by omega), ixn (show b < 2 ^ 31 by omega), ixn (show s < 2 ^ 31 by omega), ixn (show t < 2 ^ 31 by omega)] at hQ
  obtain ⟨g1, g2, g3⟩ := X_books h
  obtain ⟨c1, -, -, -, c5, c6, -⟩ := X_book1 h (show a < 4 by omega)
  obtain ⟨d1, -, -, -, d5, d6, -⟩ := X_book1 h (show b < 4 by omega)
  have ca : (nI a).toNatClampNeg = a := nI_clamp (by omega)
  have cb : (nI b).toNatClampNeg = b := nI_clamp (by omega)
  have va : vp_in (nI a) (gN σ (z + 1)) := by rw [g3]; exact vp_in_nI (by omega) (by omega)
  have vb : vp_in (nI b) (gN σ (z + 1)) := by rw [g3]; exact vp_in_nI (by omega) (by omega)
  have Wa := sW_eq hW (show a < 4 by omega) 7 (by omega)
  have Wb := sW_eq hW (show b < 4 by omega) 7 (by omega)
  have la := WN_le hW (show a < 4 by omega)
  have lb := WN_le hW (show b < 4 by omega)
  have za : sW A a 7 = 0 ↔ WN A a = 0 := by rw [Wa]; exact nI_eq (b := 0) (by unfold WN at la; omega) (by omega)
  have zb : sW A b 7 = 0 ↔ WN A b = 0 := by rw [Wb]; exact nI_eq (b := 0) (by unfold WN at lb; omega) (by omega)
  rw [ca, cb]
  refine ⟨X_tag h, _, g1, g2, va, _, c5, c1, ?_⟩
  rw [c6]
  refine ⟨fun e => by rw [if_pos (.inl e)] at hQ; exact X_fnd h (k := 1) (by omega) (by omega) hQ, fun e1 => ⟨vb, _, d5, d1, ?_⟩⟩
  rw [d6]
  refine ⟨fun e => by rw [if_pos (.inr e)] at hQ; exact X_fnd h (k := 1) (by omega) (by omega) hQ, fun e2 => ⟨va, _, c5, c1, ?_⟩⟩
  rw [if_neg (fun q => q.elim e1 e2)] at hQ
  refine X_all h (by omega) ⟨fun e => ⟨X_tag h, by rw [if_pos (.inl (za.mp e))] at hQ; exact X_fnd h (k := 4) (by omega) (by omega) hQ⟩, fun e3 => ⟨X_tag h, _, g1, g2, vb, _, d5, d1, ?_⟩⟩
  refine X_all h (by omega) ⟨fun e => ⟨X_tag h, by rw [if_pos (.inr (.inl (zb.mp e)))] at hQ; exact X_fnd h (k := 4) (by omega) (by omega) hQ⟩, fun e4 => ⟨X_tag h, _, g1, g2, va, _, c5, ?_⟩⟩
  obtain ⟨k, hk, ek⟩ := hW.2.2.2.2.2.2.2.2.2.1
  have eix : ix (A.1 55 0) = k := by rw [ek]; exact ixn (by omega)
  have g13 : gI σ z 13 = nI k := (h.ce (55, 0, 0, 13) (by decide)).trans ek
  refine X_seenW h hW (by omega) ⟨X_tag h, _, g1, g2, vb, _, d5, ?_⟩
  rw [g13]
  refine X_rowsOf h hW (by omega) (by omega) ?_
  rintro _ rfl
  refine ⟨X_tag h, _, g1, g2, vb, _, d5, X_seenW h hW (by omega) ⟨X_tag h, _, g1, g2, va, _, c5, ?_⟩⟩
  rw [g13]
  refine X_rowsOf h hW (by omega) (by omega) ?_
  rintro _ rfl
  have b1 := db_le hW hs9 (show a < 4 by omega) (show b < 4 by omega)
  have b2 := db_le hW ht9 (show b < 4 by omega) (show a < 4 by omega)
  have f1 : (nI s).toInt64 * lN (psN A a (ix (A.1 55 0))) * lN (WN A b ^ k) = lN (dbN A s a b) := by
    unfold dbN
    rw [nI_l (by omega), lN_mul, lN_mul, eix]
  have f2 : (nI t).toInt64 * lN (psN A b (ix (A.1 55 0))) * lN (WN A a ^ k) = lN (dbN A t b a) := by
    unfold dbN
    rw [nI_l (by omega), lN_mul, lN_mul, eix]
  rw [f1, f2, lN_add]
  have z0 : lN (dbN A s a b + dbN A t b a) = 0 ↔ dbN A s a b + dbN A t b a = 0 := pk_lEQ (b := 0) (by omega) (by omega)
  refine ⟨fun e => ⟨X_tag h, by rw [if_pos (.inr (.inr (z0.mp e)))] at hQ; exact X_fnd h (k := 4) (by omega) (by omega) hQ⟩, fun e5 => ⟨X_tag h, ?_⟩⟩
  have n0 : ¬ dbN A s a b + dbN A t b a = 0 := fun q => e5 (z0.mpr q)
  rw [if_neg (fun q => q.elim (fun q => e3 (za.mpr q)) (fun q => q.elim (fun q => e4 (zb.mpr q)) n0))] at hQ
  exact X_tell h (by omega) (by omega) (by omega) hQ
end DB
