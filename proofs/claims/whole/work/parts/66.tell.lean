/-! What is told: the two numbers without a common divisor. -/
def sTell (A : Ab) (u l : Nat) : Ab := (A.1, lN (u / Nat.gcd u l), lN (l / Nat.gcd u l))
theorem half_rem {a b : Nat} (h0 : 0 < b) (h : b < a) : 2 * (a % b) < a := by
  have h1 := Nat.mod_lt a h0
  have h2 := Nat.div_add_mod a b
  have h3 : 1 ≤ a / b := Nat.div_pos (by omega) h0
  have h4 : b * 1 ≤ b * (a / b) := Nat.mul_le_mul_left b h3
  omega
section TL
variable {z n : Nat} {σ : Me} {A : Ab}
theorem M_gcd {u l : Nat} (hu : u < 2 ^ 63) (hl : l < 2 ^ 63) {Q : Int64 → Me → Prop} (hQ : Q (lN (Nat.gcd u l)) σ) : pX12_gcd σ (lN u) (lN l) Q := by
  refine ⟨fun k σ' x y => σ' = σ ∧ ∃ a b, a < 2 ^ 63 ∧ b < 2 ^ 63 ∧ x = lN a ∧ y = lN b ∧ k = b ∧ Nat.gcd a b = Nat.gcd u l, ?_, l, rfl, u, l, hu, hl, rfl, rfl, rfl, rfl⟩
  rintro k σ1 x y ⟨es, a, b, ha, hb, rfl, rfl, rfl, hg⟩
  rw [es]
  have hz : lN k = 0 ↔ k = 0 := pk_lEQ (b := 0) hb (by omega)
  refine ⟨fun e => ?_, fun e => ⟨e, ?_⟩⟩
  · have e0 := hz.mp e
    rw [e0, Nat.gcd_zero_right] at hg
    rw [hg]
    exact hQ
  · have e0 : 0 < k := Nat.pos_of_ne_zero (fun q => e (hz.mpr q))
    rintro _ rfl
    rw [pk_lRem ha e0 hb]
    have hm := Nat.mod_lt a e0
    refine ⟨a % k, hm, rfl, k, a % k, hb, by omega, rfl, rfl, rfl, ?_⟩
    rw [← hg, Nat.gcd_comm a k, Nat.gcd_rec k a, Nat.gcd_comm]
theorem M_tells (h : RM (z + 36) n σ A) {u l : Nat} (hu : u < 2 ^ 63) (hl : l < 2 ^ 63) (h0 : 0 < l) {x : Int32} {Q : Int32 → Me → Prop} (hQ : ∀ σ', RM (z + 36) n σ' (sTell A u l) → frX z σ σ' → Q x σ') : pX12_tells σ (z + 36) (lN u) (lN l) x Q := by
  have hg : 0 < Nat.gcd u l := Nat.gcd_pos_of_pos_right u h0
  have hgl : Nat.gcd u l ≤ l := Nat.le_of_dvd h0 (Nat.gcd_dvd_right u l)
  have ne : ¬ lN (Nat.gcd u l) = 0 := fun e => by
    have := (pk_lEQ (b := 0) (show Nat.gcd u l < 2 ^ 63 by omega) (by omega)).mp e
    omega
  refine M_gcd hu hl ⟨ne, h.1.1, ?_⟩
  rintro _ rfl
  refine ⟨ne, ?_⟩
  rintro _ rfl
  rw [pk_lDiv hu hg (by omega), pk_lDiv hl hg (by omega)]
  exact hQ _ (h.tell _ _) ((frX.sL (by omega) (by omega)).tr (.sL (by omega) (by omega)))
theorem X_common {u l : Nat} (hu : u < 2 ^ 63) (hl : l < 2 ^ 63) {Q : Int64 → Me → Prop} (hQ : Q (lN (Nat.gcd u l)) σ) : pX11_commonDivisor σ (lN u) (lN l) Q := by
  refine ⟨fun k σ' x y w => σ' = σ ∧ ∃ a b s t, a < 2 ^ 63 ∧ b < 2 ^ 63 ∧ x = lN a ∧ y = lN b ∧ w = nI s ∧ k = 126 - s ∧ s ≤ 126 ∧ Nat.gcd a b = Nat.gcd u l ∧ ((b < 2 ^ t ∧ s + 2 * t ≤ 126) ∨ (b < a ∧ a < 2 ^ (t + 1) ∧ s + 2 * t + 1 ≤ 126)), ?_, 126, rfl, u, l, 0, 63, hu, hl, rfl, rfl, rfl, rfl, by omega, rfl, .inl ⟨hl, by omega⟩⟩
  rintro k σ1 x y w ⟨es, a, b, s, t, ha, hb, rfl, rfl, rfl, rfl, hs, hg, ht⟩
  rw [es]
  have hz : lN b = 0 ↔ b = 0 := pk_lEQ (b := 0) hb (by omega)
  refine ⟨fun e => ?_, fun _ => ⟨fun e => ?_, fun e => ⟨e, ?_⟩⟩⟩
  · have : 200 ≤ s := (le_c (a := 200) rfl (by omega) (by omega)).mp e
    omega
  · have e0 := hz.mp e
    rw [e0, Nat.gcd_zero_right] at hg
    rw [hg]
    exact hQ
  · have e0 : 0 < b := Nat.pos_of_ne_zero (fun q => e (hz.mpr q))
    rintro _ rfl _ rfl
    rw [pk_lRem ha e0 hb]
    have hm := Nat.mod_lt a e0
    have hg2 : Nat.gcd b (a % b) = Nat.gcd u l := by rw [← hg, Nat.gcd_comm a b, Nat.gcd_rec b a, Nat.gcd_comm]
    rcases ht with ⟨h1, h2⟩ | ⟨h1, h2, h3⟩
    · have ht0 : t ≠ 0 := fun q => by
        rw [q] at h1
        omega
      obtain ⟨t', rfl⟩ : ∃ t', t = t' + 1 := ⟨t - 1, by omega⟩
      exact ⟨126 - (s + 1), by omega, rfl, b, a % b, s + 1, t', hb, by omega, rfl, rfl, sc1 s, rfl, by omega, hg2, .inr ⟨hm, h1, by omega⟩⟩
    · have hh := half_rem e0 h1
      have h4 : a % b < 2 ^ t := by
        rw [Nat.pow_succ] at h2
        omega
      exact ⟨126 - (s + 1), by omega, rfl, b, a % b, s + 1, t, hb, by omega, rfl, rfl, sc1 s, rfl, by omega, hg2, .inl ⟨h4, by omega⟩⟩
theorem X_tell (h : RX z σ A) {u l : Nat} (hu : u < 2 ^ 63) (hl : l < 2 ^ 63) (h0 : 0 < l) {Q : Int32 → Me → Prop} (hQ : ∀ σ', RX z σ' (sTell A u l) → frM z σ σ' → Q 1 σ') : pX11_tell σ z (lN u) (lN l) Q := by
  have hg : 0 < Nat.gcd u l := Nat.gcd_pos_of_pos_right u h0
  have hgl : Nat.gcd u l ≤ l := Nat.le_of_dvd h0 (Nat.gcd_dvd_right u l)
  have ne : ¬ lN (Nat.gcd u l) = 0 := fun e => by
    have := (pk_lEQ (b := 0) (show Nat.gcd u l < 2 ^ 63 by omega) (by omega)).mp e
    omega
  refine X_common hu hl ⟨fun q => ?_, fun _ => ⟨fun _ => ⟨ne, X_tag h, ?_⟩, fun q => ?_⟩⟩
  · have := (pk_lLE (b := 0) hl (by omega)).mp q
    omega
  · rintro _ rfl
    refine ⟨ne, ?_⟩
    rintro _ rfl
    rw [pk_lDiv hu hg (by omega), pk_lDiv hl hg (by omega)]
    exact hQ _ (h.tell _ _) ((frM.sL (by omega)).tr (.sL (by omega)))
  · exact absurd ((pk_lLT (a := 0) (by omega) (show Nat.gcd u l < 2 ^ 63 by omega)).mpr hg) q
theorem X_tell0 (h : RX z σ A) {u : Nat} (hu : u < 2 ^ 63) {Q : Int32 → Me → Prop} (hQ : ∀ σ', RX z σ' (sTell A 0 1) → frM z σ σ' → Q 1 σ') : pX11_tell σ z (lN u) (lN 0) Q := by
  refine X_common hu (by omega) ⟨fun _ => ⟨X_tag h, ?_⟩, fun q => absurd (by decide) q⟩
  rintro _ rfl _ rfl
  exact hQ _ (h.tell _ _) ((frM.sL (by omega)).tr (.sL (by omega)))
end TL
