abbrev gdR (k a b : Int32) : Prop := (k = 1 ∧ inr a 0 12) ∨ (k = 2 ∧ inr b 0 12 ∧ inr a (-12) (b - 1)) ∨ (k = 3 ∧ inr a (-12) 12 ∧ inr b 1 12)
def adR (A : Ab) (k l h q s : Int32) : Ab := aS (aS (aS (aS (aS (aS (aS A 10 (ix (A.1 9 0)) k) 11 (ix (A.1 9 0)) l) 12 (ix (A.1 9 0)) h) 13 (ix (A.1 9 0)) q) 14 (ix (A.1 9 0)) s) 16 (ix (A.1 9 0)) 0) 9 0 (A.1 9 0 + 1)
def tbl (A : Ab) (s m : Nat) : Ab := (fun f k => if f = 15 ∧ 25 * ix (A.1 9 0) ≤ k ∧ k < 25 * ix (A.1 9 0) + m then A.1 8 (25 * s + (k - 25 * ix (A.1 9 0))) else A.1 f k, A.2)
theorem tbl_0 (A : Ab) (s : Nat) : tbl A s 0 = A := by
  unfold tbl
  refine Prod.ext (funext fun g => funext fun k => ?_) rfl
  show (if g = 15 ∧ 25 * ix (A.1 9 0) ≤ k ∧ k < 25 * ix (A.1 9 0) + 0 then _ else A.1 g k) = _
  rw [if_neg (by omega)]
theorem tbl_succ (A : Ab) (s m : Nat) : aS (tbl A s m) 15 (25 * ix (A.1 9 0) + m) (A.1 8 (25 * s + m)) = tbl A s (m + 1) := by
  unfold tbl aS
  generalize 25 * ix (A.1 9 0) = c
  refine Prod.ext (funext fun g => funext fun k => ?_) rfl
  show (if g = 15 ∧ k = c + m then A.1 8 (25 * s + m) else if g = 15 ∧ c ≤ k ∧ k < c + m then A.1 8 (25 * s + (k - c)) else A.1 g k) = (if g = 15 ∧ c ≤ k ∧ k < c + (m + 1) then A.1 8 (25 * s + (k - c)) else A.1 g k)
  by_cases h2 : g = 15 ∧ k = c + m
  · rw [if_pos h2, if_pos (show g = 15 ∧ c ≤ k ∧ k < c + (m + 1) by omega), h2.2, show c + m - c = m by omega]
  · rw [if_neg h2]
    by_cases h1 : g = 15 ∧ c ≤ k ∧ k < c + m
    · rw [if_pos h1, if_pos (show g = 15 ∧ c ≤ k ∧ k < c + (m + 1) by omega)]
    · rw [if_neg h1, if_neg (show ¬ (g = 15 ∧ c ≤ k ∧ k < c + (m + 1)) by omega)]
theorem tbl_ne {A : Ab} {s m f k : Nat} (h : f ≠ 15) : (tbl A s m).1 f k = A.1 f k := if_neg (fun q => h q.1)
def sRule (A : Ab) (k a b : Int32) : Int32 × Ab := if gdR k a b then (if A.1 9 0 = 12 then (-2, A) else (A.1 9 0, if k = 1 then adR A 1 (-9) a (-9) (-9) else if k = 2 then adR A 2 a b (-9) (-9) else adR A 3 a (-9) b (-9))) else (-1, A)
def sTable (A : Ab) (x : Int32) : Int32 × Ab := if inr x 0 3 then (if A.1 9 0 = 12 then (-2, A) else if 0 ≤ A.1 7 (ix x) then (A.1 9 0, adR (tbl A (ix x) 25) 0 (-9) (-9) (-9) (A.1 7 (ix x))) else (-3, fnd A 1)) else (-1, A)
section MT
variable {z n : Nat} {σ : Me} {A : Ab}
theorem M_add (h : RM (z + 36) n σ A) {R : Nat} (hR : R < 12) (e9 : A.1 9 0 = nI R) {k l t q s : Int32} {Q : Int32 → Me → Prop} (hQ : ∀ σ', RM (z + 36) n σ' (adR A k l t q s) → frX z σ σ' → Q (A.1 9 0) σ') : pX12_add σ (z + 36) k l t q s Q := by
  have g9 : gI σ (z + 36) 9 = nI R := (h.sc 9 (by decide)).trans e9
  have ec : (nI R).toNatClampNeg = R := nI_clamp (by omega)
  have h1 := h.setA (q := (10, 7, 12)) (by decide) R k
  have h2 := h1.setA (q := (11, 8, 12)) (by decide) R l
  have h3 := h2.setA (q := (12, 9, 12)) (by decide) R t
  have h4 := h3.setA (q := (13, 10, 12)) (by decide) R q
  have h5 := h4.setA (q := (14, 11, 12)) (by decide) R s
  have h6 := h5.setA (q := (16, 13, 12)) (by decide) R 0
  have h7 := h6.setS (f := 9) (by decide) (nI R + 1)
  have at_ : ∀ {σ' : Me} {A' : Ab}, RM (z + 36) n σ' A' → ∀ f o t, (f, o, t, 12) ∈ rowsM → gP σ' (z + 36) f = some (z + 36 + o) ∧ gT σ' (z + 36 + o) = t ∧ vp_in (nI R) (gN σ' (z + 36 + o)) := fun h f o t hq => M_at h f o 12 hq hR (by omega)
  have ne : ∀ {σ' : Me} {o j : Nat} {v : Int32}, 0 < o → gI σ' (z + 36) 9 = nI R → gI (sI σ' (z + 36 + o) j v) (z + 36) 9 = nI R := fun ho hg => by rw [gI_sI_ne (by omega)]; exact hg
  have n1 := ne (o := 7) (j := R) (v := k) (by omega) g9
  have n2 := ne (o := 8) (j := R) (v := l) (by omega) n1
  have n3 := ne (o := 9) (j := R) (v := t) (by omega) n2
  have n4 := ne (o := 10) (j := R) (v := q) (by omega) n3
  have n5 := ne (o := 11) (j := R) (v := s) (by omega) n4
  have n6 := ne (o := 13) (j := R) (v := 0) (by omega) n5
  obtain ⟨a1, a2, a3⟩ := at_ h 10 7 20 (by decide)
  refine ⟨h.1.1, _, a1, a2, by rw [g9]; exact a3, ?_⟩
  rintro _ rfl
  rw [g9, ec]
  obtain ⟨a1, a2, a3⟩ := at_ h1 11 8 20 (by decide)
  refine ⟨_, a1, a2, by rw [n1]; exact a3, ?_⟩
  rintro _ rfl
  rw [n1, ec]
  obtain ⟨a1, a2, a3⟩ := at_ h2 12 9 20 (by decide)
  refine ⟨_, a1, a2, by rw [n2]; exact a3, ?_⟩
  rintro _ rfl
  rw [n2, ec]
  obtain ⟨a1, a2, a3⟩ := at_ h3 13 10 20 (by decide)
  refine ⟨_, a1, a2, by rw [n3]; exact a3, ?_⟩
  rintro _ rfl
  rw [n3, ec]
  obtain ⟨a1, a2, a3⟩ := at_ h4 14 11 20 (by decide)
  refine ⟨_, a1, a2, by rw [n4]; exact a3, ?_⟩
  rintro _ rfl
  rw [n4, ec]
  obtain ⟨a1, a2, a3⟩ := at_ h5 16 13 22 (by decide)
  refine ⟨_, a1, a2, by rw [n5]; exact a3, ?_⟩
  rintro _ rfl
  rw [n5, ec]
  rintro _ rfl
  rw [show vp_nar FieldType.boolean 0 = 0 by decide, n6, gI_sI_eq, nI_1, nI_pred, ← e9]
  refine hQ _ ?_ ?_
  · unfold adR
    rw [e9, show ix (nI R) = R from ec, ← nI_1]
    exact h7
  · exact ((((((frX.sI (by omega) (by omega)).tr (.sI (by omega) (by omega))).tr (.sI (by omega) (by omega))).tr (.sI (by omega) (by omega))).tr (.sI (by omega) (by omega))).tr (.sI (by omega) (by omega))).tr (.sI (by omega) (by omega))
theorem M_table (h : RM (z + 36) n σ A) (hU : WFu A) (hB : ∀ j, j < 100 → (A.1 8 j).toInt8.toInt32 = A.1 8 j) {x : Int32} {Q : Int32 → Me → Prop} (hQ : ∀ σ', RM (z + 36) n σ' (sTable A x).2 → frX z σ σ' → Q (sTable A x).1 σ') : pX12_table σ (z + 36) x Q := by
  unfold sTable at hQ
  refine e_isPlace (fun hx => ⟨fun q => absurd q (by decide), fun _ => ?_⟩) (fun hx => ⟨fun _ => by rw [if_neg hx] at hQ; exact hQ _ h .rf, fun q => absurd rfl q⟩)
  rw [if_pos hx] at hQ
  obtain ⟨b, hb, rfl⟩ := i3 hx
  rw [ixn (show b < 2 ^ 31 by omega)] at hQ
  obtain ⟨⟨R, hR, e9, -⟩, -⟩ := hU
  have g9 : gI σ (z + 36) 9 = A.1 9 0 := h.sc 9 (by decide)
  obtain ⟨a1, a2, a3⟩ := M_at h 7 5 4 (t := 20) (by decide) (show b < 4 by omega) (by omega)
  have e7 : gI σ (z + 36 + 5) (nI b).toNatClampNeg = A.1 7 b := by rw [nI_clamp (by omega)]; exact h.ar (7, 5, 4) (by decide) (show b < 4 by omega)
  refine ⟨h.1.1, ?_⟩
  rw [g9]
  refine ⟨fun h2 => by rw [if_pos h2] at hQ; exact hQ _ h .rf, fun h2 => ⟨_, a1, a2, a3, ?_⟩⟩
  rw [if_neg h2] at hQ
  have hR12 : R < 12 := by
    rcases Nat.lt_or_ge R 12 with q | q
    · exact q
    · exact absurd (by rw [e9, show R = 12 by omega]; decide) h2
  have ec : ix (A.1 9 0) = R := by rw [e9]; exact ixn (by omega)
  rw [e7]
  refine ⟨fun h3 => ?_, fun h3 => by rw [if_neg h3] at hQ; exact M_fnd h (k := 1) (by omega) hQ⟩
  rw [if_pos h3] at hQ
  refine ⟨fun k σ' w => ∃ j, j ≤ 25 ∧ w = nI j ∧ k = 25 - j ∧ RM (z + 36) n σ' (tbl A b j) ∧ frX z σ σ', ?_, 25, 0, by omega, rfl, rfl, by rw [tbl_0]; exact h, .rf⟩
  rintro k σ' w ⟨j, hj, rfl, rfl, h4, f4⟩
  have t9 : (tbl A b j).1 9 0 = nI R := (tbl_ne (by decide)).trans e9
  refine ⟨fun hc => ?_, fun hc => ?_⟩
  · have h7 : 25 ≤ j := (le_c (a := 25) rfl (by omega) (by omega)).mp hc
    have : j = 25 := by omega
    subst this
    obtain ⟨b1, b2, b3⟩ := M_at h4 7 5 4 (t := 20) (by decide) (show b < 4 by omega) (by omega)
    refine ⟨h4.1.1, _, b1, b2, b3, ?_⟩
    rw [nI_clamp (show b < 2 ^ 31 by omega), h4.ar (7, 5, 4) (by decide) (show b < 4 by omega), show (tbl A b 25).1 7 b = A.1 7 b from tbl_ne (by decide)]
    refine M_add h4 hR12 t9 (fun σ'' h5 f5 => ?_)
    rw [show (tbl A b 25).1 9 0 = A.1 9 0 from tbl_ne (by decide)]
    exact hQ _ h5 (f4.tr f5)
  · have h7 : ¬ 25 ≤ j := fun q => hc ((le_c (a := 25) rfl (by omega) (by omega)).mpr q)
    have s9 : gI σ' (z + 36) 9 = nI R := (h4.sc 9 (by decide)).trans t9
    obtain ⟨b1, b2, b3⟩ := M_at h4 15 12 300 (t := 23) (by decide) (show 25 * R + j < 300 by omega) (by omega)
    obtain ⟨c1, c2, c3⟩ := M_at h4 8 6 100 (t := 23) (by decide) (show 25 * b + j < 100 by omega) (by omega)
    rw [ix25]
    refine ⟨h4.1.1, _, b1, _, c1, c2, c3, b2, by rw [s9, ix25]; exact b3, ?_⟩
    rintro _ rfl _ rfl
    refine ⟨25 - (j + 1), by omega, j + 1, by omega, sc1 j, rfl, ?_, f4.tr (.sI (by omega) (by show z + 36 + 12 < _; omega))⟩
    rw [s9, ix25, nI_clamp (show 25 * R + j < 2 ^ 31 by omega), nI_clamp (show 25 * b + j < 2 ^ 31 by omega), h4.ar (8, 6, 100) (by decide) (show 25 * b + j < 100 by omega), show (tbl A b j).1 8 (25 * b + j) = A.1 8 (25 * b + j) from tbl_ne (by decide), vp_nar_byte, hB _ (by omega), ← tbl_succ, ec]
    exact h4.setA (q := (15, 12, 300)) (by decide) (25 * R + j) _
end MT
