def thr (A : Ab) : Nat → Int32
  | 0 => 0
  | r + 1 => thr A r + (if A.1 16 r = 0 then 1 else 0)
def cntV (A : Ab) (w : Int32) : Int32 := if w = 0 then A.1 9 0 else if w = 1 then thr A (ix (A.1 9 0)) else if w = 2 then A.1 55 0 else if w = 3 then A.1 17 0 else if w = 4 then A.1 18 0 else if w = 5 then (if A.1 19 0 = 0 then 0 else 1) else -1
def itr (F : Nat → Int64 → Int64) (h : Int64) : Nat → Int64
  | 0 => h
  | j + 1 => F j (itr F h j)
def dgC (A : Ab) (w : Nat) (h : Int64) : Int64 := 31 * h + (cntV A (nI w)).toInt64
def dgP (A : Ab) (h : Int64) : Int64 := 31 * (31 * (31 * (31 * h + (A.1 20 0).toInt64) + (A.1 21 0).toInt64) + (A.1 22 0).toInt64) + (A.1 23 0).toInt64
def dgW (A : Ab) (b d : Nat) (h : Int64) : Int64 := 31 * h + (A.1 5 (7 * b + d)).toInt64
def dgB (A : Ab) (b : Nat) (h : Int64) : Int64 := if A.1 4 b = 0 then 31 * h - 1 else itr (dgW A b) h 7
def dgT (A : Ab) (r w : Nat) (h : Int64) : Int64 := 31 * h + (toldV A r (nI w)).toInt64
def dgR (A : Ab) (r : Nat) (h : Int64) : Int64 := if A.1 16 r = 0 then itr (dgT A r) h 5 else 31 * h - 1
def dgY (A : Ab) (s i : Nat) (h : Int64) : Int64 := 31 * h + (A.1 8 (25 * s + i)).toInt64
def dgS (A : Ab) (s : Nat) (h : Int64) : Int64 := itr (dgY A s) (31 * h + (A.1 7 s).toInt64) (ix (A.1 7 s))
def sDigest (A : Ab) : Int64 := itr (dgS A) (itr (dgR A) (itr (dgB A) (dgP A (itr (dgC A) 17 6)) 4) (ix (A.1 9 0))) 4
theorem lt_c {a k : Nat} {c : Int32} (hc : c = nI a) (ha : a < 2 ^ 31) (hk : k < 2 ^ 31) : c < nI k ↔ a < k := by rw [hc]; exact nI_ltI ha hk
section DG
variable {z n : Nat} {σ : Me} {A : Ab}
theorem M_count (h : RM (z + 36) n σ A) (hU : WFu A) {x : Int32} {Q : Int32 → Me → Prop} (hQ : Q (cntV A x) σ) : pX12_count σ (z + 36) x Q := by
  obtain ⟨⟨R, hR, e9, -⟩, -⟩ := hU
  have ec : ix (A.1 9 0) = R := by rw [e9]; exact ixn (by omega)
  have g9 : gI σ (z + 36) 9 = nI R := (h.sc 9 (by decide)).trans e9
  refine ⟨fun k σ' v w => σ' = σ ∧ ∃ j, j ≤ R ∧ w = nI j ∧ k = R - j ∧ v = thr A j, ?_, R, rfl, 0, by omega, rfl, rfl, rfl⟩
  rintro k σ1 v w ⟨es, j, hj, rfl, rfl, rfl⟩
  rw [es]
  refine ⟨h.1.1, ?_⟩
  rw [g9]
  refine ⟨fun hc => ?_, fun hc => ?_⟩
  · have hj2 : R ≤ j := (nI_leI (by omega) (by omega)).mp hc
    have ej : j = R := by omega
    rw [ej, ← e9]
    unfold cntV at hQ
    rw [ec] at hQ
    refine ⟨fun e => ?_, fun e => ?_, fun e => ?_, fun e => ?_, fun e => ?_, fun e => ?_, fun e0 e1 e2 e3 e4 e5 => ?_⟩
    · rw [if_pos e] at hQ
      exact hQ
    · rw [if_neg (by rw [e]; decide), if_pos e] at hQ
      exact hQ
    · rw [if_neg (by rw [e]; decide), if_neg (by rw [e]; decide), if_pos e] at hQ
      rw [h.sc 55 (by decide)]
      exact hQ
    · rw [if_neg (by rw [e]; decide), if_neg (by rw [e]; decide), if_neg (by rw [e]; decide), if_pos e] at hQ
      rw [h.sc 17 (by decide)]
      exact hQ
    · rw [if_neg (by rw [e]; decide), if_neg (by rw [e]; decide), if_neg (by rw [e]; decide), if_neg (by rw [e]; decide), if_pos e] at hQ
      rw [h.sc 18 (by decide)]
      exact hQ
    · rw [if_neg (by rw [e]; decide), if_neg (by rw [e]; decide), if_neg (by rw [e]; decide), if_neg (by rw [e]; decide), if_neg (by rw [e]; decide), if_pos e] at hQ
      rintro _ rfl
      rw [h.sc 19 (by decide)]
      exact hQ
    · rw [if_neg e0, if_neg e1, if_neg e2, if_neg e3, if_neg e4, if_neg e5] at hQ
      exact hQ
  · have hj2 : ¬ R ≤ j := fun q => hc ((nI_leI (by omega) (by omega)).mpr q)
    obtain ⟨a1, a2, a3⟩ := M_at h 16 13 12 (t := 22) (by decide) (show j < 12 by omega) (by omega)
    refine ⟨_, a1, a2, a3, ?_⟩
    rintro _ rfl _ rfl _ rfl
    rw [nI_clamp (show j < 2 ^ 31 by omega), h.ar (16, 13, 12) (by decide) (show j < 12 by omega)]
    exact ⟨R - (j + 1), by omega, rfl, j + 1, by omega, sc1 j, rfl, rfl⟩
theorem X_there (h : RX z σ A) {R : Nat} (hR : R ≤ 12) (e9 : A.1 9 0 = nI R) {Q : Int32 → Me → Prop} (hQ : Q (thr A R) σ) : pX11_rulesThere σ z Q := by
  obtain ⟨a1, a2, a3⟩ := X_rulesA h
  have ec : ix (A.1 9 0) = R := by rw [e9]; exact ixn (by omega)
  refine ⟨fun k σ' v w => σ' = σ ∧ ∃ j, j ≤ 12 ∧ w = nI j ∧ k = 12 - j ∧ v = thr A (min j R), ?_, 12, rfl, 0, by omega, rfl, rfl, by rw [Nat.zero_min]; rfl⟩
  rintro k σ1 v w ⟨es, j, hj, rfl, rfl, rfl⟩
  rw [es]
  refine ⟨X_tag h, _, a1, a2, ?_⟩
  rw [a3]
  refine ⟨fun hc => ?_, fun hc => ?_⟩
  · have hj2 : 12 ≤ j := (nI_leI (by omega) (by omega)).mp hc
    rw [Nat.min_eq_right (by omega)]
    exact hQ
  · have hj2 : ¬ 12 ≤ j := fun q => hc ((nI_leI (by omega) (by omega)).mpr q)
    have H := h.2.2.2.2.1 j (by omega)
    rw [ec] at H
    rw [nI_clamp (show j < 2 ^ 31 by omega)]
    refine ⟨vp_in_nI (by omega) (by omega), fun hn => ?_, fun q hq => ?_⟩
    · rintro _ rfl
      refine ⟨12 - (j + 1), by omega, rfl, j + 1, by omega, sc1 j, rfl, ?_⟩
      by_cases hjr : j < R
      · have : ¬ A.1 16 j = 0 := fun e => by
          obtain ⟨q, hq, -⟩ := H.1 ⟨hjr, e⟩
          rw [hn] at hq
          cases hq
        rw [Nat.min_eq_left (by omega), Nat.min_eq_left (by omega)]
        show _ = thr A j + _
        rw [if_neg this, Int32.add_zero]
      · rw [Nat.min_eq_right (by omega), Nat.min_eq_right (by omega)]
    · rintro _ rfl _ rfl
      refine ⟨12 - (j + 1), by omega, rfl, j + 1, by omega, sc1 j, rfl, ?_⟩
      have hc2 : j < R ∧ A.1 16 j = 0 := by
        by_cases e : j < R ∧ A.1 16 j = 0
        · exact e
        · rw [H.2 e] at hq
          cases hq
      rw [Nat.min_eq_left (by omega), Nat.min_eq_left (by omega)]
      show _ = thr A j + _
      rw [if_pos hc2.2]
theorem X_count (h : RX z σ A) (hU : WFu A) {x : Int32} {Q : Int32 → Me → Prop} (hQ : Q (cntV A x) σ) : pX11_count σ z x Q := by
  obtain ⟨⟨R, hR, e9, -⟩, -⟩ := hU
  have ec : ix (A.1 9 0) = R := by rw [e9]; exact ixn (by omega)
  have t9 := h.1.tg (9, 6, 0) (by decide)
  have r9 := h.1.rf (0, 5, 9) (by decide)
  unfold cntV at hQ
  refine ⟨fun e => ⟨X_tag h, ?_⟩, fun e => ⟨X_tag h, ?_⟩, fun e => ⟨X_tag h, ?_⟩, fun e => ⟨X_tag h, _, r9, t9.1, ?_⟩, fun e => ⟨X_tag h, _, r9, t9.1, ?_⟩, fun e => ⟨X_tag h, _, r9, t9.1, ?_⟩, fun e0 e1 e2 e3 e4 e5 => ?_⟩
  · rw [if_pos e] at hQ
    rw [X_ever h]
    exact hQ
  · rw [if_neg (by rw [e]; decide), if_pos e, ec] at hQ
    exact X_there h hR e9 hQ
  · rw [if_neg (by rw [e]; decide), if_neg (by rw [e]; decide), if_pos e] at hQ
    rw [show gI σ z 13 = A.1 55 0 from h.ce (55, 0, 0, 13) (by decide)]
    exact hQ
  · rw [if_neg (by rw [e]; decide), if_neg (by rw [e]; decide), if_neg (by rw [e]; decide), if_pos e] at hQ
    rw [show gI σ (z + 9) 0 = A.1 17 0 from h.ce (17, 0, 9, 0) (by decide)]
    exact hQ
  · rw [if_neg (by rw [e]; decide), if_neg (by rw [e]; decide), if_neg (by rw [e]; decide), if_neg (by rw [e]; decide), if_pos e] at hQ
    rw [show gI σ (z + 9) 1 = A.1 18 0 from h.ce (18, 0, 9, 1) (by decide)]
    exact hQ
  · rw [if_neg (by rw [e]; decide), if_neg (by rw [e]; decide), if_neg (by rw [e]; decide), if_neg (by rw [e]; decide), if_neg (by rw [e]; decide), if_pos e] at hQ
    rintro _ rfl
    rw [show gI σ (z + 9) 2 = A.1 19 0 from h.ce (19, 0, 9, 2) (by decide)]
    exact hQ
  · rw [if_neg e0, if_neg e1, if_neg e2, if_neg e3, if_neg e4, if_neg e5] at hQ
    exact hQ
theorem M_digest (h : RM (z + 36) n σ A) (hU : WFu A) (hW : WF A) {Q : Int64 → Me → Prop} (hQ : Q (sDigest A) σ) : pX12_digest σ (z + 36) Q := by
  have hU' := hU
  obtain ⟨⟨R, hR, e9, -⟩, -⟩ := hU'
  have ec : ix (A.1 9 0) = R := by rw [e9]; exact ixn (by omega)
  have g9 : gI σ (z + 36) 9 = nI R := (h.sc 9 (by decide)).trans e9
  unfold sDigest at hQ
  rw [ec] at hQ
  refine ⟨fun k σ' v w => σ' = σ ∧ ∃ j, j ≤ 6 ∧ w = nI j ∧ k = 6 - j ∧ v = itr (dgC A) 17 j, ?_, 6, rfl, 0, by omega, rfl, rfl, rfl⟩
  rintro k σ1 v w ⟨es, j, hj, rfl, rfl, rfl⟩
  rw [es]
  refine ⟨fun hc => ⟨h.1.1, ?_⟩, fun hc => ⟨h.1.1, M_count h hU ?_⟩⟩
  rotate_left
  · have h7 : ¬ 6 ≤ j := fun q => hc ((le_c (a := 6) rfl (by omega) (by omega)).mpr q)
    rintro _ rfl _ rfl
    exact ⟨6 - (j + 1), by omega, rfl, j + 1, by omega, sc1 j, rfl, rfl⟩
  have h7 : 6 ≤ j := (le_c (a := 6) rfl (by omega) (by omega)).mp hc
  have ej : j = 6 := by omega
  subst ej
  rintro _ rfl
  rw [h.sc 20 (by decide), h.sc 21 (by decide), h.sc 22 (by decide), h.sc 23 (by decide)]
  show ∃ I75 : Nat → Me → Int64 → Int32 → Prop, _ ∧ ∃ n75, I75 n75 σ (dgP A (itr (dgC A) 17 6)) 0
  generalize dgP A (itr (dgC A) 17 6) = H1 at *
  clear hc h7 hj es
  refine ⟨fun k σ' v w => σ' = σ ∧ ∃ j, j ≤ 4 ∧ w = nI j ∧ k = 4 - j ∧ v = itr (dgB A) H1 j, ?_, 4, rfl, 0, by omega, rfl, rfl, rfl⟩
  rintro k σ1 v w ⟨es, b, hb, rfl, rfl, rfl⟩
  rw [es]
  refine ⟨fun hc => ?_, fun hc => ⟨h.1.1, ?_⟩⟩
  rotate_left
  · have h7 : ¬ 4 ≤ b := fun q => hc ((le_c (a := 4) rfl (by omega) (by omega)).mpr q)
    obtain ⟨a1, a2, a3⟩ := M_at h 4 2 4 (t := 22) (by decide) (show b < 4 by omega) (by omega)
    have e4 : gI σ (z + 36 + 2) (nI b).toNatClampNeg = A.1 4 b := by rw [nI_clamp (by omega)]; exact h.ar (4, 2, 4) (by decide) (show b < 4 by omega)
    refine ⟨_, a1, a2, a3, ?_⟩
    rw [e4]
    rintro _ rfl
    by_cases hb4 : A.1 4 b = 0
    · rw [if_pos hb4]
      refine ⟨fun k σ' v w => σ' = σ ∧ w = nI 0 ∧ v = 31 * itr (dgB A) H1 b - 1, ?_, 0, rfl, rfl, rfl⟩
      rintro k σ1 v w ⟨es, rfl, rfl⟩
      rw [es]
      refine ⟨fun q => absurd q (by decide), fun _ => ⟨h.1.1, _, a1, a2, a3, ?_⟩⟩
      rw [e4]
      refine ⟨fun _ => ?_, fun q => absurd hb4 q⟩
      rintro _ rfl
      exact ⟨4 - (b + 1), by omega, rfl, b + 1, by omega, sc1 b, rfl, by show _ = dgB A b _; unfold dgB; rw [if_pos hb4]⟩
    · rw [if_neg hb4]
      refine ⟨fun k σ' v w => σ' = σ ∧ ∃ j, j ≤ 7 ∧ w = nI j ∧ k = 7 - j ∧ v = itr (dgW A b) (itr (dgB A) H1 b) j, ?_, 7, rfl, 0, by omega, rfl, rfl, rfl⟩
      rintro k σ1 v w ⟨es, j, hj, rfl, rfl, rfl⟩
      rw [es]
      refine ⟨fun hc2 => ?_, fun hc2 => ⟨h.1.1, _, a1, a2, a3, ?_⟩⟩
      · have h8 : 7 ≤ j := (le_c (a := 7) rfl (by omega) (by omega)).mp hc2
        have ej : j = 7 := by omega
        subst ej
        rintro _ rfl
        exact ⟨4 - (b + 1), by omega, rfl, b + 1, by omega, sc1 b, rfl, by show _ = dgB A b _; unfold dgB; rw [if_neg hb4]⟩
      · have h8 : ¬ 7 ≤ j := fun q => hc2 ((le_c (a := 7) rfl (by omega) (by omega)).mpr q)
        rw [e4]
        refine ⟨fun q => absurd q hb4, fun _ => ?_⟩
        obtain ⟨b1, b2, b3⟩ := M_at h 5 3 28 (t := 20) (by decide) (show 7 * b + j < 28 by omega) (by omega)
        rw [ix7]
        refine ⟨_, b1, b2, b3, ?_⟩
        rintro _ rfl _ rfl
        rw [nI_clamp (show 7 * b + j < 2 ^ 31 by omega), h.ar (5, 3, 28) (by decide) (show 7 * b + j < 28 by omega)]
        exact ⟨7 - (j + 1), by omega, rfl, j + 1, by omega, sc1 j, rfl, rfl⟩
  have h7 : 4 ≤ b := (le_c (a := 4) rfl (by omega) (by omega)).mp hc
  have ej : b = 4 := by omega
  subst ej
  generalize itr (dgB A) H1 4 = H2 at *
  clear hc h7 hb es
  refine ⟨fun k σ' v w => σ' = σ ∧ ∃ j, j ≤ R ∧ w = nI j ∧ k = R - j ∧ v = itr (dgR A) H2 j, ?_, R, rfl, 0, by omega, rfl, rfl, rfl⟩
  rintro k σ1 v w ⟨es, r, hr, rfl, rfl, rfl⟩
  rw [es]
  refine ⟨h.1.1, ?_⟩
  rw [g9]
  refine ⟨fun hc => ?_, fun hc => ?_⟩
  rotate_left
  · have h7 : ¬ R ≤ r := fun q => hc ((nI_leI (by omega) (by omega)).mpr q)
    obtain ⟨a1, a2, a3⟩ := M_at h 16 13 12 (t := 22) (by decide) (show r < 12 by omega) (by omega)
    have e4 : gI σ (z + 36 + 13) (nI r).toNatClampNeg = A.1 16 r := by rw [nI_clamp (by omega)]; exact h.ar (16, 13, 12) (by decide) (show r < 12 by omega)
    refine ⟨_, a1, a2, a3, ?_⟩
    rw [e4]
    rintro _ rfl
    by_cases hb4 : A.1 16 r = 0
    · rw [if_pos hb4]
      refine ⟨fun k σ' v w => σ' = σ ∧ ∃ j, j ≤ 5 ∧ w = nI j ∧ k = 5 - j ∧ v = itr (dgT A r) (itr (dgR A) H2 r) j, ?_, 5, rfl, 0, by omega, rfl, rfl, rfl⟩
      rintro k σ1 v w ⟨es, j, hj, rfl, rfl, rfl⟩
      rw [es]
      refine ⟨fun hc2 => ?_, fun hc2 => ⟨h.1.1, _, a1, a2, a3, ?_⟩⟩
      · have h8 : 5 ≤ j := (le_c (a := 5) rfl (by omega) (by omega)).mp hc2
        have ej : j = 5 := by omega
        subst ej
        rintro _ rfl
        exact ⟨R - (r + 1), by omega, rfl, r + 1, by omega, sc1 r, rfl, by show _ = dgR A r _; unfold dgR; rw [if_pos hb4]⟩
      · have h8 : ¬ 5 ≤ j := fun q => hc2 ((le_c (a := 5) rfl (by omega) (by omega)).mpr q)
        rw [e4]
        refine ⟨fun _ => M_toldOf h (by omega) ?_, fun q => absurd hb4 q⟩
        rintro _ rfl _ rfl
        exact ⟨5 - (j + 1), by omega, rfl, j + 1, by omega, sc1 j, rfl, rfl⟩
    · rw [if_neg hb4]
      refine ⟨fun k σ' v w => σ' = σ ∧ w = nI 0 ∧ v = 31 * itr (dgR A) H2 r - 1, ?_, 0, rfl, rfl, rfl⟩
      rintro k σ1 v w ⟨es, rfl, rfl⟩
      rw [es]
      refine ⟨fun q => absurd q (by decide), fun _ => ⟨h.1.1, _, a1, a2, a3, ?_⟩⟩
      rw [e4]
      refine ⟨fun q => absurd q hb4, fun _ => ?_⟩
      rintro _ rfl
      exact ⟨R - (r + 1), by omega, rfl, r + 1, by omega, sc1 r, rfl, by show _ = dgR A r _; unfold dgR; rw [if_neg hb4]⟩
  have h7 : R ≤ r := (nI_leI (by omega) (by omega)).mp hc
  have ej : r = R := by omega
  subst ej
  generalize itr (dgR A) H2 r = H3 at *
  clear hc h7 hr es
  refine ⟨fun k σ' v w => σ' = σ ∧ ∃ j, j ≤ 4 ∧ w = nI j ∧ k = 4 - j ∧ v = itr (dgS A) H3 j, ?_, 4, rfl, 0, by omega, rfl, rfl, rfl⟩
  rintro k σ1 v w ⟨es, s, hs, rfl, rfl, rfl⟩
  rw [es]
  refine ⟨fun hc => ?_, fun hc => ⟨h.1.1, ?_⟩⟩
  · have h7 : 4 ≤ s := (le_c (a := 4) rfl (by omega) (by omega)).mp hc
    have ej : s = 4 := by omega
    subst ej
    exact hQ
  · have h7 : ¬ 4 ≤ s := fun q => hc ((le_c (a := 4) rfl (by omega) (by omega)).mpr q)
    obtain ⟨a1, a2, a3⟩ := M_at h 7 5 4 (t := 20) (by decide) (show s < 4 by omega) (by omega)
    have e4 : gI σ (z + 36 + 5) (nI s).toNatClampNeg = A.1 7 s := by rw [nI_clamp (by omega)]; exact h.ar (7, 5, 4) (by decide) (show s < 4 by omega)
    refine ⟨_, a1, a2, a3, ?_⟩
    rw [e4]
    rintro _ rfl
    have hle : ∃ N, N ≤ 25 ∧ ix (A.1 7 s) = N ∧ ∀ j, j < 2 ^ 31 → (A.1 7 s ≤ nI j ↔ N ≤ j) := by
      rcases hW.2.2.1 s (by omega) with e | ⟨N, hN, e⟩
      · refine ⟨0, by omega, by rw [e]; decide, fun j hj => ⟨fun _ => by omega, fun _ => ?_⟩⟩
        rw [e]
        exact Int32.le_iff_toInt_le.mpr (by rw [nI_toInt hj, show (-1 : Int32).toInt = -1 by decide]; omega)
      · exact ⟨N, hN, by rw [e]; exact ixn (by omega), fun j hj => by rw [e]; exact nI_leI (by omega) hj⟩
    obtain ⟨N, hN, eN, leN⟩ := hle
    refine ⟨fun k σ' v w => σ' = σ ∧ ∃ j, j ≤ N ∧ w = nI j ∧ k = N - j ∧ v = itr (dgY A s) (31 * itr (dgS A) H3 s + (A.1 7 s).toInt64) j, ?_, N, rfl, 0, by omega, rfl, rfl, rfl⟩
    rintro k σ1 v w ⟨es, j, hj, rfl, rfl, rfl⟩
    rw [es]
    refine ⟨h.1.1, _, a1, a2, a3, ?_⟩
    rw [e4]
    refine ⟨fun hc2 => ?_, fun hc2 => ?_⟩
    · have h8 : N ≤ j := (leN j (by omega)).mp hc2
      have ej : j = N := by omega
      subst ej
      rintro _ rfl
      exact ⟨4 - (s + 1), by omega, rfl, s + 1, by omega, sc1 s, rfl, by show _ = dgS A s _; unfold dgS; rw [eN]⟩
    · have h8 : ¬ N ≤ j := fun q => hc2 ((leN j (by omega)).mpr q)
      obtain ⟨b1, b2, b3⟩ := M_at h 8 6 100 (t := 23) (by decide) (show 25 * s + j < 100 by omega) (by omega)
      rw [ix25]
      refine ⟨_, b1, b2, b3, ?_⟩
      rintro _ rfl _ rfl
      rw [nI_clamp (show 25 * s + j < 2 ^ 31 by omega), h.ar (8, 6, 100) (by decide) (show 25 * s + j < 100 by omega)]
      exact ⟨N - (j + 1), by omega, rfl, j + 1, by omega, sc1 j, rfl, rfl⟩
end DG
