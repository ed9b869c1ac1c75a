/-! What spoils: the reference's days. -/
def MV (m N T : Nat) (V : Nat → Prop) (σ : Me) (A : Ab) (k : Nat) (pl f : Nat → Nat) (kk : Nat) (ql g : Nat → Nat) : Prop := RM m N σ A ∧ (stT m T σ ∧ T ≤ 2000 * N ∧ T < 2 ^ 31) ∧ MS m σ V k pl f ∧ MN m σ T V kk ql g
theorem MV.fr {m N T : Nat} {V : Nat → Prop} {σ σ' : Me} {A : Ab} {k kk : Nat} {pl f ql g : Nat → Nat} (h : MV m N T V σ A k pl f kk ql g) (hf : FrW m σ σ') (h1 : ∀ j, (j = 32 ∨ j = 35 ∨ j = 38) → gI σ' m j = gI σ m j) (h2 : ∀ o j, o ≠ 0 → gI σ' (m + o) j = gI σ (m + o) j) (h3 : ∀ o j, o ≠ 0 → gL σ' (m + o) j = gL σ (m + o) j) : MV m N T V σ' A k pl f kk ql g := by
  have t := h.2.1.1.fr (h1 38 (by omega)) (fun j => h2 19 j (by omega))
  exact ⟨h.1.frW hf t h.2.1.2.1, ⟨t, h.2.1.2⟩, h.2.2.1.fr (h1 32 (by omega)) (fun j => h2 14 j (by omega)) (fun j => h3 15 j (by omega)), h.2.2.2.fr (h1 35 (by omega)) (fun o j ho => h2 o j (by omega)) (fun j => h3 17 j (by omega))⟩
def PGn (A : Ab) (b : Nat) (nw : Int32) (ag s : Nat) (φ : Nat → Nat) (p n : Nat) : Nat := sumN (fun d => wN A b d * φ (nG nw ag s (p % 13) (p / 13) d)) n
def spn (A : Ab) (b : Nat) (nw : Int32) (ag s : Nat) (p n : Nat) : Nat := sumN (fun d => wN A b d * lG nw s (p % 13) (p / 13) d (ag - 1)) n
def goS (σ46 : Me) (a0 : Nat) (x1 x2 x3 x5 x12_48 : Int32) (x9_47 : Int64) (K : Int64 → Me → Prop) : Prop := ∃ I147 : Nat → Me → Int64 → Int32 → Prop, (∀ (n147 : Nat) (σ115 : Me) (x9_116 : Int64) (x13_117 : Int32), I147 n147 σ115 x9_116 x13_117 → (((7 : Int32)) ≤ x13_117 → K x9_116 σ115) ∧ (¬ ((7 : Int32)) ≤ x13_117 → gT σ115 a0 = 12 ∧ ∃ b122 : Nat, gP σ115 a0 5 = some b122 ∧ gT σ115 b122 = 20 ∧ vp_in ((((7 : Int32)) * x1) + x13_117) (gN σ115 b122) ∧ ∀ x14_125 : Int32, x14_125 = (gI σ115 b122 ((((7 : Int32)) * x1) + x13_117).toNatClampNeg) → (x14_125 ≤ 0 → ∀ x13_127 : Int32, x13_127 = x13_117 + 1 → ∃ m147 : Nat, m147 < n147 ∧ I147 m147 σ115 x9_116 x13_127) ∧ (¬ x14_125 ≤ 0 → ∃ b128 : Nat, gP σ115 a0 30 = some b128 ∧ gT σ115 b128 = 20 ∧ vp_in x12_48 (gN σ115 b128) ∧ ∀ σ131 : Me, σ131 = sI σ115 a0 53 ((gI σ115 b128 x12_48.toNatClampNeg) / ((25 : Int32))) → vp_in x12_48 (gN σ131 b128) ∧ ∀ σ133 : Me, σ133 = sI σ131 a0 54 ((gI σ131 b128 x12_48.toNatClampNeg) - (gI σ131 b128 x12_48.toNatClampNeg) / ((25 : Int32)) * ((25 : Int32))) → ∀ σ134 : Me, σ134 = sI σ133 a0 52 ((x2 - (gI σ133 a0 53)) - (gI σ133 a0 54)) → pX12_give σ134 a0 x13_117 x5 (fun σ136 => gT σ136 a0 = 12 ∧ ∀ v_139 : Int32, v_139 = (if x3 = ((1 : Int32)) then (gI σ136 a0 52) else (if x3 = ((2 : Int32)) then (gI σ136 a0 53) else (gI σ136 a0 54))) → ∃ b141 : Nat, gP σ136 a0 31 = some b141 ∧ gT σ136 b141 = 21 ∧ vp_in x12_48 (gN σ136 b141) ∧ ∀ x9_144 : Int64, x9_144 = (x9_116 + (((gL σ136 b141 x12_48.toNatClampNeg) * x14_125.toInt64) * v_139.toInt64)) → ∀ v_145 : Int32, v_145 = (if x3 ≤ ((1 : Int32)) then ((0 : Int32)) else (gI σ136 a0 52)) → ∀ v_147 : Int32, v_147 = (if x3 ≤ ((2 : Int32)) then ((0 : Int32)) else (gI σ136 a0 53)) → vp_in x12_48 (gN σ136 b141) ∧ pX12_put σ136 a0 ((((25 : Int32)) * v_145) + v_147) ((gL σ136 b141 x12_48.toNatClampNeg) * x14_125.toInt64) (fun σ151 => ∀ x13_152 : Int32, x13_152 = x13_117 + 1 → ∃ m147 : Nat, m147 < n147 ∧ I147 m147 σ151 x9_144 x13_152))))) ∧ ∃ n147 : Nat, I147 n147 σ46 x9_47 ((0 : Int32))
set_option maxHeartbeats 1000000 in
theorem M_goS {z N T : Nat} {σ : Me} {A : Ab} {ag s : Nat} {k kk : Nat} {pl f ql g : Nat → Nat} (h : MV (z + 36) N T (VG ag s) σ A k pl f kk ql g) (hW : WF A) {b : Nat} (hb : b < 4) (hs : s ≤ 12) (h1 : 1 ≤ ag) (h3 : ag ≤ 3) {nw : Int32} {c i : Nat} (hi : i < k) {K : Int64 → Me → Prop} (hK : ∀ σ' kk' ql' g', MV (z + 36) N T (VG ag s) σ' A k pl f kk' ql' g' → (∀ φ : Nat → Nat, SM g' ql' kk' (fun t => φ (piG t)) = SM g ql kk (fun t => φ (piG t)) + f i * PG A b nw ag s φ (piG (pl i))) → gL σ' (z + 36) 44 = gL σ (z + 36) 44 → FrW (z + 36) σ σ' → K (lN (c + f i * spG A b nw ag s (piG (pl i)))) σ') : goS σ (z + 36) (nI b) (nI s) (nI ag) nw (nI i) (lN c) K := by
  have hk := h.2.2.1.2.1
  obtain ⟨a1, a2, a3, a4⟩ := h.2.2.1.2.2 i hi
  have hin : vp_in (nI i) 17000 := vp_in_nI (by omega) (by omega)
  obtain ⟨m1, m2, m3⟩ := piG_m hs a4
  have hv := a4.1
  refine ⟨fun nn σ1 x9 w => ∃ e kk' ql' g', e ≤ 7 ∧ w = nI e ∧ nn = 7 - e ∧ x9 = lN (c + f i * spn A b nw ag s (piG (pl i)) e) ∧ MV (z + 36) N T (VG ag s) σ1 A k pl f kk' ql' g' ∧ (∀ φ : Nat → Nat, SM g' ql' kk' (fun s => φ (piG s)) = SM g ql kk (fun s => φ (piG s)) + f i * PGn A b nw ag s φ (piG (pl i)) e) ∧ gL σ1 (z + 36) 44 = gL σ (z + 36) 44 ∧ FrW (z + 36) σ σ1, ?_, 7, 0, kk, ql, g, by omega, rfl, rfl, rfl, h, fun φ => rfl, rfl, .rf⟩
  rintro nn σ1 x9 w ⟨e, kk', ql', g', he, rfl, rfl, rfl, w1, w2, w4, w5⟩
  refine ⟨fun q => ?_, fun q => ?_⟩
  · have : e = 7 := by
      have := (nI_leI (a := 7) (by omega) (by omega)).mp q
      omega
    subst this
    exact hK σ1 kk' ql' g' w1 w2 w4 w5
  · have he7 : e < 7 := by
      have : ¬ 7 ≤ e := fun x => q ((nI_leI (a := 7) (by omega) (by omega)).mpr x)
      omega
    have r5 := w1.1.1.row (5, 3, 20, 28) (by decide)
    have we := wN_eq hW hb he7
    rw [ix7]
    refine ⟨w1.1.1.1, z + 36 + 3, r5.1, r5.2.1, by rw [r5.2.2]; exact show vp_in (nI (7 * b + e)) 28 from vp_in_nI (by omega) (by omega), ?_⟩
    intro x10 e10
    have e10' : x10 = nI (wN A b e) := by
      rw [e10, nI_clamp (by omega), w1.1.ar (5, 3, 28) (by decide) (show 7 * b + e < 28 by omega)]
      exact we.1
    clear e10
    subst e10'
    have ps1 : ∀ φ : Nat → Nat, PGn A b nw ag s φ (piG (pl i)) (e + 1) = PGn A b nw ag s φ (piG (pl i)) e + wN A b e * φ (nG nw ag s (piG (pl i) % 13) (piG (pl i) / 13) e) := fun φ => rfl
    have sp1 : spn A b nw ag s (piG (pl i)) (e + 1) = spn A b nw ag s (piG (pl i)) e + wN A b e * lG nw s (pl i / 25) (pl i % 25) e (ag - 1) := by
      rw [← m1, ← m2]
      rfl
    refine ⟨fun q2 => ?_, fun q2 => ?_⟩
    · have w0 : wN A b e = 0 := by
        have := (nI_leI (b := 0) (by omega) (by omega)).mp q2
        omega
      rintro _ rfl
      exact ⟨7 - (e + 1), by omega, e + 1, kk', ql', g', by omega, sc1 e, rfl, by rw [sp1, w0, Nat.zero_mul, Nat.add_zero], w1, fun φ => by rw [w2 φ, ps1, w0, Nat.zero_mul, Nat.add_zero], w4, w5⟩
    · have r30 := w1.1.1.row (30, 14, 20, 17000) (by decide)
      refine ⟨z + 36 + 14, r30.1, r30.2.1, by rw [r30.2.2]; exact hin, ?_⟩
      intro σ131 e131
      have aw := w1.2.2.1.2.2 i hi
      have ci : (nI i).toNatClampNeg = i := nI_clamp (by omega)
      rw [ci, aw.1, show (25 : Int32) = nI 25 by decide, pk_div (by omega) (by omega) (by omega)] at e131
      refine ⟨by rw [e131, gN_sI, r30.2.2]; exact hin, ?_⟩
      intro σ133 e133
      rw [ci, show gI σ131 (z + 36 + 14) i = nI (pl i) by rw [e131, gI_sI_ne (by omega)]; exact aw.1, show (25 : Int32) = nI 25 by decide, pk_rem (by omega) (by omega) (by omega)] at e133
      intro σ134 e134
      rw [show gI σ133 (z + 36) 53 = nI (pl i / 25) by rw [e133, gI_sI_nk (by decide), e131, gI_sI_eq], show gI σ133 (z + 36) 54 = nI (pl i % 25) by rw [e133, gI_sI_eq], nI_sb (by omega), nI_sb (by omega)] at e134
      have f134 : FG (z + 36) σ1 σ134 := by
        refine ⟨by rw [e134, gL_sI, e133, gL_sI, e131, gL_sI], fun q j hq => ?_, ?_⟩
        · rw [e134, e133, e131]
          by_cases c : q = z + 36
          · rw [gI_sI_nk (by omega), gI_sI_nk (by omega), gI_sI_nk (by omega)]
          · rw [gI_sI_ne c, gI_sI_ne c, gI_sI_ne c]
        · rw [e134, e133, e131]
          exact ((frW_0 (by omega)).tr (frW_0 (by omega))).tr (frW_0 (by omega))
      have j52 : gI σ134 (z + 36) 52 = nI (p3 s (pl i / 25) (pl i % 25) 0) := by rw [e134, gI_sI_eq]; rfl
      have j53 : gI σ134 (z + 36) 53 = nI (p3 s (pl i / 25) (pl i % 25) 1) := by rw [e134, gI_sI_nk (by decide), e133, gI_sI_nk (by decide), e131, gI_sI_eq]; rfl
      have j54 : gI σ134 (z + 36) 54 = nI (p3 s (pl i / 25) (pl i % 25) 2) := by rw [e134, gI_sI_nk (by decide), e133, gI_sI_eq]; rfl
      refine M_give (d := e) (by rw [f134.2.2.2.1]; exact w1.1.1.1) (by omega) (fun j => by unfold p3; split <;> (try split) <;> (try split) <;> omega) j52 j53 j54 (fun σ2 y1 y2 y3 y4 => ?_)
      have fG : FG (z + 36) σ1 σ2 := ⟨y1.1.trans f134.1, fun q j hq => (y1.2.1 q j hq).trans (f134.2.1 q j hq), f134.2.2.tr y1.2.2⟩
      have k1 : MV (z + 36) N T (VG ag s) σ2 A k pl f kk' ql' g' := w1.fr fG.2.2 (fun j hj => fG.2.1 _ j (by omega)) (fun o j ho => fG.2.1 _ j (by omega)) (fun o j _ => by rw [fG.1])
      have nm := tG_v nw hs a4 e
      have ll := lG_le nw (d := e) hv
      change gI σ2 (z + 36) 52 = nI (lG nw s (pl i / 25) (pl i % 25) e 0) at y2
      change gI σ2 (z + 36) 53 = nI (lG nw s (pl i / 25) (pl i % 25) e 1) at y3
      change gI σ2 (z + 36) 54 = nI (lG nw s (pl i / 25) (pl i % 25) e 2) at y4
      have r31 := k1.1.1.row (31, 15, 21, 17000) (by decide)
      refine ⟨k1.1.1.1, ?_⟩
      intro v139 e139
      have ha : ag = 1 ∨ ag = 2 ∨ ag = 3 := by omega
      have a139 : v139 = nI (lG nw s (pl i / 25) (pl i % 25) e (ag - 1)) ∧ lG nw s (pl i / 25) (pl i % 25) e (ag - 1) ≤ 12 := by
        rw [e139, y2, y3, y4]
        rcases ha with rfl | rfl | rfl
        · rw [if_pos (show nI 1 = (1 : Int32) by decide)]
          exact ⟨rfl, by show lG nw s _ _ e 0 ≤ 12; omega⟩
        · rw [if_neg (show ¬ nI 2 = (1 : Int32) by decide), if_pos (show nI 2 = (2 : Int32) by decide)]
          exact ⟨rfl, by show lG nw s _ _ e 1 ≤ 12; omega⟩
        · rw [if_neg (show ¬ nI 3 = (1 : Int32) by decide), if_neg (show ¬ nI 3 = (2 : Int32) by decide)]
          exact ⟨rfl, by show lG nw s _ _ e 2 ≤ 12; omega⟩
      refine ⟨z + 36 + 15, r31.1, r31.2.1, by rw [r31.2.2]; exact hin, ?_⟩
      have bw := k1.2.2.1.2.2 i hi
      have eL : gL σ2 (z + 36 + 15) (nI i).toNatClampNeg * (nI (wN A b e)).toInt64 = lN (f i * wN A b e) := by
        rw [ci, bw.2.1, nI_l (by omega), lN_mul]
      rw [eL]
      intro x144 e144 v145 e145 v147 e147
      rw [a139.1, nI_l (by omega), lN_mul, lN_add] at e144
      have a145 : v145 = nI (if ag ≤ 1 then 0 else lG nw s (pl i / 25) (pl i % 25) e 0) := by
        rw [e145, y2]
        by_cases c : ag ≤ 1
        · rw [if_pos c, if_pos (show nI ag ≤ (1 : Int32) from nI_le (b := 1) c (by omega))]
          rfl
        · rw [if_neg c, if_neg (show ¬ nI ag ≤ (1 : Int32) from fun y => c ((nI_leI (b := 1) (by omega) (by omega)).mp y))]
      have a147 : v147 = nI (if ag ≤ 2 then 0 else lG nw s (pl i / 25) (pl i % 25) e 1) := by
        rw [e147, y3]
        by_cases c : ag ≤ 2
        · rw [if_pos c, if_pos (show nI ag ≤ (2 : Int32) from nI_le (b := 2) c (by omega))]
          rfl
        · rw [if_neg c, if_neg (show ¬ nI ag ≤ (2 : Int32) from fun y => c ((nI_leI (b := 2) (by omega) (by omega)).mp y))]
      refine ⟨by rw [r31.2.2]; exact hin, ?_⟩
      rw [a145, a147, show (25 : Int32) = nI 25 by decide, pk_mul, nI_add]
      refine M_put k1.1 k1.2.1.1 k1.2.1.2.1 k1.2.1.2.2 k1.2.2.2 (s := tG nw ag s (pl i) e) nm.2.1 nm.1 (fun σ4 k4 ql4 g4 v1 v2 v3 v4 v5 v6 => ?_)
      rintro _ rfl
      refine ⟨7 - (e + 1), by omega, e + 1, k4, ql4, g4, by omega, sc1 e, rfl, ?_, ⟨v1, ⟨v2, h.2.1.2⟩, k1.2.2.1.fr (v5.1 32 (by decide)) (fun j => v5.2.1 _ j (by omega) (by omega) (by omega) (by omega)) (fun j => v5.2.2 _ j (by omega)), v3⟩, fun φ => ?_, ?_, (w5.tr fG.2.2).tr v6⟩
      · rw [e144, sp1, Nat.mul_add, Nat.mul_assoc, Nat.add_assoc]
      · rw [v4 (fun s => φ (piG s)), w2 φ, ps1, nm.2.2, Nat.mul_add, Nat.mul_assoc, Nat.add_assoc]
      · rw [v5.2.2 _ _ (by omega), fG.1]
        exact w4
/-! Bounds. -/
theorem pw_leG {P : (Nat → Nat) → Nat → Nat} (hP : ∀ φ c, (∀ p, p < 481 → φ p ≤ c) → ∀ p, p < 481 → P φ p ≤ 63 * c) : ∀ t {φ : Nat → Nat} {c : Nat}, (∀ p, p < 481 → φ p ≤ c) → ∀ p, p < 481 → pw P t φ p ≤ c * 63 ^ t
  | 0, φ, c, h, p, hp => by
    show φ p ≤ c * 1
    have := h p hp
    omega
  | t + 1, φ, c, h, p, hp => by
    have h1 := pw_leG hP t (hP φ c h) p hp
    show pw P t (P φ) p ≤ c * 63 ^ (t + 1)
    rw [Nat.pow_succ, Nat.mul_comm (63 ^ t), ← Nat.mul_assoc, Nat.mul_comm c]
    exact h1
theorem ac_leG {P : (Nat → Nat) → Nat → Nat} (hP : ∀ φ c, (∀ p, p < 481 → φ p ≤ c) → ∀ p, p < 481 → P φ p ≤ 63 * c) {W : Nat} (w : W ≤ 63) {ψ : Nat → Nat} {c : Nat} (h : ∀ p, p < 481 → ψ p ≤ c) {p : Nat} (hp : p < 481) : ∀ t, ac P W ψ p t ≤ c * t * 63 ^ t
  | 0 => by unfold ac; omega
  | t + 1 => by
    have h1 := ac_leG hP w h hp t
    have h2 := pw_leG hP t h p hp
    show ac P W ψ p t * W + pw P t ψ p ≤ c * (t + 1) * 63 ^ (t + 1)
    have h3 : ac P W ψ p t * W ≤ c * t * 63 ^ t * 63 := Nat.mul_le_mul h1 w
    have e1 : c * (t + 1) * 63 ^ (t + 1) = c * t * 63 ^ t * 63 + c * 63 ^ t * 63 := by
      rw [Nat.pow_succ, Nat.mul_add, Nat.mul_one, Nat.add_mul, ← Nat.mul_assoc, ← Nat.mul_assoc]
    omega
theorem lG_40 (nw : Int32) {s p d j : Nat} (hs : s ≤ 12) (hp : p < 481) : lG nw s (p % 13) (p / 13) d j ≤ 40 := by
  have le := (gs_le (eM nw) d (p3 s (p % 13) (p / 13)) 3).2 j
  have : p3 s (p % 13) (p / 13) j ≤ 40 := by
    unfold p3
    split
    · omega
    · split
      · omega
      · split <;> omega
  unfold lG
  omega
theorem nG_lt (nw : Int32) {ag s p d : Nat} (hs : s ≤ 12) : nG nw ag s (p % 13) (p / 13) d < 481 := by
  have le := (gs_le (eM nw) d (p3 s (p % 13) (p / 13)) 3).2
  have l0 : lG nw s (p % 13) (p / 13) d 0 ≤ s - p % 13 - p / 13 := le 0
  have l1 : lG nw s (p % 13) (p / 13) d 1 ≤ p % 13 := le 1
  have b1 : (if ag ≤ 2 then 0 else lG nw s (p % 13) (p / 13) d 1) ≤ 12 := by split <;> omega
  have b2 : (if ag ≤ 1 then 0 else lG nw s (p % 13) (p / 13) d 0) ≤ 12 := by split <;> omega
  unfold nG
  omega
theorem PG_le {A : Ab} (hW : WF A) {b : Nat} (hb : b < 4) (nw : Int32) (ag : Nat) {s : Nat} (hs : s ≤ 12) : ∀ φ c, (∀ p, p < 481 → φ p ≤ c) → ∀ p, p < 481 → PG A b nw ag s φ p ≤ 63 * c := fun φ c h p hp => by
  have h1 : PG A b nw ag s φ p ≤ sumN (fun e => c * wN A b e) 7 := sumN_mono _ (fun e _ => by
    rw [Nat.mul_comm c]
    exact Nat.mul_le_mul_left _ (h _ (nG_lt nw hs)))
  rw [sumN_mul] at h1
  have w : c * sumN (wN A b) 7 ≤ c * 63 := Nat.mul_le_mul_left _ (WN_le hW hb)
  omega
theorem spG_le {A : Ab} (hW : WF A) {b : Nat} (hb : b < 4) (nw : Int32) (ag : Nat) {s : Nat} (hs : s ≤ 12) : ∀ p, p < 481 → spG A b nw ag s p ≤ 2520 := fun p hp => by
  have h1 : spG A b nw ag s p ≤ sumN (fun e => 40 * wN A b e) 7 := sumN_mono _ (fun e _ => by
    rw [Nat.mul_comm 40]
    exact Nat.mul_le_mul_left _ (lG_40 nw hs hp))
  rw [sumN_mul] at h1
  have w : 40 * sumN (wN A b) 7 ≤ 40 * 63 := Nat.mul_le_mul_left _ (WN_le hW hb)
  omega
def vG (A : Ab) (b : Nat) (nw : Int32) (ag s dd : Nat) : Nat := ac (PG A b nw ag s) (WN A b) (spG A b nw ag s) 0 dd
theorem vG_le {A : Ab} (hW : WF A) {b : Nat} (hb : b < 4) (nw : Int32) (ag : Nat) {s dd : Nat} (hs : s ≤ 12) (hd : dd ≤ 6) : vG A b nw ag s dd < 2 ^ 63 := by
  have h1 := ac6 (ac_leG (PG_le hW hb nw ag hs) (WN_le hW hb) (spG_le hW hb nw ag hs) (p := 0) (by omega) dd) (by omega) hd
  unfold vG
  omega
abbrev gdS (s ag d : Int32) : Prop := inr s 0 12 ∧ inr ag 1 3 ∧ inr d 1 6
def sSp (A : Ab) (b s ag d nw : Int32) : Int32 × Ab := sNB A (gdS s ag d) b (1, sTell A (vG A (ix b) nw (ix ag) (ix s) (ix d)) (WN A (ix b) ^ ix d))
theorem i1_3 {d : Int32} (h : inr d 1 3) : ∃ k, 1 ≤ k ∧ k ≤ 3 ∧ d = nI k := by
  have h0 : (0 : Int32) ≤ d := by
    have a1 := Int32.le_iff_toInt_le.mp h.1
    have e1 : (1 : Int32).toInt = 1 := by decide
    have e0 : (0 : Int32).toInt = 0 := by decide
    exact Int32.le_iff_toInt_le.mpr (by omega)
  obtain ⟨k, h1, rfl⟩ := inr_ix (n := 3) ⟨h0, h.2⟩ (by omega)
  refine ⟨k, ?_, h1, rfl⟩
  have := (nI_leI (a := 1) (by omega) (by omega)).mp h.1
  exact this
