/-! The reference's walk by a pair of marks. -/
def oP (lo tp i : Nat) : Nat := if i ≤ lo then min 12 (tp - i) else 0
theorem oP12 (lo tp : Nat) : ∀ i, i < 49 → oP lo tp i ≤ 12 := fun i _ => by unfold oP; split <;> omega
theorem oP_v {lo tp i : Nat} (h : lo < tp) (ht : tp < 100) (hi : i < 100) : (if sh i ≤ sh lo then (if sh tp - sh i ≤ (12 : Int32) then sh tp - sh i else (12 : Int32)) else (0 : Int32)) = nI (oP lo tp i) := by
  unfold oP
  by_cases c : i ≤ lo
  · rw [if_pos ((sh_le (by omega) (by omega)).mpr c), if_pos c]
    have e : sh tp - sh i = nI (tp - i) := by
      unfold sh
      rw [iI_sub, iI_n]
      congr 1
      omega
    rw [e, show (12 : Int32) = nI 12 by decide]
    by_cases c2 : tp - i ≤ 12
    · rw [if_pos (nI_le c2 (by omega)), Nat.min_eq_right c2]
    · rw [if_neg (fun q => c2 ((nI_leI (by omega) (by omega)).mp q)), Nat.min_eq_left (by omega)]
  · rw [if_neg (fun q => c ((sh_le (by omega) (by omega)).mp q)), if_neg c]
    rfl
def goP (σ30 : Me) (a0 : Nat) (x1 x7_31 : Int32) (K : Me → Prop) : Prop := ∃ b97 : Nat, gP σ30 a0 30 = some b97 ∧ gT σ30 b97 = 20 ∧ vp_in x7_31 (gN σ30 b97) ∧ ∀ x8_100 : Int32, x8_100 = (((gI σ30 b97 x7_31.toNatClampNeg) / ((625 : Int32))) - ((12 : Int32))) → vp_in x7_31 (gN σ30 b97) ∧ ∀ x9_102 : Int32, x9_102 = (((gI σ30 b97 x7_31.toNatClampNeg) / ((25 : Int32))) - ((gI σ30 b97 x7_31.toNatClampNeg) / ((25 : Int32))) / ((25 : Int32)) * ((25 : Int32))) → vp_in x7_31 (gN σ30 b97) ∧ ∀ x10_104 : Int32, x10_104 = ((gI σ30 b97 x7_31.toNatClampNeg) - (gI σ30 b97 x7_31.toNatClampNeg) / ((25 : Int32)) * ((25 : Int32))) → ∀ x11_105 : Int32, x11_105 = ((x8_100 + x9_102) + x10_104) → ∀ v_106 : Int32, v_106 = (if x11_105 ≤ (gI σ30 a0 50) then (if ((gI σ30 a0 51) - x11_105) ≤ ((12 : Int32)) then ((gI σ30 a0 51) - x11_105) else ((12 : Int32))) else ((0 : Int32))) → ∃ I195 : Nat → Me → Int32 → Prop, (∀ (n195 : Nat) (σ108 : Me) (x13_109 : Int32), I195 n195 σ108 x13_109 → (((7 : Int32)) ≤ x13_109 → K σ108) ∧ (¬ ((7 : Int32)) ≤ x13_109 → gT σ108 a0 = 12 ∧ ∃ b114 : Nat, gP σ108 a0 5 = some b114 ∧ gT σ108 b114 = 20 ∧ vp_in ((((7 : Int32)) * x1) + x13_109) (gN σ108 b114) ∧ ∀ x14_117 : Int32, x14_117 = (gI σ108 b114 ((((7 : Int32)) * x1) + x13_109).toNatClampNeg) → (x14_117 ≤ 0 → ∀ x13_119 : Int32, x13_119 = x13_109 + 1 → ∃ m195 : Nat, m195 < n195 ∧ I195 m195 σ108 x13_119) ∧ (¬ x14_117 ≤ 0 → pX12_day σ108 a0 x8_100 x9_102 x10_104 v_106 x13_109 (fun σ121 => gT σ121 a0 = 12 ∧ ∃ b123 : Nat, gP σ121 a0 31 = some b123 ∧ gT σ121 b123 = 21 ∧ vp_in x7_31 (gN σ121 b123) ∧ ∀ σ126 : Me, σ126 = sL σ121 a0 39 ((gL σ121 a0 39) + (((gL σ121 b123 x7_31.toNatClampNeg) * x14_117.toInt64) * ((gI σ121 a0 27).toInt64))) → pX12_stateOf σ126 (gI σ126 a0 24) (gI σ126 a0 25) (gI σ126 a0 26) (fun r127 σ128 => gT σ128 a0 = 12 ∧ ∃ b130 : Nat, gP σ128 a0 31 = some b130 ∧ gT σ128 b130 = 21 ∧ vp_in x7_31 (gN σ128 b130) ∧ pX12_put σ128 a0 r127 ((gL σ128 b130 x7_31.toNatClampNeg) * x14_117.toInt64) (fun σ134 => ∀ x13_135 : Int32, x13_135 = x13_109 + 1 → ∃ m195 : Nat, m195 < n195 ∧ I195 m195 σ134 x13_135)))))) ∧ ∃ n195 : Nat, I195 n195 σ30 ((0 : Int32))
set_option maxHeartbeats 4000000 in
theorem M_goP {z N T : Nat} {σ : Me} {A : Ab} {k kk : Nat} {pl f ql g : Nat → Nat} (h : MW (z + 36) N T σ A k pl f kk ql g) (hW : WF A) {b lo tp : Nat} (hb : b < 4) (hlt : lo < tp) (htp : tp < 100) (h50 : gI σ (z + 36) 50 = sh lo) (h51 : gI σ (z + 36) 51 = sh tp) {i : Nat} (hi : i < k) {K : Me → Prop} (hK : ∀ σ' kk' ql' g', MW (z + 36) N T σ' A k pl f kk' ql' g' → (∀ φ : Nat → Nat, SM g' ql' kk' (fun s => φ (piN s)) = SM g ql kk (fun s => φ (piN s)) + f i * PN A b (oP lo tp) 0 φ (piN (pl i))) → (∀ c, gL σ (z + 36) 39 = lN c → gL σ' (z + 36) 39 = lN (c + f i * prN A b (oP lo tp) (piN (pl i)))) → gL σ' (z + 36) 44 = gL σ (z + 36) 44 → (∀ j, (j = 50 ∨ j = 51) → gI σ' (z + 36) j = gI σ (z + 36) j) → FrW (z + 36) σ σ' → K σ') : goP σ (z + 36) (nI b) (nI i) K := by
  have r30 := h.1.1.row (30, 14, 20, 17000) (by decide)
  have hk := h.2.2.1.2.1
  obtain ⟨a1, a2, a3, a4⟩ := h.2.2.1.2.2 i hi
  have hin : vp_in (nI i) 17000 := vp_in_nI (by omega) (by omega)
  obtain ⟨p1, p2, p3, p4, p5⟩ := pi_pos a4
  have ho : ∀ j, j < 49 → oP lo tp j ≤ 12 := oP12 lo tp
  have xe := pi_x hW a4 (oP lo tp)
  have e14 : gI σ (z + 36 + 14) (nI i).toNatClampNeg = nI (pl i) := by rw [nI_clamp (by omega)]; exact a1
  refine ⟨z + 36 + 14, r30.1, r30.2.1, by rw [r30.2.2]; exact hin, ?_⟩
  intro x5 e5
  refine ⟨by rw [r30.2.2]; exact hin, ?_⟩
  intro x6 e6
  refine ⟨by rw [r30.2.2]; exact hin, ?_⟩
  intro x7 e7
  have e5' : x5 = sh (pl i / 625) := by rw [e5, e14]; exact st_x a3
  have e6' : x6 = nI (pl i / 25 % 25) := by rw [e6, e14]; exact st_1 a3
  have e7' : x7 = nI (pl i % 25) := by rw [e7, e14]; exact st_2 a3
  have eo : (x5 + x6) + x7 = sh (psM (pl i)) := by rw [e5', e6', e7', sh_add, sh_add]; rfl
  clear e5 e6 e7
  subst e5' e6' e7'
  intro x11 e11 v106 e106
  have e106' : v106 = nI (oP lo tp (psM (pl i))) := by
    rw [e106, e11, eo, h50, h51]
    exact oP_v hlt htp (by omega)
  clear e106 e11
  subst e106'
  have ol := ho _ p5
  refine ⟨fun nn σ1 w => ∃ e kk' ql' g', e ≤ 7 ∧ w = nI e ∧ nn = 7 - e ∧ MW (z + 36) N T σ1 A k pl f kk' ql' g' ∧ (∀ φ : Nat → Nat, SM g' ql' kk' (fun s => φ (piN s)) = SM g ql kk (fun s => φ (piN s)) + f i * PSn A b (oP lo tp) 0 φ (piN (pl i)) e) ∧ (∀ c, gL σ (z + 36) 39 = lN c → gL σ1 (z + 36) 39 = lN (c + f i * prS A b (oP lo tp) (piN (pl i)) e)) ∧ gL σ1 (z + 36) 44 = gL σ (z + 36) 44 ∧ (∀ j, (j = 50 ∨ j = 51) → gI σ1 (z + 36) j = gI σ (z + 36) j) ∧ FrW (z + 36) σ σ1, ?_, 7, 0, kk, ql, g, by omega, rfl, rfl, h, fun φ => rfl, fun c hc => hc, rfl, fun _ _ => rfl, .rf⟩
  rintro nn σ1 w ⟨e, kk', ql', g', he, rfl, rfl, w1, w2, w3, w4, w6, w5⟩
  refine ⟨fun q => ?_, fun q => ?_⟩
  · have : e = 7 := by
      have := (nI_leI (a := 7) (by omega) (by omega)).mp q
      omega
    subst this
    refine hK σ1 kk' ql' g' w1 (fun φ => by rw [w2 φ, PS_7]) (fun c hm => ?_) w4 w6 w5
    have := w3 c hm
    rw [pr_7] at this
    exact this
  · have he7 : e < 7 := by
      have : ¬ 7 ≤ e := fun x => q ((nI_leI (a := 7) (by omega) (by omega)).mpr x)
      omega
    have r5 := w1.1.1.row (5, 3, 20, 28) (by decide)
    have we := wN_eq hW hb he7
    rw [ix7]
    refine ⟨w1.1.1.1, z + 36 + 3, r5.1, r5.2.1, by rw [r5.2.2]; exact show vp_in (nI (7 * b + e)) 28 from vp_in_nI (by omega) (by omega), ?_⟩
    intro x10 e10
    have e10' : x10 = nI (wN A b e) := by
      rw [e10, nI_clamp (by omega), w1.1.ar (5, 3, 28) (by decide) (show 7 * b + e < 28 by omega)]
      exact we.1
    clear e10
    subst e10'
    have ps1 : ∀ φ : Nat → Nat, PSn A b (oP lo tp) 0 φ (piN (pl i)) (e + 1) = PSn A b (oP lo tp) 0 φ (piN (pl i)) e + wN A b e * φ (nxN A (oP lo tp) (piN (pl i)) e) := fun φ => by
      show PSn A b (oP lo tp) 0 φ (piN (pl i)) e + (if (0 : Int32) = 0 ∨ e ≤ xS A (oP lo tp) (piN (pl i)) - 12 then wN A b e * φ _ else 0) = _
      rw [if_pos (Or.inl rfl)]
    have t1 : f i * prS A b (oP lo tp) (piN (pl i)) (e + 1) = f i * prS A b (oP lo tp) (piN (pl i)) e + f i * wN A b e * (opN A (oP lo tp (psM (pl i))) + evN A (xM A (oP lo tp) (pl i)) e) := by
      rw [Nat.mul_assoc, ← Nat.mul_add, ← xe, ← p1]
      rfl
    refine ⟨fun q2 => ?_, fun q2 => ?_⟩
    · have w0 : wN A b e = 0 := by
        have := (nI_leI (b := 0) (by omega) (by omega)).mp q2
        omega
      rintro _ rfl
      refine ⟨7 - (e + 1), by omega, e + 1, kk', ql', g', by omega, sc1 e, rfl, w1, fun φ => by rw [w2 φ, ps1, w0, Nat.zero_mul, Nat.add_zero], fun c hc => ?_, w4, w6, w5⟩
      rw [t1, w0, Nat.mul_zero, Nat.zero_mul, Nat.add_zero]
      exact w3 c hc
    · refine M_dayR w1.1 hW (cm := cmM A (oP lo tp) (pl i)) (n1 := n1M A (oP lo tp) (pl i)) (n2 := n2M A (oP lo tp) (pl i)) (x := xM A (oP lo tp) (pl i)) a4.1 a4.2.1 a4.2.2.1 ol he7 rfl rfl rfl rfl (fun σ2 y1 y2 y3 y4 y5 y6 y7 y8 => ?_)
      have k1 : MW (z + 36) N T σ2 A k pl f kk' ql' g' := w1.fr y2 (fun j hj => y1.2 _ j (by omega)) (fun o j ho => y1.2 _ j (by omega)) (fun o j _ => by rw [y1.1])
      have nm := nM_v hW a4 ho e
      have hx24 : xM A (oP lo tp) (pl i) ≤ 24 := by rw [← xe]; exact xS_le hW _ _
      have cb : opN A (oP lo tp (psM (pl i))) + evN A (xM A (oP lo tp) (pl i)) e < 2 ^ 31 := by have := op_le hW ol; have := ev_le hW hx24 he7; omega
      have r := k1.1.1.row (31, 15, 21, 17000) (by decide)
      have aw := k1.2.2.1.2.2 i hi
      refine ⟨k1.1.1.1, z + 36 + 15, r.1, r.2.1, by rw [r.2.2]; exact hin, ?_⟩
      intro σ3 e3
      have eL : gL σ2 (z + 36 + 15) (nI i).toNatClampNeg * (nI (wN A b e)).toInt64 = lN (f i * wN A b e) := by
        rw [nI_clamp (by omega), aw.2.1, nI_l (by omega), lN_mul]
      rw [eL, y6, nI_l cb, lN_mul] at e3
      have i3 : gI σ3 = gI σ2 := by rw [e3, gI_sL]
      have fW : FrW (z + 36) σ2 σ3 := by rw [e3]; exact frW_L (o := 0) (by omega)
      have l0 : ∀ o j, o ≠ 0 → gL σ3 (z + 36 + o) j = gL σ2 (z + 36 + o) j := fun o j ho => by rw [e3, gL_sL_ne (by omega)]
      have k3 := k1.fr fW (fun j _ => by rw [i3]) (fun o j _ => by rw [i3]) l0
      have r' := k3.1.1.row (31, 15, 21, 17000) (by decide)
      show gT σ3 (z + 36) = 12 ∧ _
      rw [i3, y3, y4, y5, st_of]
      refine ⟨k3.1.1.1, z + 36 + 15, r'.1, r'.2.1, by rw [r'.2.2]; exact hin, ?_⟩
      rw [l0 15 _ (by omega), eL]
      refine M_put k3.1 k3.2.1.1 k3.2.1.2.1 k3.2.1.2.2 k3.2.2.2 (s := nM A (oP lo tp) (pl i) e) nm.2.1 nm.1 (fun σ4 k4 ql4 g4 v1 v2 v3 v4 v5 v6 => ?_)
      rintro _ rfl
      refine ⟨7 - (e + 1), by omega, e + 1, k4, ql4, g4, by omega, sc1 e, rfl, ⟨v1, ⟨v2, h.2.1.2⟩, k3.2.2.1.fr (v5.1 32 (by decide)) (fun j => v5.2.1 _ j (by omega) (by omega) (by omega) (by omega)) (fun j => v5.2.2 _ j (by omega)), v3⟩, fun φ => ?_, fun c hc => ?_, ?_, fun j hj => ?_, ((w5.tr y2).tr fW).tr v6⟩
      · rw [v4 (fun s => φ (piN s)), w2 φ, ps1, nm.2.2, Nat.mul_add, Nat.mul_assoc, Nat.add_assoc]
      · rw [v5.2.2 _ _ (by omega), e3, gL_sL_eq, y1.1, w3 c hc, lN_add, t1, Nat.add_assoc]
      · rw [v5.2.2 _ _ (by omega), e3, gL_sL_nk (by decide), y1.1]
        exact w4
      · rw [v5.1 j (by omega), i3, y1.2 _ j (by omega)]
        exact w6 j hj
/-- after t days -/
def MH (m N T : Nat) (σ0 σ : Me) (A : Ab) (b lo tp p t : Nat) : Prop := ∃ k pl f, RM m N σ A ∧ stT m (T + t) σ ∧ MS m σ (VM A) k pl f ∧ (∀ φ : Nat → Nat, SM f pl k (fun s => φ (piN s)) = pw (PN A b (oP lo tp) 0) t φ p) ∧ gL σ m 39 = lN (vC A b (oP lo tp) p t) ∧ gL σ m 44 = lN (WN A b ^ t) ∧ gI σ m 50 = sh lo ∧ gI σ m 51 = sh tp ∧ FrW m σ0 σ
set_option maxHeartbeats 4000000 in
theorem M_goPair {z N T : Nat} {σ : Me} {A : Ab} (h : RM (z + 36) N σ A) (hW : WF A) {b lo tp : Nat} (hb : b < 4) (hlt : lo < tp) (htp : tp < 100) (h50 : gI σ (z + 36) 50 = sh lo) (h51 : gI σ (z + 36) 51 = sh tp) {X dd : Nat} (hX : X ≤ 24) (hd : dd ≤ 6) (ht : stT (z + 36) T σ) (hN : T + dd ≤ 2000 * N) (hT : T + dd < 2 ^ 31) {Q : Me → Prop} (hQ : ∀ σ', MH (z + 36) N T σ σ' A b lo tp X dd → Q σ') : pX12_goThroughPair σ (z + 36) (nI b) (sh X) (nI dd) Q := by
  have hWl := WN_le hW hb
  have eW : (sW A b 7).toInt64 = lN (WN A b) := by
    rw [sW_eq hW hb 7 (by omega)]
    exact nI_l (by unfold WN at hWl; omega)
  refine ⟨h.1.1, M_allOf h hb ?_⟩
  rintro _ rfl
  rw [eW]
  refine ⟨h.1.1, ?_⟩
  rintro _ rfl _ rfl
  have r30 := h.1.row (30, 14, 20, 17000) (by decide)
  have r31 := h.1.row (31, 15, 21, 17000) (by decide)
  have hin : vp_in (0 : Int32) 17000 := vp_in_nI (show 0 < 17000 by omega) (by omega)
  obtain ⟨v1, v2, v3⟩ := pi_0 hX A
  refine ⟨z + 36 + 14, r30.1, ?_⟩
  show gT _ (z + 36 + 14) = 20 ∧ _
  rw [st_of0]
  refine ⟨r30.2.1, by show vp_in _ (gN σ (z + 36 + 14)); rw [r30.2.2]; exact hin, ?_⟩
  rintro _ rfl
  refine ⟨h.1.1, z + 36 + 15, r31.1, r31.2.1, by show vp_in _ (gN σ (z + 36 + 15)); rw [r31.2.2]; exact hin, ?_⟩
  rintro _ rfl _ rfl
  rw [show ((0 : Int32)).toNatClampNeg = 0 by decide]
  have h0 : MH (z + 36) N T σ (sI (sL (sI (sL (sL σ (z + 36) 39 0) (z + 36) 44 1) (z + 36 + 14) 0 (nI (625 * X))) (z + 36 + 15) 0 1) (z + 36) 32 1) A b lo tp X 0 := by
    have fW : FrW (z + 36) σ (sI (sL (sI (sL (sL σ (z + 36) 39 0) (z + 36) 44 1) (z + 36 + 14) 0 (nI (625 * X))) (z + 36 + 15) 0 1) (z + 36) 32 1) := ((((frW_L (o := 0) (by omega)).tr (frW_L (o := 0) (by omega))).tr (frW_I (by omega))).tr (frW_L (by omega))).tr (frW_0 (by omega))
    have t0 : stT (z + 36) T (sI (sL (sI (sL (sL σ (z + 36) 39 0) (z + 36) 44 1) (z + 36 + 14) 0 (nI (625 * X))) (z + 36 + 15) 0 1) (z + 36) 32 1) := ht.fr (by rw [gI_sI_nk (by decide), gI_sL, gI_sI_ne (by omega)]; rfl) (fun j => by rw [gI_sI_ne (by omega), gI_sL, gI_sI_ne (by omega)]; rfl)
    refine ⟨1, fun _ => 625 * X, fun _ => 1, h.frW fW t0 (by omega), t0, ⟨gI_sI_eq, by omega, fun i hi => ?_⟩, fun φ => ?_, ?_, ?_, ?_, ?_, fW⟩
    · have : i = 0 := by omega
      subst this
      refine ⟨?_, ?_, v3, v1⟩
      · rw [gI_sI_ne (by omega), gI_sL, gI_sI_eq]
      · rw [gL_sI, gL_sL_eq]
        rfl
    · show 0 + 1 * φ (piN (625 * X)) = φ X
      rw [v2]
      omega
    · rw [gL_sI, gL_sL_ne (by omega), gL_sI, gL_sL_nk (by decide), gL_sL_eq]
      rfl
    · rw [gL_sI, gL_sL_ne (by omega), gL_sI, gL_sL_eq]
      rfl
    · rw [gI_sI_nk (by decide), gI_sL, gI_sI_ne (by omega)]
      exact h50
    · rw [gI_sI_nk (by decide), gI_sL, gI_sI_ne (by omega)]
      exact h51
  generalize (sI (sL (sI (sL (sL σ (z + 36) 39 0) (z + 36) 44 1) (z + 36 + 14) 0 (nI (625 * X))) (z + 36 + 15) 0 1) (z + 36) 32 1) = τ at *
  refine ⟨fun nn σ1 w => ∃ t, t ≤ dd ∧ w = nI t ∧ nn = dd - t ∧ MH (z + 36) N T σ σ1 A b lo tp X t, ?_, dd, 0, by omega, rfl, rfl, h0⟩
  rintro nn σ1 w ⟨t, htd, rfl, rfl, hG⟩
  have hG0 := hG
  obtain ⟨k, pl, f, g1, g2, g3, g4, g5, g6, g8, g9, g7⟩ := hG
  have hk := g3.2.1
  refine ⟨fun q => ?_, fun q => ⟨g1.1.1, ?_⟩⟩
  · have : t = dd := by
      have := (nI_leI (by omega) (by omega)).mp q
      omega
    subst this
    exact hQ σ1 hG0
  · have hlt2 : t < dd := by
      have : ¬ dd ≤ t := fun x => q ((nI_leI (by omega) (by omega)).mpr x)
      omega
    intro σ81 e81 σ82 e82 σ83 e83 σ87 e87
    have i87 : gI σ87 = gI σ82 := by rw [e87, gI_sL, e83, gI_sL]
    have i38 : gI σ87 (z + 36) 38 = nI (T + t + 1) := by rw [i87, e82, gI_sI_nk (by decide), e81, gI_sI_eq, g2.1]; exact sc1 _
    have i35 : gI σ87 (z + 36) 35 = 0 := by rw [i87, e82, gI_sI_eq]
    have i32 : ∀ j, (j = 32 ∨ j = 50 ∨ j = 51) → gI σ87 (z + 36) j = gI σ1 (z + 36) j := fun j hj => by rw [i87, e82, gI_sI_nk (by omega), e81, gI_sI_nk (by omega)]
    have iO : ∀ o j, o ≠ 0 → gI σ87 (z + 36 + o) j = gI σ1 (z + 36 + o) j := fun o j ho => by rw [i87, e82, gI_sI_ne (by omega), e81, gI_sI_ne (by omega)]
    have lO : ∀ o j, o ≠ 0 → gL σ87 (z + 36 + o) j = gL σ1 (z + 36 + o) j := fun o j ho => by rw [e87, gL_sL_ne (by omega), e83, gL_sL_ne (by omega), e82, gL_sI, e81, gL_sI]
    have l82 : gL σ82 = gL σ1 := by rw [e82, gL_sI, e81, gL_sI]
    have l44 : gL σ87 (z + 36) 44 = lN (WN A b ^ (t + 1)) := by rw [e87, gL_sL_eq, e83, gL_sL_nk (by decide), l82, g6, lN_mul]; rfl
    have lA : gL σ87 (z + 36) 39 = lN (vC A b (oP lo tp) X t * WN A b) := by rw [e87, gL_sL_nk (by decide), e83, gL_sL_eq, l82, g5, lN_mul]
    have fW : FrW (z + 36) σ1 σ87 := by
      rw [e87, e83, e82, e81]
      exact (((frW_0 (by omega)).tr (frW_0 (by omega))).tr (frW_L (o := 0) (by omega))).tr (frW_L (o := 0) (by omega))
    obtain ⟨t1, t2⟩ := g2.up (by omega) (VM A) (fun _ => 0) (fun _ => 0) i38 (fun j => iO 19 j (by omega)) i35
    have w0 : MW (z + 36) N (T + t + 1) σ87 A k pl f 0 (fun _ => 0) (fun _ => 0) := ⟨g1.frW fW t1 (by omega), ⟨t1, by omega, by omega⟩, g3.fr (i32 32 (by omega)) (fun j => iO 14 j (by omega)) (fun j => lO 15 j (by omega)), t2⟩
    clear e81 e82 e83 e87 i87 l82
    refine ⟨fun nn σ2 w => ∃ i kk ql g, i ≤ k ∧ w = nI i ∧ nn = k - i ∧ MW (z + 36) N (T + t + 1) σ2 A k pl f kk ql g ∧ (∀ φ : Nat → Nat, SM g ql kk (fun s => φ (piN s)) = SM f pl i (fun s => PN A b (oP lo tp) 0 φ (piN s))) ∧ gL σ2 (z + 36) 39 = lN (vC A b (oP lo tp) X t * WN A b + SM f pl i (fun s => prN A b (oP lo tp) (piN s))) ∧ gL σ2 (z + 36) 44 = gL σ87 (z + 36) 44 ∧ (∀ j, (j = 50 ∨ j = 51) → gI σ2 (z + 36) j = gI σ1 (z + 36) j) ∧ FrW (z + 36) σ87 σ2, ?_, k, 0, 0, _, _, by omega, rfl, rfl, w0, fun φ => rfl, lA, rfl, fun j hj => i32 j (by omega), .rf⟩
    rintro nn σ2 w ⟨i, kk, ql, g, hi, rfl, rfl, k1, k2, k3, k4, k6, k5⟩
    refine ⟨k1.1.1.1, ?_⟩
    rw [k1.2.2.1.1]
    refine ⟨fun q2 => ?_, fun q2 => ?_⟩
    · have : i = k := by
        have := (nI_leI (by omega) (by omega)).mp q2
        omega
      subst this
      intro σ96 e96
      have f96 : FrW (z + 36) σ2 σ96 := by rw [e96]; exact frW_0 (by omega)
      have j96 : ∀ j, j ≠ 32 → gI σ96 (z + 36) j = gI σ2 (z + 36) j := fun j hj => by rw [e96, gI_sI_nk hj]
      have o96 : ∀ o j, o ≠ 0 → gI σ96 (z + 36 + o) j = gI σ2 (z + 36 + o) j := fun o j ho => by rw [e96, gI_sI_ne (by omega)]
      have l96 : gL σ96 = gL σ2 := by rw [e96, gL_sI]
      have t96 : stT (z + 36) (T + t + 1) σ96 := k1.2.1.1.fr (j96 38 (by decide)) (fun j => o96 19 j (by omega))
      have n96 : MN (z + 36) σ96 (T + t + 1) (VM A) kk ql g := k1.2.2.2.fr (j96 35 (by decide)) (fun o j ho => o96 o j (by omega)) (fun j => by rw [l96])
      have m96 : gI σ96 (z + 36) 32 = nI kk := by rw [e96, gI_sI_eq]; exact k1.2.2.2.1
      refine M_cp (k1.1.frW f96 t96 (by omega)) t96 (by omega) n96 m96 (fun σ3 y1 y2 y3 y4 y5 y6 => ?_)
      rintro _ rfl
      refine ⟨dd - (t + 1), by omega, t + 1, by omega, sc1 t, rfl, kk, ql, g, y1, y2, y3, fun φ => ?_, ?_, ?_, ?_, ?_, ((g7.tr fW).tr k5).tr (f96.tr y6)⟩
      · rw [k2 φ]
        exact g4 (PN A b (oP lo tp) 0 φ)
      · rw [y4, l96, k3, g4 (prN A b (oP lo tp))]
        rfl
      · rw [y4, l96, k4, l44]
      · rw [y5, j96 50 (by decide), k6 50 (by omega)]
        exact g8
      · rw [y5, j96 51 (by decide), k6 51 (by omega)]
        exact g9
    · have hlt3 : i < k := by
        have : ¬ k ≤ i := fun x => q2 ((nI_leI (by omega) (by omega)).mpr x)
        omega
      refine M_goP k1 hW hb hlt htp ((k6 50 (by omega)).trans g8) ((k6 51 (by omega)).trans g9) hlt3 (fun σ3 kk3 ql3 g3' v1 v2 v3 v4 v6 v5 => ?_)
      rintro _ rfl
      refine ⟨k - (i + 1), by omega, i + 1, kk3, ql3, g3', by omega, sc1 i, rfl, v1, fun φ => ?_, ?_, by rw [v4, k4], fun j hj => (v6 j hj).trans (k6 j hj), k5.tr v5⟩
      · rw [v2 φ, k2 φ, SM_s]
      · rw [v3 _ k3, SM_s, Nat.add_assoc]
