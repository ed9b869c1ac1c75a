/-! The reference goes through all days. -/
def cpB (σ96 : Me) (a0 : Nat) (K : Me → Prop) : Prop := ∃ I176 : Nat → Me → Int32 → Prop, (∀ (n176 : Nat) (σ97 : Me) (x9_98 : Int32), I176 n176 σ97 x9_98 → gT σ97 a0 = 12 ∧ ((gI σ97 a0 32) ≤ x9_98 → K σ97) ∧ (¬ (gI σ97 a0 32) ≤ x9_98 → ∃ b102 : Nat, gP σ97 a0 30 = some b102 ∧ ∃ b103 : Nat, gP σ97 a0 33 = some b103 ∧ gT σ97 b103 = 20 ∧ vp_in x9_98 (gN σ97 b103) ∧ gT σ97 b102 = 20 ∧ vp_in x9_98 (gN σ97 b102) ∧ ∀ σ108 : Me, σ108 = sI σ97 b102 x9_98.toNatClampNeg (gI σ97 b103 x9_98.toNatClampNeg) → ∃ b109 : Nat, gP σ108 a0 31 = some b109 ∧ ∃ b110 : Nat, gP σ108 a0 34 = some b110 ∧ gT σ108 b110 = 21 ∧ vp_in x9_98 (gN σ108 b110) ∧ gT σ108 b109 = 21 ∧ vp_in x9_98 (gN σ108 b109) ∧ ∀ σ115 : Me, σ115 = sL σ108 b109 x9_98.toNatClampNeg (gL σ108 b110 x9_98.toNatClampNeg) → ∀ x9_116 : Int32, x9_116 = x9_98 + 1 → ∃ m176 : Nat, m176 < n176 ∧ I176 m176 σ115 x9_116)) ∧ ∃ n176 : Nat, I176 n176 σ96 ((0 : Int32))
theorem M_cp {m N T : Nat} {σ : Me} {A : Ab} (h : RM m N σ A) (ht : stT m T σ) (hN : T ≤ 2000 * N) {V : Nat → Prop} {k : Nat} {ql g : Nat → Nat} (hn : MN m σ T V k ql g) (h32 : gI σ m 32 = nI k) {K : Me → Prop} (hK : ∀ σ', RM m N σ' A → stT m T σ' → MS m σ' V k ql g → (∀ j, gL σ' m j = gL σ m j) → (∀ j, gI σ' m j = gI σ m j) → FrW m σ σ' → K σ') : cpB σ m K := by
  have hk := hn.le
  refine ⟨fun nn σ1 w => ∃ j, j ≤ k ∧ w = nI j ∧ nn = k - j ∧ RM m N σ1 A ∧ FrW m σ σ1 ∧ (∀ j, gL σ1 m j = gL σ m j) ∧ (∀ j, gI σ1 m j = gI σ m j) ∧ (∀ o j, (o = 16 ∨ o = 18 ∨ o = 19) → gI σ1 (m + o) j = gI σ (m + o) j) ∧ (∀ j, gL σ1 (m + 17) j = gL σ (m + 17) j) ∧ ∀ i, i < j → gI σ1 (m + 14) i = nI (ql i) ∧ gL σ1 (m + 15) i = lN (g i), ?_, k, 0, by omega, rfl, rfl, h, .rf, fun _ => rfl, fun _ => rfl, fun _ _ _ => rfl, fun _ => rfl, fun i hi => by omega⟩
  rintro nn σ1 w ⟨j, hj, rfl, rfl, h1, h2, h3, h4, h5, h6, h7⟩
  rw [h4 32, h32]
  refine ⟨h1.1.1, fun q => ?_, fun q => ?_⟩
  · have : j = k := by
      have := (nI_leI (by omega) (by omega)).mp q
      omega
    subst this
    refine hK σ1 h1 (ht.fr (h4 38) (fun i => h5 19 i (by omega))) ⟨by rw [h4 32]; exact h32, hk, fun i hi => ?_⟩ h3 h4 h2
    exact ⟨(h7 i hi).1, (h7 i hi).2, (hn.2.1 i hi).2.2.1⟩
  · have hlt : j < k := by
      have : ¬ k ≤ j := fun x => q ((nI_leI (by omega) (by omega)).mpr x)
      omega
    have r30 := h1.1.row (30, 14, 20, 17000) (by decide)
    have r33 := h1.1.row (33, 16, 20, 17000) (by decide)
    have r31 := h1.1.row (31, 15, 21, 17000) (by decide)
    have r34 := h1.1.row (34, 17, 21, 17000) (by decide)
    have hin : vp_in (nI j) 17000 := vp_in_nI (by omega) (by omega)
    have cj : (nI j).toNatClampNeg = j := nI_clamp (by omega)
    refine ⟨m + 14, r30.1, m + 16, r33.1, r33.2.1, by rw [r33.2.2]; exact hin, r30.2.1, by rw [r30.2.2]; exact hin, ?_⟩
    rintro _ rfl
    refine ⟨m + 15, r31.1, m + 17, r34.1, r34.2.1, by rw [gN_sI, r34.2.2]; exact hin, r31.2.1, by rw [gN_sI, r31.2.2]; exact hin, ?_⟩
    rintro _ rfl _ rfl
    rw [cj]
    have fW : FrW m σ1 (sL (sI σ1 (m + 14) j (gI σ1 (m + 16) j)) (m + 15) j (gL (sI σ1 (m + 14) j (gI σ1 (m + 16) j)) (m + 17) j)) := (frW_I (by omega)).tr (frW_L (by omega))
    refine ⟨k - (j + 1), by omega, j + 1, by omega, sc1 j, rfl, ?_, h2.tr fW, fun i => ?_, fun i => ?_, fun o i ho => ?_, fun i => ?_, fun i hi => ?_⟩
    · refine h1.frW fW (T := T) ?_ hN
      have t1 := ht.fr (h4 38) (fun i => h5 19 i (by omega))
      exact t1.fr (by rw [gI_sL, gI_sI_ne (by omega)]) (fun i => by rw [gI_sL, gI_sI_ne (by omega)])
    · rw [gL_sL_ne (by omega), gL_sI]
      exact h3 i
    · rw [gI_sL, gI_sI_ne (by omega)]
      exact h4 i
    · rw [gI_sL, gI_sI_ne (by omega)]
      exact h5 o i ho
    · rw [gL_sL_ne (by omega), gL_sI]
      exact h6 i
    · rw [gI_sL]
      by_cases c : i = j
      · rw [c, gI_sI_eq, gL_sL_eq, gL_sI, h5 16 j (by omega), h6]
        have := hn.2.1 j hlt
        exact ⟨this.1, this.2.1⟩
      · rw [gI_sI_nk c, gL_sL_nk c, gL_sI]
        exact h7 i (by omega)
theorem stT.up {m T : Nat} {σ : Me} (h : stT m T σ) (hT : T + 1 < 2 ^ 31) (V : Nat → Prop) (ql g : Nat → Nat) {σ' : Me} (h38 : gI σ' m 38 = nI (T + 1)) (h19 : ∀ j, gI σ' (m + 19) j = gI σ (m + 19) j) (h35 : gI σ' m 35 = 0) : stT m (T + 1) σ' ∧ MN m σ' (T + 1) V 0 ql g := by
  refine ⟨⟨h38, fun j hj => ?_⟩, h35, fun i hi => by omega, fun i hi => by omega, fun s hs e => ?_⟩
  · obtain ⟨u, h1, h2⟩ := h.2 j hj
    exact ⟨u, by rw [h19]; exact h1, by omega⟩
  · obtain ⟨u, h1, h2⟩ := h.2 s hs
    rw [h19, h1] at e
    have := (nI_eq (by omega) (by omega)).mp e
    omega
theorem pi_0 {X : Nat} (hX : X ≤ 24) (A : Ab) : VM A (625 * X) ∧ piN (625 * X) = X ∧ 625 * X < 17000 := by
  have a1 : 625 * X / 625 = X := by omega
  have a2 : 625 * X / 25 % 25 = 0 := by omega
  have a3 : 625 * X % 25 = 0 := by omega
  refine ⟨⟨by omega, by omega, by omega, fun _ => ⟨a2, a3⟩, fun _ => a3⟩, ?_, by omega⟩
  unfold piN
  omega
theorem st_of0 (X : Nat) : (((625 : Int32) * (sh X + (12 : Int32))) + ((25 : Int32) * (0 : Int32))) + (0 : Int32) = nI (625 * X) := by
  have h := @st_of X 0 0
  rw [show nI 0 = (0 : Int32) by decide] at h
  rw [h]
  rfl
/-- after t days -/
def MG (m N T : Nat) (σ0 σ : Me) (A : Ab) (b : Nat) (o : Nat → Nat) (u : Int32) (p t : Nat) : Prop := ∃ k pl f, RM m N σ A ∧ stT m (T + t) σ ∧ MS m σ (VM A) k pl f ∧ (∀ φ : Nat → Nat, SM f pl k (fun s => φ (piN s)) = pw (PN A b o u) t φ p) ∧ (u = 0 → MA m σ (ac (PN A b o u) (WN A b) (prN A b o) p t) (ac (PN A b o u) (WN A b) (maN A b o) p t) (ac (PN A b o u) (WN A b) (fun _ => DN A b) p t) (ac (PN A b o u) (WN A b) (iaN A b o) p t)) ∧ gL σ m 44 = lN (WN A b ^ t) ∧ FrW m σ0 σ
theorem SM_s (f pl : Nat → Nat) (k : Nat) (φ : Nat → Nat) : SM f pl (k + 1) φ = SM f pl k φ + f k * φ (pl k) := rfl
set_option maxHeartbeats 4000000 in
theorem M_goThrough {z N T : Nat} {σ : Me} {A : Ab} (h : RM (z + 36) N σ A) (hW : WF A) {b r : Nat} (hb : b < 4) (hr : r < 12) (hU : WFr A r) {u : Int32} {X dd : Nat} (hX : X ≤ 24) (hd : dd ≤ 6) (ht : stT (z + 36) T σ) (hN : T + dd ≤ 2000 * N) (hT : T + dd < 2 ^ 31) {Q : Me → Prop} (hQ : ∀ σ', MG (z + 36) N T σ σ' A b (oR A r) u X dd → gL σ' (z + 36) 43 = lN (pw (PN A b (oR A r) u) dd (fun _ => 1) X) → Q σ') : pX12_goThrough σ (z + 36) (nI r) (nI b) (sh X) (nI dd) u Q := by
  have hWl := WN_le hW hb
  have eW : (sW A b 7).toInt64 = lN (WN A b) := by
    rw [sW_eq hW hb 7 (by omega)]
    exact nI_l (by unfold WN at hWl; omega)
  refine ⟨h.1.1, M_allOf h hb ?_⟩
  rintro _ rfl
  rw [eW]
  refine ⟨h.1.1, ?_⟩
  rintro _ rfl _ rfl _ rfl _ rfl _ rfl
  have r30 := h.1.row (30, 14, 20, 17000) (by decide)
  have r31 := h.1.row (31, 15, 21, 17000) (by decide)
  have hin : vp_in (0 : Int32) 17000 := vp_in_nI (show 0 < 17000 by omega) (by omega)
  obtain ⟨v1, v2, v3⟩ := pi_0 hX A
  refine ⟨z + 36 + 14, r30.1, ?_⟩
  show gT _ (z + 36 + 14) = 20 ∧ _
  rw [st_of0]
  refine ⟨r30.2.1, by show vp_in _ (gN σ (z + 36 + 14)); rw [r30.2.2]; exact hin, ?_⟩
  rintro _ rfl
  refine ⟨h.1.1, z + 36 + 15, r31.1, r31.2.1, by show vp_in _ (gN σ (z + 36 + 15)); rw [r31.2.2]; exact hin, ?_⟩
  rintro _ rfl _ rfl
  rw [show ((0 : Int32)).toNatClampNeg = 0 by decide]
  have h0 : MG (z + 36) N T σ (sI (sL (sI (sL (sL (sL (sL (sL σ (z + 36) 39 0) (z + 36) 40 0) (z + 36) 41 0) (z + 36) 42 0) (z + 36) 44 1) (z + 36 + 14) 0 (nI (625 * X))) (z + 36 + 15) 0 1) (z + 36) 32 1) A b (oR A r) u X 0 := by
    have fW : FrW (z + 36) σ (sI (sL (sI (sL (sL (sL (sL (sL σ (z + 36) 39 0) (z + 36) 40 0) (z + 36) 41 0) (z + 36) 42 0) (z + 36) 44 1) (z + 36 + 14) 0 (nI (625 * X))) (z + 36 + 15) 0 1) (z + 36) 32 1) := (((((((frW_L (o := 0) (by omega)).tr (frW_L (o := 0) (by omega))).tr (frW_L (o := 0) (by omega))).tr (frW_L (o := 0) (by omega))).tr (frW_L (o := 0) (by omega))).tr (frW_I (by omega))).tr (frW_L (by omega))).tr (frW_0 (by omega))
    have t0 : stT (z + 36) T (sI (sL (sI (sL (sL (sL (sL (sL σ (z + 36) 39 0) (z + 36) 40 0) (z + 36) 41 0) (z + 36) 42 0) (z + 36) 44 1) (z + 36 + 14) 0 (nI (625 * X))) (z + 36 + 15) 0 1) (z + 36) 32 1) := ht.fr (by rw [gI_sI_nk (by decide), gI_sL, gI_sI_ne (by omega)]; rfl) (fun j => by rw [gI_sI_ne (by omega), gI_sL, gI_sI_ne (by omega)]; rfl)
    refine ⟨1, fun _ => 625 * X, fun _ => 1, h.frW fW t0 (by omega), t0, ⟨gI_sI_eq, by omega, fun i hi => ?_⟩, fun φ => ?_, fun _ => ⟨?_, ?_, ?_, ?_⟩, ?_, fW⟩
    · have : i = 0 := by omega
      subst this
      refine ⟨?_, ?_, v3, v1⟩
      · rw [gI_sI_ne (by omega), gI_sL, gI_sI_eq]
      · rw [gL_sI, gL_sL_eq]
        rfl
    · show 0 + 1 * φ (piN (625 * X)) = φ X
      rw [v2]
      omega
    · rw [gL_sI, gL_sL_ne (by omega), gL_sI, gL_sL_nk (by decide), gL_sL_nk (by decide), gL_sL_nk (by decide), gL_sL_nk (by decide), gL_sL_eq]
      rfl
    · rw [gL_sI, gL_sL_ne (by omega), gL_sI, gL_sL_nk (by decide), gL_sL_nk (by decide), gL_sL_nk (by decide), gL_sL_eq]
      rfl
    · rw [gL_sI, gL_sL_ne (by omega), gL_sI, gL_sL_nk (by decide), gL_sL_nk (by decide), gL_sL_eq]
      rfl
    · rw [gL_sI, gL_sL_ne (by omega), gL_sI, gL_sL_nk (by decide), gL_sL_eq]
      rfl
    · rw [gL_sI, gL_sL_ne (by omega), gL_sI, gL_sL_eq]
      rfl
  generalize (sI (sL (sI (sL (sL (sL (sL (sL σ (z + 36) 39 0) (z + 36) 40 0) (z + 36) 41 0) (z + 36) 42 0) (z + 36) 44 1) (z + 36 + 14) 0 (nI (625 * X))) (z + 36 + 15) 0 1) (z + 36) 32 1) = τ at *
  refine ⟨fun nn σ1 w => ∃ t, t ≤ dd ∧ w = nI t ∧ nn = dd - t ∧ MG (z + 36) N T σ σ1 A b (oR A r) u X t, ?_, dd, 0, by omega, rfl, rfl, h0⟩
  rintro nn σ1 w ⟨t, htd, rfl, rfl, hG⟩
  have hG0 := hG
  obtain ⟨k, pl, f, g1, g2, g3, g4, g5, g6, g7⟩ := hG
  have hk := g3.2.1
  refine ⟨fun q => ⟨g1.1.1, ?_⟩, fun q => ⟨g1.1.1, ?_⟩⟩
  · have : t = dd := by
      have := (nI_leI (by omega) (by omega)).mp q
      omega
    subst this
    intro σ70 e70
    -- the ways are added up
    refine ⟨fun nn σ2 w => ∃ j, j ≤ k ∧ w = nI j ∧ nn = k - j ∧ FrW (z + 36) σ1 σ2 ∧ gI σ2 = gI σ1 ∧ (∀ q j, (q ≠ z + 36 ∨ j ≠ 43) → gL σ2 q j = gL σ1 q j) ∧ gL σ2 (z + 36) 43 = lN (SM f pl j (fun _ => 1)), ?_, k, 0, by omega, rfl, rfl, by rw [e70]; exact frW_L (o := 0) (by omega), by rw [e70, gI_sL], fun q j hq => ?_, by rw [e70, gL_sL_eq]; rfl⟩
    rotate_left
    · rw [e70]
      by_cases c : q = z + 36
      · rw [gL_sL_nk (by omega)]
      · rw [gL_sL_ne c]
    rintro nn σ2 w ⟨j, hj, rfl, rfl, k1, k2, k3, k4⟩
    have hR : RM (z + 36) N σ2 A := g1.frW k1 (g2.fr (by rw [k2]) (fun j => by rw [k2])) (by omega)
    refine ⟨hR.1.1, ?_⟩
    rw [k2, g3.1]
    refine ⟨fun q2 => ?_, fun q2 => ?_⟩
    · have : j = k := by
        have := (nI_leI (by omega) (by omega)).mp q2
        omega
      subst this
      have e1 := g4 (fun _ => 1)
      refine hQ _ ⟨j, pl, f, hR, g2.fr (by rw [k2]) (fun j => by rw [k2]), g3.fr (by rw [k2]) (fun _ => by rw [k2]) (fun i => k3 _ _ (by omega)), g4, fun hu => ?_, by rw [k3 _ _ (by omega)]; exact g6, g7.tr k1⟩ (by rw [k4, ← e1])
      obtain ⟨a1, a2, a3, a4⟩ := g5 hu
      exact ⟨by rw [k3 _ _ (by omega)]; exact a1, by rw [k3 _ _ (by omega)]; exact a2, by rw [k3 _ _ (by omega)]; exact a3, by rw [k3 _ _ (by omega)]; exact a4⟩
    · have hlt : j < k := by
        have : ¬ k ≤ j := fun x => q2 ((nI_leI (by omega) (by omega)).mpr x)
        omega
      have s31 := hR.1.row (31, 15, 21, 17000) (by decide)
      refine ⟨_, s31.1, s31.2.1, by rw [s31.2.2]; exact show vp_in (nI j) 17000 from vp_in_nI (by omega) (by omega), ?_⟩
      intro σ78 e78
      rintro _ rfl
      refine ⟨k - (j + 1), by omega, j + 1, by omega, sc1 j, rfl, k1.tr (by rw [e78]; exact frW_L (o := 0) (by omega)), by rw [e78, gI_sL, k2], fun q i hq => ?_, ?_⟩
      · rw [e78, ← k3 q i hq]
        by_cases c : q = z + 36
        · rw [gL_sL_nk (by omega)]
        · rw [gL_sL_ne c]
      · rw [e78, gL_sL_eq, k4]
        show _ + gL σ2 (z + 36 + 15) _ = _
        rw [k3 _ _ (by omega), nI_clamp (by omega), (g3.2.2 j hlt).2.1, lN_add, SM_s, Nat.mul_one]
  · have hlt : t < dd := by
      have : ¬ dd ≤ t := fun x => q ((nI_leI (by omega) (by omega)).mpr x)
      omega
    intro σ81 e81 σ82 e82 σ83 e83 σ84 e84 σ85 e85 σ86 e86 σ87 e87
    have i87 : gI σ87 = gI σ82 := by rw [e87, gI_sL, e86, gI_sL, e85, gI_sL, e84, gI_sL, e83, gI_sL]
    have i38 : gI σ87 (z + 36) 38 = nI (T + t + 1) := by rw [i87, e82, gI_sI_nk (by decide), e81, gI_sI_eq, g2.1]; exact sc1 _
    have i35 : gI σ87 (z + 36) 35 = 0 := by rw [i87, e82, gI_sI_eq]
    have i32 : gI σ87 (z + 36) 32 = gI σ1 (z + 36) 32 := by rw [i87, e82, gI_sI_nk (by decide), e81, gI_sI_nk (by decide)]
    have iO : ∀ o j, o ≠ 0 → gI σ87 (z + 36 + o) j = gI σ1 (z + 36 + o) j := fun o j ho => by rw [i87, e82, gI_sI_ne (by omega), e81, gI_sI_ne (by omega)]
    have lO : ∀ o j, o ≠ 0 → gL σ87 (z + 36 + o) j = gL σ1 (z + 36 + o) j := fun o j ho => by rw [e87, gL_sL_ne (by omega), e86, gL_sL_ne (by omega), e85, gL_sL_ne (by omega), e84, gL_sL_ne (by omega), e83, gL_sL_ne (by omega), e82, gL_sI, e81, gL_sI]
    have l82 : gL σ82 = gL σ1 := by rw [e82, gL_sI, e81, gL_sI]
    have l44 : gL σ87 (z + 36) 44 = lN (WN A b ^ (t + 1)) := by rw [e87, gL_sL_eq, e86, gL_sL_nk (by decide), e85, gL_sL_nk (by decide), e84, gL_sL_nk (by decide), e83, gL_sL_nk (by decide), l82, g6, lN_mul]; rfl
    have lA : ∀ c e d j, MA (z + 36) σ1 c e d j → MA (z + 36) σ87 (c * WN A b) (e * WN A b) (d * WN A b) (j * WN A b) := by
      rintro c e d j ⟨a1, a2, a3, a4⟩
      refine ⟨?_, ?_, ?_, ?_⟩
      · rw [e87, gL_sL_nk (by decide), e86, gL_sL_nk (by decide), e85, gL_sL_nk (by decide), e84, gL_sL_nk (by decide), e83, gL_sL_eq, l82, a1, lN_mul]
      · rw [e87, gL_sL_nk (by decide), e86, gL_sL_nk (by decide), e85, gL_sL_nk (by decide), e84, gL_sL_eq, e83, gL_sL_nk (by decide), l82, a2, lN_mul]
      · rw [e87, gL_sL_nk (by decide), e86, gL_sL_nk (by decide), e85, gL_sL_eq, e84, gL_sL_nk (by decide), e83, gL_sL_nk (by decide), l82, a3, lN_mul]
      · rw [e87, gL_sL_nk (by decide), e86, gL_sL_eq, e85, gL_sL_nk (by decide), e84, gL_sL_nk (by decide), e83, gL_sL_nk (by decide), l82, a4, lN_mul]
    have fW : FrW (z + 36) σ1 σ87 := by
      rw [e87, e86, e85, e84, e83, e82, e81]
      exact (((((((frW_0 (by omega)).tr (frW_0 (by omega))).tr (frW_L (o := 0) (by omega))).tr (frW_L (o := 0) (by omega))).tr (frW_L (o := 0) (by omega))).tr (frW_L (o := 0) (by omega))).tr (frW_L (o := 0) (by omega)))
    obtain ⟨t1, t2⟩ := g2.up (by omega) (VM A) (fun _ => 0) (fun _ => 0) i38 (fun j => iO 19 j (by omega)) i35
    have w0 : MW (z + 36) N (T + t + 1) σ87 A k pl f 0 (fun _ => 0) (fun _ => 0) := ⟨g1.frW fW t1 (by omega), ⟨t1, by omega, by omega⟩, g3.fr i32 (fun j => iO 14 j (by omega)) (fun j => lO 15 j (by omega)), t2⟩
    clear e81 e82 e83 e84 e85 e86 e87 i87 l82
    refine ⟨fun nn σ2 w => ∃ i kk ql g, i ≤ k ∧ w = nI i ∧ nn = k - i ∧ MW (z + 36) N (T + t + 1) σ2 A k pl f kk ql g ∧ (∀ φ : Nat → Nat, SM g ql kk (fun s => φ (piN s)) = SM f pl i (fun s => PN A b (oR A r) u φ (piN s))) ∧ (u = 0 → ∀ c e d j, MA (z + 36) σ87 c e d j → MA (z + 36) σ2 (c + SM f pl i (fun s => prN A b (oR A r) (piN s))) (e + SM f pl i (fun s => maN A b (oR A r) (piN s))) (d + SM f pl i (fun _ => DN A b)) (j + SM f pl i (fun s => iaN A b (oR A r) (piN s)))) ∧ gL σ2 (z + 36) 44 = gL σ87 (z + 36) 44 ∧ FrW (z + 36) σ87 σ2, ?_, k, 0, 0, _, _, by omega, rfl, rfl, w0, fun φ => rfl, fun _ c e d j hm => hm, rfl, .rf⟩
    rintro nn σ2 w ⟨i, kk, ql, g, hi, rfl, rfl, k1, k2, k3, k4, k5⟩
    refine ⟨k1.1.1.1, ?_⟩
    rw [k1.2.2.1.1]
    refine ⟨fun q2 => ?_, fun q2 => ?_⟩
    · have : i = k := by
        have := (nI_leI (by omega) (by omega)).mp q2
        omega
      subst this
      intro σ96 e96
      have f96 : FrW (z + 36) σ2 σ96 := by rw [e96]; exact frW_0 (by omega)
      have j96 : ∀ j, j ≠ 32 → gI σ96 (z + 36) j = gI σ2 (z + 36) j := fun j hj => by rw [e96, gI_sI_nk hj]
      have o96 : ∀ o j, o ≠ 0 → gI σ96 (z + 36 + o) j = gI σ2 (z + 36 + o) j := fun o j ho => by rw [e96, gI_sI_ne (by omega)]
      have l96 : gL σ96 = gL σ2 := by rw [e96, gL_sI]
      have t96 : stT (z + 36) (T + t + 1) σ96 := k1.2.1.1.fr (j96 38 (by decide)) (fun j => o96 19 j (by omega))
      have n96 : MN (z + 36) σ96 (T + t + 1) (VM A) kk ql g := k1.2.2.2.fr (j96 35 (by decide)) (fun o j ho => o96 o j (by omega)) (fun j => by rw [l96])
      have m96 : gI σ96 (z + 36) 32 = nI kk := by rw [e96, gI_sI_eq]; exact k1.2.2.2.1
      refine M_cp (k1.1.frW f96 t96 (by omega)) t96 (by omega) n96 m96 (fun σ3 y1 y2 y3 y4 y5 y6 => ?_)
      rintro _ rfl
      refine ⟨dd - (t + 1), by omega, t + 1, by omega, sc1 t, rfl, kk, ql, g, y1, y2, y3, fun φ => ?_, fun hu => ?_, ?_, ((g7.tr fW).tr k5).tr (f96.tr y6)⟩
      · rw [k2 φ]
        exact g4 (PN A b (oR A r) u φ)
      · obtain ⟨a1, a2, a3, a4⟩ := k3 hu _ _ _ _ (lA _ _ _ _ (g5 hu))
        rw [g4 (prN A b (oR A r))] at a1
        rw [g4 (maN A b (oR A r))] at a2
        rw [g4 (fun _ => DN A b)] at a3
        rw [g4 (iaN A b (oR A r))] at a4
        exact ⟨by rw [y4, l96]; exact a1, by rw [y4, l96]; exact a2, by rw [y4, l96]; exact a3, by rw [y4, l96]; exact a4⟩
      · rw [y4, l96, k4, l44]
    · have hlt : i < k := by
        have : ¬ k ≤ i := fun x => q2 ((nI_leI (by omega) (by omega)).mpr x)
        omega
      refine M_goOn k1 hW hb hr hU hlt (fun σ3 kk3 ql3 g3' v1 v2 v3 v4 v5 => ?_)
      rintro _ rfl
      refine ⟨k - (i + 1), by omega, i + 1, kk3, ql3, g3', by omega, sc1 i, rfl, v1, fun φ => ?_, fun hu c e d j hm => ?_, by rw [v4, k4], k5.tr v5⟩
      · rw [v2 φ, k2 φ, SM_s]
      · have := v3 hu _ _ _ _ (k3 hu c e d j hm)
        rw [SM_s, SM_s, SM_s, SM_s, ← Nat.add_assoc, ← Nat.add_assoc, ← Nat.add_assoc, ← Nat.add_assoc]
        exact this
