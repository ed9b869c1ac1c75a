theorem rf1 : ∀ b, b < 4 → (1, b, 15 + 2 * b) ∈ rfX := by decide
theorem rf15 : ∀ b, b < 4 → (15 + 2 * b, 1, 16 + 2 * b) ∈ rfX := by decide
theorem rf2 : ∀ s, s < 4 → (2, s, 3 + s) ∈ rfX := by decide
theorem tg15 : ∀ b, b < 4 → (15 + 2 * b, 1, 0) ∈ tgX := by decide
theorem tg16 : ∀ b, b < 4 → (16 + 2 * b, 20, 7) ∈ tgX := by decide
theorem tg3 : ∀ s, s < 4 → (3 + s, 23, 25) ∈ tgX := by decide
theorem aS_aF (A : Ab) {f g : Nat} (hfg : f ≠ g) (j lo n : Nat) (u v : Int32) : aS (aF A g lo n v) f j u = aF (aS A f j u) g lo n v := by
  unfold aF aS
  refine Prod.ext (funext fun a => funext fun i => ?_) rfl
  show (if a = f ∧ i = j then u else if a = g ∧ lo ≤ i ∧ i < lo + n then v else A.1 a i) = (if a = g ∧ lo ≤ i ∧ i < lo + n then v else if a = f ∧ i = j then u else A.1 a i)
  by_cases h1 : a = f ∧ i = j
  · rw [if_pos h1, if_neg (fun q => hfg (h1.1.symm.trans q.1)), if_pos h1]
  · rw [if_neg h1, if_neg h1]
theorem aS_ne {A : Ab} {f j g i : Nat} {v : Int32} (h : g ≠ f) : (aS A f j v).1 g i = A.1 g i := up2_ne (f := A.1) h
theorem aS_nj {A : Ab} {f j g i : Nat} {v : Int32} (h : i ≠ j) : (aS A f j v).1 g i = A.1 g i := up2_nk (f := A.1) h
theorem aS_eq {A : Ab} {f j : Nat} {v : Int32} : (aS A f j v).1 f j = v := up2_eq (f := A.1)
section XX
variable {z : Nat} {σ : Me} {A : Ab}
theorem X_tag (h : RX z σ A) : gT σ z = 11 := (h.1.tg (0, 11, 0) (by decide)).1
theorem X_fnd (h : RX z σ A) {k : Nat} (h1 : 1 ≤ k) (h5 : k ≤ 5) {Q : Int32 → Me → Prop} (hQ : ∀ σ', RX z σ' (fnd A k) → frM z σ σ' → Q (-3) σ') : pX11_refuse σ z (nI k) Q := by
  refine ⟨X_tag h, ?_⟩
  rintro _ rfl
  have hs := h.set (q := (0, 0, 0, 16)) (by decide) (by decide) (nI k)
  have hin : inr (nI k) 1 5 := ⟨nI_le (a := 1) h1 (by omega), nI_le (b := 5) h5 (by omega)⟩
  refine e_within (fun _ => ⟨fun q => absurd q (by decide), fun _ => ?_⟩) (fun q => absurd hin q)
  have t : gT (sI σ z 16 (nI k)) (z + 14) = 20 ∧ gN (sI σ z 16 (nI k)) (z + 14) = 6 := hs.1.tg (14, 20, 6) (by decide)
  have r : gP (sI σ z 16 (nI k)) z 17 = some (z + 14) := hs.1.rf (0, 17, 14) (by decide)
  have hv : vp_in (nI k) 6 := vp_in_nI (by omega) (by omega)
  refine ⟨X_tag hs, _, r, t.1, by rw [t.2]; exact hv, by rw [t.2]; exact hv, ?_⟩
  rintro _ rfl
  have e := hs.ce (1, k, 14, k) (ce1 k (by omega))
  have e2 : (aS A 0 0 (nI k)).1 1 k = A.1 1 k := aS_ne (by decide)
  rw [nI_clamp (by omega)]
  have e3 : gI (sI σ z 16 (nI k)) (z + 14) k = A.1 1 k := e.trans e2
  rw [e3]
  exact hQ _ (hs.set (ce1 k (by omega)) (by show (1 : Nat) ≠ 9; decide) (A.1 1 k + 1)) ((frM.sI (by omega)).tr (.sI (by show z + 14 < _ ∨ _; omega)))
theorem X_finding (h : RX z σ A) {Q : Int32 → Me → Prop} (hQ : Q (A.1 0 0) σ) : pX11_finding σ z Q := ⟨X_tag h, by have e := h.ce (0, 0, 0, 16) (by decide); rw [show gI σ z 16 = A.1 0 0 from e]; exact hQ⟩
theorem X_upper (h : RX z σ A) {Q : Int64 → Me → Prop} (hQ : Q A.2.1 σ) : pX11_upper σ z Q := ⟨X_tag h, by rw [h.2.2.1.1]; exact hQ⟩
theorem X_lower (h : RX z σ A) {Q : Int64 → Me → Prop} (hQ : Q A.2.2 σ) : pX11_lower σ z Q := ⟨X_tag h, by rw [h.2.2.1.2]; exact hQ⟩
theorem X_forget (h : RX z σ A) {Q : Int32 → Me → Prop} (hQ : ∀ σ', RX z σ' (aS A 55 0 0) → frM z σ σ' → Q (A.1 55 0) σ') : pX11_forget σ z Q := by
  refine ⟨X_tag h, ?_⟩
  rintro _ rfl _ rfl
  have e := h.ce (55, 0, 0, 13) (by decide)
  rw [show gI σ z 13 = A.1 55 0 from e]
  exact hQ _ (h.set (q := (55, 0, 0, 13)) (by decide) (by decide) 0) (.sI (by omega))
theorem X_findings (h : RX z σ A) {x : Int32} {Q : Int32 → Me → Prop} (hQ : Q (sFindings A x) σ) : pX11_findings σ z x Q := by
  unfold sFindings at hQ
  refine e_within (fun hx => ⟨fun q => absurd q (by decide), fun _ => ?_⟩) (fun hx => ⟨fun _ => by rw [if_neg hx] at hQ; exact hQ, fun q => absurd rfl q⟩)
  rw [if_pos hx] at hQ
  have h0 : (0 : Int32) ≤ x := by
    have a1 := Int32.le_iff_toInt_le.mp hx.1
    have e1 : (1 : Int32).toInt = 1 := by decide
    have e0 : (0 : Int32).toInt = 0 := by decide
    exact Int32.le_iff_toInt_le.mpr (by omega)
  obtain ⟨b, hb, rfl⟩ := inr_ix (x := x) (n := 5) ⟨h0, hx.2⟩ (by omega)
  have t := h.1.tg (14, 20, 6) (by decide)
  have hin : vp_in (nI b) 6 := vp_in_nI (by omega) (by omega)
  have e := h.ce (1, b, 14, b) (ce1 b (by omega))
  refine ⟨X_tag h, _, h.1.rf (0, 17, 14) (by decide), t.1, by rw [t.2]; exact hin, ?_⟩
  rw [ixn (by omega)] at hQ
  rw [nI_clamp (by omega), show gI σ (z + 14) b = A.1 1 b from e]
  exact hQ
theorem X_pairTold (h : RX z σ A) {x : Int32} {Q : Int32 → Me → Prop} (hQ : Q (sPair A x) σ) : pX11_pairTold σ z x Q := by
  unfold sPair at hQ
  refine e_within (fun hx => ⟨fun q => absurd q (by decide), fun _ => ?_⟩) (fun hx => ⟨fun _ => ?_, fun q => absurd rfl q⟩)
  · obtain ⟨b, hb, rfl⟩ := inr_ix (x := x) (n := 1) hx (by omega)
    have hb2 : b = 0 ∨ b = 1 := by omega
    refine ⟨X_tag h, fun h9 => ?_, fun h9 => ?_⟩
    · rcases h.2.2.2.1 with ⟨-, a2, a3⟩ | ⟨a1, -, -⟩
      · rcases hb2 with rfl | rfl
        · rw [if_pos (by decide), a2] at hQ; exact hQ
        · rw [if_neg (by decide), if_pos (by decide), a3] at hQ; exact hQ
      · rw [a1] at h9; exact absurd h9 (by decide)
    · rintro _ rfl
      rcases h.2.2.2.1 with ⟨a1, -, -⟩ | ⟨-, a2, a3⟩
      · exact absurd a1 h9
      · rw [a2, a3]
        rcases hb2 with rfl | rfl
        · rw [if_pos (by decide)] at hQ ⊢; exact hQ
        · rw [if_neg (by decide), if_pos (by decide)] at hQ; rw [if_neg (by decide)]; exact hQ
  · rw [if_neg (fun q => hx (by rw [q]; exact ⟨by decide, by decide⟩)), if_neg (fun q => hx (by rw [q]; exact ⟨by decide, by decide⟩))] at hQ
    exact hQ
theorem X_costs (h : RX z σ A) {k c d b : Int32} {Q : Int32 → Me → Prop} (hQ : ∀ σ', RX z σ' (sCosts A k c d b).2 → frM z σ σ' → Q (sCosts A k c d b).1 σ') : pX11_costs σ z k c d b Q := by
  unfold sCosts at hQ
  refine e_isPrice (fun h1 => ⟨fun q => absurd q (by decide), fun _ => ?_⟩) (fun h1 => ⟨fun _ => by rw [if_neg (fun q => h1 q.1)] at hQ; exact hQ _ h .rf, fun q => absurd rfl q⟩)
  refine e_isPrice (fun h2 => ⟨fun q => absurd q (by decide), fun _ => ?_⟩) (fun h2 => ⟨fun _ => by rw [if_neg (fun q => h2 q.2.1)] at hQ; exact hQ _ h .rf, fun q => absurd rfl q⟩)
  refine e_isPrice (fun h3 => ⟨fun q => absurd q (by decide), fun _ => ?_⟩) (fun h3 => ⟨fun _ => by rw [if_neg (fun q => h3 q.2.2.1)] at hQ; exact hQ _ h .rf, fun q => absurd rfl q⟩)
  refine e_isPrice (fun h4 => ⟨fun q => absurd q (by decide), fun _ => ?_⟩) (fun h4 => ⟨fun _ => by rw [if_neg (fun q => h4 q.2.2.2)] at hQ; exact hQ _ h .rf, fun q => absurd rfl q⟩)
  rw [if_pos ⟨h1, h2, h3, h4⟩] at hQ
  have t := h.1.tg (9, 6, 0) (by decide)
  refine ⟨X_tag h, _, h.1.rf (0, 5, 9) (by decide), t.1, ?_⟩
  rintro _ rfl _ rfl _ rfl _ rfl
  exact hQ _ ((((h.set (q := (20, 0, 9, 3)) (by decide) (by decide) k).set (q := (21, 0, 9, 4)) (by decide) (by decide) c).set (q := (22, 0, 9, 5)) (by decide) (by decide) d).set (q := (23, 0, 9, 6)) (by decide) (by decide) b) (((frM.sI (by show z + 9 < _ ∨ _; omega)).tr (.sI (by show z + 9 < _ ∨ _; omega))).tr ((frM.sI (by show z + 9 < _ ∨ _; omega)).tr (.sI (by show z + 9 < _ ∨ _; omega))))
theorem X_shop (h : RX z σ A) {x l o : Int32} (ho : o = 0 ∨ o = 1) {Q : Int32 → Me → Prop} (hQ : ∀ σ', RX z σ' (sShop A x l o).2 → frM z σ σ' → Q (sShop A x l o).1 σ') : pX11_shop σ z x l o Q := by
  unfold sShop at hQ
  refine e_within (fun h1 => ⟨fun q => absurd q (by decide), fun _ => ?_⟩) (fun h1 => ⟨fun _ => by rw [if_neg (fun q => h1 q.1)] at hQ; exact hQ _ h .rf, fun q => absurd rfl q⟩)
  refine e_within (fun h2 => ⟨fun q => absurd q (by decide), fun _ => ?_⟩) (fun h2 => ⟨fun _ => by rw [if_neg (fun q => h2 q.2)] at hQ; exact hQ _ h .rf, fun q => absurd rfl q⟩)
  rw [if_pos ⟨h1, h2⟩] at hQ
  have t := h.1.tg (9, 6, 0) (by decide)
  refine ⟨X_tag h, _, h.1.rf (0, 5, 9) (by decide), t.1, ?_⟩
  rintro _ rfl _ rfl
  refine ⟨ho, ?_⟩
  rintro _ rfl
  exact hQ _ (((h.set (q := (17, 0, 9, 0)) (by decide) (by decide) x).set (q := (18, 0, 9, 1)) (by decide) (by decide) l).set (q := (19, 0, 9, 2)) (by decide) (by decide) o) (((frM.sI (by show z + 9 < _ ∨ _; omega)).tr (.sI (by show z + 9 < _ ∨ _; omega))).tr (.sI (by show z + 9 < _ ∨ _; omega)))
theorem X_see (h : RX z σ A) (hW : ∃ k, k ≤ 6 ∧ A.1 55 0 = nI k) {x : Int32} {Q : Int32 → Me → Prop} (hQ : ∀ σ', RX z σ' (sSee A x).2 → frM z σ σ' → Q (sSee A x).1 σ') : pX11_see σ z x Q := by
  unfold sSee at hQ
  refine e_isDemand (fun hx => ⟨fun q => absurd q (by decide), fun _ => ?_⟩) (fun hx => ⟨fun _ => by rw [if_neg hx] at hQ; exact hQ _ h .rf, fun q => absurd rfl q⟩)
  rw [if_pos hx] at hQ
  have e : gI σ z 13 = A.1 55 0 := h.ce (55, 0, 0, 13) (by decide)
  obtain ⟨k, hk, ek⟩ := hW
  have t := h.1.tg (13, 20, 6) (by decide)
  refine ⟨X_tag h, _, h.1.rf (0, 12, 13) (by decide), t.1, ?_⟩
  rw [t.2, e]
  refine ⟨fun h2 => ?_, fun h2 => ?_⟩
  · rw [ek] at h2
    have hk6 : k < 6 := (nI_ltI (by omega) (by omega)).mp h2
    rw [if_neg (by rw [ek, show (6 : Int32) = nI 6 by decide]; exact fun q => by have := (nI_eq (by omega) (by omega)).mp q; omega)] at hQ
    refine ⟨by rw [ek]; exact vp_in_nI hk6 (by show 6 < _; omega), ?_⟩
    rintro _ rfl _ rfl
    have e2 : gI (sI σ (z + 13) (A.1 55 0).toNatClampNeg x) z 13 = A.1 55 0 := by rw [gI_sI_ne (by omega)]; exact e
    show Q (gI (sI (sI σ (z + 13) _ x) z 13 _) z 13) _
    rw [gI_sI_eq, e2]
    have ek2 : (A.1 55 0).toNatClampNeg = k := by rw [ek]; exact nI_clamp (by omega)
    rw [show ix (A.1 55 0) = k from ek2] at hQ
    rw [ek2]
    exact hQ _ ((h.set (ce56 k hk6) (by show (56 : Nat) ≠ 9; decide) x).set (q := (55, 0, 0, 13)) (by decide) (by decide) _) ((frM.sI (by show z + 13 < _ ∨ _; omega)).tr (.sI (by omega)))
  · have hk6 : k = 6 := by
      rcases Nat.lt_or_ge k 6 with q | q
      · exact absurd (by rw [ek]; exact nI_lt q (by show 6 < _; omega)) h2
      · omega
    rw [if_pos (by rw [ek, hk6]; decide)] at hQ
    exact hQ _ h .rf
theorem X_tear (h : RX z σ A) {x : Int32} {Q : Int32 → Me → Prop} (hQ : ∀ σ', RX z σ' (sTear A x).2 → frM z σ σ' → Q (sTear A x).1 σ') : pX11_tear σ z x Q := by
  unfold sTear at hQ
  refine e_isSheet (fun hx => ⟨fun q => absurd q (by decide), fun _ => ?_⟩) (fun hx => ⟨fun _ => by rw [if_neg hx] at hQ; exact hQ _ h .rf, fun q => absurd rfl q⟩)
  rw [if_pos hx] at hQ
  obtain ⟨b, hb, rfl⟩ := i3 hx
  have t := h.1.tg (7, 20, 4) (by decide)
  have hin : vp_in (nI b) 4 := vp_in_nI (by omega) (by omega)
  have e : gI σ (z + 7) b = A.1 7 b := h.ce (7, b, 7, b) (ce7 b (by omega))
  have eb : ix (nI b) = b := ixn (by omega)
  rw [eb] at hQ
  refine ⟨X_tag h, _, h.1.rf (0, 2, 7) (by decide), t.1, by rw [t.2]; exact hin, fun h2 => ?_, fun h2 => ?_⟩
  · rw [nI_clamp (by omega), e] at h2
    rw [if_pos h2] at hQ
    refine ⟨by rw [t.2]; exact hin, ?_⟩
    rintro _ rfl
    rw [nI_clamp (by omega)]
    exact hQ _ (h.set (ce7 b (by omega)) (by show (7 : Nat) ≠ 9; decide) (-1)) (.sI (by show z + 7 < _ ∨ _; omega))
  · rw [nI_clamp (by omega), e] at h2
    rw [if_neg h2] at hQ
    exact X_fnd h (k := 1) (by omega) (by omega) hQ
theorem X_close (h : RX z σ A) {x : Int32} {Q : Int32 → Me → Prop} (hQ : ∀ σ', RX z σ' (sClose A x).2 → frM z σ σ' → Q (sClose A x).1 σ') : pX11_close σ z x Q := by
  unfold sClose at hQ
  refine e_isBook (fun hx => ⟨fun q => absurd q (by decide), fun _ => ?_⟩) (fun hx => ⟨fun _ => by rw [if_neg hx] at hQ; exact hQ _ h .rf, fun q => absurd rfl q⟩)
  rw [if_pos hx] at hQ
  obtain ⟨b, hb, rfl⟩ := i3 hx
  have t := h.1.tg (1, 24, 4) (by decide)
  have tb := h.1.tg (15 + 2 * b, 1, 0) (tg15 b (by omega))
  have hin : vp_in (nI b) 4 := vp_in_nI (by omega) (by omega)
  have e : gI σ (z + (15 + 2 * b)) 0 = A.1 4 b := h.ce (4, b, 15 + 2 * b, 0) (ce4 b (by omega))
  have eb : ix (nI b) = b := ixn (by omega)
  have rb : gP σ (z + 1) (nI b).toNatClampNeg = some (z + (15 + 2 * b)) := by rw [nI_clamp (by omega)]; exact h.1.rf (1, b, 15 + 2 * b) (rf1 b (by omega))
  rw [eb] at hQ
  refine ⟨X_tag h, _, h.1.rf (0, 0, 1) (by decide), t.1, by rw [t.2]; exact hin, _, rb, tb.1, fun h2 => ?_, fun h2 => ?_⟩
  · rw [e] at h2
    rw [if_pos h2] at hQ
    exact X_fnd h (k := 1) (by omega) (by omega) hQ
  · rw [e] at h2
    rw [if_neg h2] at hQ
    refine ⟨by rw [t.2]; exact hin, _, rb, tb.1, ?_⟩
    rintro _ rfl
    exact hQ _ (h.set (ce4 b (by omega)) (by show (4 : Nat) ≠ 9; decide) 0) (.sI (by show z + (15 + 2 * b) < _ ∨ _; omega))
end XX
