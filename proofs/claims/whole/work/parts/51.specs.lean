/-! What each call answers, and what it makes of the common state. -/
abbrev ix (x : Int32) : Nat := x.toNatClampNeg
/-- a stretch of a row is v -/
def aF (A : Ab) (f lo n : Nat) (v : Int32) : Ab := (fun g j => if g = f ∧ lo ≤ j ∧ j < lo + n then v else A.1 g j, A.2)
theorem aF_0 (A : Ab) (f lo : Nat) (v : Int32) : aF A f lo 0 v = A := by
  unfold aF
  refine Prod.ext (funext fun g => funext fun j => ?_) rfl
  show (if g = f ∧ lo ≤ j ∧ j < lo + 0 then v else A.1 g j) = _
  rw [if_neg (by omega)]
theorem aF_succ (A : Ab) (f lo n : Nat) (v : Int32) : aS (aF A f lo n v) f (lo + n) v = aF A f lo (n + 1) v := by
  unfold aF aS
  refine Prod.ext (funext fun g => funext fun j => ?_) rfl
  show (if g = f ∧ j = lo + n then v else if g = f ∧ lo ≤ j ∧ j < lo + n then v else A.1 g j) = (if g = f ∧ lo ≤ j ∧ j < lo + (n + 1) then v else A.1 g j)
  by_cases h1 : g = f ∧ lo ≤ j ∧ j < lo + n
  · rw [if_pos h1, if_pos (show g = f ∧ lo ≤ j ∧ j < lo + (n + 1) by omega)]
    split <;> rfl
  · by_cases h2 : g = f ∧ j = lo + n
    · rw [if_pos h2, if_pos (show g = f ∧ lo ≤ j ∧ j < lo + (n + 1) by omega)]
    · rw [if_neg h2, if_neg h1, if_neg (show ¬ (g = f ∧ lo ≤ j ∧ j < lo + (n + 1)) by omega)]
/-- what the common state keeps to -/
def WF (A : Ab) : Prop := (∀ b, b < 4 → A.1 4 b = 0 ∨ A.1 4 b = 1) ∧ (∀ j, j < 28 → ∃ w, w ≤ 9 ∧ A.1 5 j = nI w) ∧ (∀ s, s < 4 → A.1 7 s = -1 ∨ ∃ k, k ≤ 25 ∧ A.1 7 s = nI k) ∧ (∀ j, j < 100 → (A.1 8 j).toInt8.toInt32 = A.1 8 j) ∧ (∃ r, r ≤ 12 ∧ A.1 9 0 = nI r) ∧ (∃ k, 1 ≤ k ∧ k ≤ 12 ∧ A.1 17 0 = nI k) ∧ (∃ k, k ≤ 2 ∧ A.1 18 0 = nI k) ∧ (A.1 19 0 = 0 ∨ A.1 19 0 = 1) ∧ (∀ f, (f = 20 ∨ f = 21 ∨ f = 22 ∨ f = 23) → ∃ k, k ≤ 100 ∧ A.1 f 0 = nI k) ∧ (∃ k, k ≤ 6 ∧ A.1 55 0 = nI k) ∧ (∀ j, j < 6 → ∃ d, d ≤ 6 ∧ A.1 56 j = nI d)
def sBook (A : Ab) (x : Int32) : Int32 × Ab := if inr x 0 3 then (if A.1 4 (ix x) = 0 then 0 else 1, aF (aS A 4 (ix x) 1) 5 (7 * ix x) 7 0) else (-1, A)
def sWeigh (A : Ab) (x d w : Int32) : Int32 × Ab := if inr x 0 3 ∧ inr w 0 9 then (if A.1 4 (ix x) = 0 then (-3, fnd A 1) else if inr d 0 6 then (A.1 5 (7 * ix x + ix d), aS A 5 (7 * ix x + ix d) w) else (-3, fnd A 2)) else (-1, A)
def sClose (A : Ab) (x : Int32) : Int32 × Ab := if inr x 0 3 then (if A.1 4 (ix x) = 0 then (-3, fnd A 1) else (1, aS A 4 (ix x) 0)) else (-1, A)
def sSheet (A : Ab) (x n : Int32) : Int32 × Ab := if inr x 0 3 then (if n ≤ 25 then (if 0 ≤ n then (n, aF (aS A 7 (ix x) n) 8 (25 * ix x) 25 0) else (-3, fnd A 5)) else (-1, A)) else (-1, A)
def sLay (A : Ab) (x i v : Int32) : Int32 × Ab := if inr x 0 3 then (if 0 ≤ A.1 7 (ix x) then (if inr i 0 (A.1 7 (ix x) - 1) then (1000 + A.1 8 (25 * ix x + ix i), aS A 8 (25 * ix x + ix i) v.toInt8.toInt32) else (-3, fnd A 2)) else (-3, fnd A 1)) else (-1, A)
def sTear (A : Ab) (x : Int32) : Int32 × Ab := if inr x 0 3 then (if 0 ≤ A.1 7 (ix x) then (1, aS A 7 (ix x) (-1)) else (-3, fnd A 1)) else (-1, A)
def sShop (A : Ab) (x l o : Int32) : Int32 × Ab := if inr x 1 12 ∧ inr l 0 2 then (1, aS (aS (aS A 17 0 x) 18 0 l) 19 0 o) else (-1, A)
def sCosts (A : Ab) (k c h b : Int32) : Int32 × Ab := if inr k 0 100 ∧ inr c 0 100 ∧ inr h 0 100 ∧ inr b 0 100 then (1, aS (aS (aS (aS A 20 0 k) 21 0 c) 22 0 h) 23 0 b) else (-1, A)
def sPair (A : Ab) (x : Int32) : Int32 := if x = 0 then A.1 48 0 else if x = 1 then A.1 49 0 else -1
def sSee (A : Ab) (x : Int32) : Int32 × Ab := if inr x 0 6 then (if A.1 55 0 = 6 then (-2, A) else (A.1 55 0 + 1, aS (aS A 56 (ix (A.1 55 0)) x) 55 0 (A.1 55 0 + 1))) else (-1, A)
def sFindings (A : Ab) (x : Int32) : Int32 := if inr x 1 5 then A.1 1 (ix x) else -1
theorem ix7 (b k : Nat) : (7 : Int32) * nI b + nI k = nI (7 * b + k) := by
  rw [show (7 : Int32) = nI 7 by decide, pk_mul, nI_add]
theorem ix25 (b k : Nat) : (25 : Int32) * nI b + nI k = nI (25 * b + k) := by
  rw [show (25 : Int32) = nI 25 by decide, pk_mul, nI_add]
theorem i3 {x : Int32} (h : inr x 0 3) : ∃ b : Nat, b ≤ 3 ∧ x = nI b := inr_ix (n := 3) h (by omega)
theorem i6 {x : Int32} (h : inr x 0 6) : ∃ b : Nat, b ≤ 6 ∧ x = nI b := inr_ix (n := 6) h (by omega)
theorem ixn {b : Nat} (h : b < 2 ^ 31) : ix (nI b) = b := nI_clamp h
section MM
variable {z n : Nat} {σ : Me} {A : Ab}
/-- the reference meets a finding: with the frame -/
theorem M_fnd (h : RM (z + 36) n σ A) {k : Nat} (hk : k < 6) {Q : Int32 → Me → Prop} (hQ : ∀ σ', RM (z + 36) n σ' (fnd A k) → frX z σ σ' → Q (-3) σ') : pX12_meets σ (z + 36) (nI k) Q :=
  M_meets h hk (fun σ' h1 h2 h3 => hQ σ' h1 ⟨h3, fun q hq => h2 q (by omega) (by omega)⟩)
theorem M_finding (h : RM (z + 36) n σ A) {Q : Int32 → Me → Prop} (hQ : Q (A.1 0 0) σ) : pX12_finding σ (z + 36) Q := ⟨h.1.1, by rw [h.sc 0 (by decide)]; exact hQ⟩
theorem M_upper (h : RM (z + 36) n σ A) {Q : Int64 → Me → Prop} (hQ : Q A.2.1 σ) : pX12_upper σ (z + 36) Q := ⟨h.1.1, by rw [h.2.2.2.1]; exact hQ⟩
theorem M_lower (h : RM (z + 36) n σ A) {Q : Int64 → Me → Prop} (hQ : Q A.2.2 σ) : pX12_lower σ (z + 36) Q := ⟨h.1.1, by rw [h.2.2.2.2.1]; exact hQ⟩
theorem M_forget (h : RM (z + 36) n σ A) {Q : Int32 → Me → Prop} (hQ : ∀ σ', RM (z + 36) n σ' (aS A 55 0 0) → frX z σ σ' → Q (A.1 55 0) σ') : pX12_forget σ (z + 36) Q := by
  refine ⟨h.1.1, ?_⟩
  rintro _ rfl _ rfl
  rw [h.sc 55 (by decide)]
  exact hQ _ (h.setS (by decide) 0) (.sI (by omega) (by omega))
theorem M_findings (h : RM (z + 36) n σ A) {x : Int32} {Q : Int32 → Me → Prop} (hQ : Q (sFindings A x) σ) : pX12_findings σ (z + 36) x Q := by
  unfold sFindings at hQ
  refine e_in (fun hx => ⟨fun q => absurd q (by decide), fun _ => ?_⟩) (fun hx => ⟨fun _ => ?_, fun q => absurd rfl q⟩)
  · rw [if_pos hx] at hQ
    have h0 : (0 : Int32) ≤ x := by
      have a1 := Int32.le_iff_toInt_le.mp hx.1
      have e1 : (1 : Int32).toInt = 1 := by decide
      have e0 : (0 : Int32).toInt = 0 := by decide
      exact Int32.le_iff_toInt_le.mpr (by omega)
    obtain ⟨b, hb, rfl⟩ := inr_ix (x := x) (n := 5) ⟨h0, hx.2⟩ (by omega)
    have r := h.1.row (1, 1, 20, 6) (by decide)
    have hin : vp_in (nI b) 6 := vp_in_nI (by omega) (by omega)
    refine ⟨h.1.1, _, r.1, r.2.1, by rw [r.2.2]; exact hin, ?_⟩
    rw [nI_clamp (by omega), h.ar (1, 1, 6) (by decide) (show b < 6 by omega)]
    rw [ixn (by omega)] at hQ
    exact hQ
  · rw [if_neg hx] at hQ
    exact hQ
theorem M_pairTold (h : RM (z + 36) n σ A) {x : Int32} {Q : Int32 → Me → Prop} (hQ : Q (sPair A x) σ) : pX12_pairTold σ (z + 36) x Q := by
  refine ⟨h.1.1, ?_⟩
  rintro _ rfl
  rw [h.sc 48 (by decide), h.sc 49 (by decide)]
  exact hQ
theorem M_costs (h : RM (z + 36) n σ A) {k c d b : Int32} {Q : Int32 → Me → Prop} (hQ : ∀ σ', RM (z + 36) n σ' (sCosts A k c d b).2 → frX z σ σ' → Q (sCosts A k c d b).1 σ') : pX12_costs σ (z + 36) k c d b Q := by
  unfold sCosts at hQ
  refine e_in (fun h1 => ⟨fun q => absurd q (by decide), fun _ => ?_⟩) (fun h1 => ⟨fun _ => by rw [if_neg (fun q => h1 q.1)] at hQ; exact hQ _ h .rf, fun q => absurd rfl q⟩)
  refine e_in (fun h2 => ⟨fun q => absurd q (by decide), fun _ => ?_⟩) (fun h2 => ⟨fun _ => by rw [if_neg (fun q => h2 q.2.1)] at hQ; exact hQ _ h .rf, fun q => absurd rfl q⟩)
  refine e_in (fun h3 => ⟨fun q => absurd q (by decide), fun _ => ?_⟩) (fun h3 => ⟨fun _ => by rw [if_neg (fun q => h3 q.2.2.1)] at hQ; exact hQ _ h .rf, fun q => absurd rfl q⟩)
  refine e_in (fun h4 => ⟨fun q => absurd q (by decide), fun _ => ?_⟩) (fun h4 => ⟨fun _ => by rw [if_neg (fun q => h4 q.2.2.2)] at hQ; exact hQ _ h .rf, fun q => absurd rfl q⟩)
  rw [if_pos ⟨h1, h2, h3, h4⟩] at hQ
  refine ⟨h.1.1, ?_⟩
  rintro _ rfl _ rfl _ rfl _ rfl
  exact hQ _ ((((h.setS (by decide) k).setS (by decide) c).setS (by decide) d).setS (by decide) b) (((frX.sI (by omega) (by omega)).tr (.sI (by omega) (by omega))).tr ((frX.sI (by omega) (by omega)).tr (.sI (by omega) (by omega))))
theorem M_shop (h : RM (z + 36) n σ A) {x l o : Int32} (ho : o = 0 ∨ o = 1) {Q : Int32 → Me → Prop} (hQ : ∀ σ', RM (z + 36) n σ' (sShop A x l o).2 → frX z σ σ' → Q (sShop A x l o).1 σ') : pX12_shop σ (z + 36) x l o Q := by
  unfold sShop at hQ
  refine e_in (fun h1 => ⟨fun q => absurd q (by decide), fun _ => ?_⟩) (fun h1 => ⟨fun _ => by rw [if_neg (fun q => h1 q.1)] at hQ; exact hQ _ h .rf, fun q => absurd rfl q⟩)
  refine e_in (fun h2 => ⟨fun q => absurd q (by decide), fun _ => ?_⟩) (fun h2 => ⟨fun _ => by rw [if_neg (fun q => h2 q.2)] at hQ; exact hQ _ h .rf, fun q => absurd rfl q⟩)
  rw [if_pos ⟨h1, h2⟩] at hQ
  refine ⟨h.1.1, ?_⟩
  rintro _ rfl _ rfl
  refine ⟨ho, ?_⟩
  rintro _ rfl
  exact hQ _ (((h.setS (by decide) x).setS (by decide) l).setS (by decide) o) (((frX.sI (by omega) (by omega)).tr (.sI (by omega) (by omega))).tr (.sI (by omega) (by omega)))
theorem M_tear (h : RM (z + 36) n σ A) {x : Int32} {Q : Int32 → Me → Prop} (hQ : ∀ σ', RM (z + 36) n σ' (sTear A x).2 → frX z σ σ' → Q (sTear A x).1 σ') : pX12_tear σ (z + 36) x Q := by
  unfold sTear at hQ
  refine e_isPlace (fun hx => ⟨fun q => absurd q (by decide), fun _ => ?_⟩) (fun hx => ⟨fun _ => by rw [if_neg hx] at hQ; exact hQ _ h .rf, fun q => absurd rfl q⟩)
  rw [if_pos hx] at hQ
  obtain ⟨b, hb, rfl⟩ := i3 hx
  have r := h.1.row (7, 5, 20, 4) (by decide)
  have hin : vp_in (nI b) 4 := vp_in_nI (by omega) (by omega)
  have e := h.ar (7, 5, 4) (by decide) (show b < 4 by omega)
  have eb : ix (nI b) = b := ixn (by omega)
  rw [eb] at hQ
  refine ⟨h.1.1, _, r.1, r.2.1, by rw [r.2.2]; exact hin, fun h2 => ?_, fun h2 => ?_⟩
  · rw [nI_clamp (by omega), e] at h2
    rw [if_pos h2] at hQ
    refine ⟨by rw [r.2.2]; exact hin, ?_⟩
    rintro _ rfl
    rw [nI_clamp (by omega)]
    exact hQ _ (h.setA (q := (7, 5, 4)) (by decide) b (-1)) (.sI (by omega) (by show z + 36 + 5 < _; omega))
  · rw [nI_clamp (by omega), e] at h2
    rw [if_neg h2] at hQ
    exact M_fnd h (k := 1) (by omega) hQ
theorem M_close (h : RM (z + 36) n σ A) {x : Int32} {Q : Int32 → Me → Prop} (hQ : ∀ σ', RM (z + 36) n σ' (sClose A x).2 → frX z σ σ' → Q (sClose A x).1 σ') : pX12_close σ (z + 36) x Q := by
  unfold sClose at hQ
  refine e_isPlace (fun hx => ⟨fun q => absurd q (by decide), fun _ => ?_⟩) (fun hx => ⟨fun _ => by rw [if_neg hx] at hQ; exact hQ _ h .rf, fun q => absurd rfl q⟩)
  rw [if_pos hx] at hQ
  obtain ⟨b, hb, rfl⟩ := i3 hx
  have r := h.1.row (4, 2, 22, 4) (by decide)
  have hin : vp_in (nI b) 4 := vp_in_nI (by omega) (by omega)
  have e := h.ar (4, 2, 4) (by decide) (show b < 4 by omega)
  have eb : ix (nI b) = b := ixn (by omega)
  rw [eb] at hQ
  refine ⟨h.1.1, _, r.1, r.2.1, by rw [r.2.2]; exact hin, fun h2 => ?_, fun h2 => ?_⟩
  · rw [nI_clamp (by omega), e] at h2
    rw [if_pos h2] at hQ
    exact M_fnd h (k := 1) (by omega) hQ
  · rw [nI_clamp (by omega), e] at h2
    rw [if_neg h2] at hQ
    refine ⟨by rw [r.2.2]; exact hin, ?_⟩
    rintro _ rfl
    rw [nI_clamp (by omega)]
    exact hQ _ (h.setA (q := (4, 2, 4)) (by decide) b 0) (.sI (by omega) (by show z + 36 + 2 < _; omega))
theorem M_weigh (h : RM (z + 36) n σ A) {x d w : Int32} {Q : Int32 → Me → Prop} (hQ : ∀ σ', RM (z + 36) n σ' (sWeigh A x d w).2 → frX z σ σ' → Q (sWeigh A x d w).1 σ') : pX12_weigh σ (z + 36) x d w Q := by
  unfold sWeigh at hQ
  refine e_isPlace (fun hx => ⟨fun q => absurd q (by decide), fun _ => ?_⟩) (fun hx => ⟨fun _ => by rw [if_neg (fun q => hx q.1)] at hQ; exact hQ _ h .rf, fun q => absurd rfl q⟩)
  refine e_in (fun hw => ⟨fun q => absurd q (by decide), fun _ => ?_⟩) (fun hw => ⟨fun _ => by rw [if_neg (fun q => hw q.2)] at hQ; exact hQ _ h .rf, fun q => absurd rfl q⟩)
  rw [if_pos ⟨hx, hw⟩] at hQ
  obtain ⟨b, hb, rfl⟩ := i3 hx
  have r := h.1.row (4, 2, 22, 4) (by decide)
  have r5 := h.1.row (5, 3, 20, 28) (by decide)
  have hin : vp_in (nI b) 4 := vp_in_nI (by omega) (by omega)
  have e := h.ar (4, 2, 4) (by decide) (show b < 4 by omega)
  have eb : ix (nI b) = b := ixn (by omega)
  rw [eb] at hQ
  refine ⟨h.1.1, _, r.1, r.2.1, by rw [r.2.2]; exact hin, fun h2 => ?_, fun h2 => ?_⟩
  · rw [nI_clamp (by omega), e] at h2
    rw [if_pos h2] at hQ
    exact M_fnd h (k := 1) (by omega) hQ
  · rw [nI_clamp (by omega), e] at h2
    rw [if_neg h2] at hQ
    refine e_in (fun hd => ⟨fun q => absurd q (by decide), fun _ => ?_⟩) (fun hd => ⟨fun _ => ⟨h.1.1, by rw [if_neg hd] at hQ; exact M_fnd h (k := 2) (by omega) hQ⟩, fun q => absurd rfl q⟩)
    rw [if_pos hd] at hQ
    obtain ⟨d, hd6, rfl⟩ := i6 hd
    rw [ixn (show d < 2 ^ 31 by omega)] at hQ
    have hin5 : vp_in (nI (7 * b + d)) 28 := vp_in_nI (by omega) (by omega)
    rw [ix7]
    refine ⟨h.1.1, _, r5.1, r5.2.1, by rw [r5.2.2]; exact hin5, ?_⟩
    rintro _ rfl
    refine ⟨by rw [r5.2.2]; exact hin5, ?_⟩
    rintro _ rfl
    rw [nI_clamp (by omega), h.ar (5, 3, 28) (by decide) (show 7 * b + d < 28 by omega)]
    exact hQ _ (h.setA (q := (5, 3, 28)) (by decide) (7 * b + d) w) (.sI (by omega) (by show z + 36 + 3 < _; omega))
end MM
