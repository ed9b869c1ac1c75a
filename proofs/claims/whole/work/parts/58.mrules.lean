/-- the rules of the common state: how many ever, which are gone, what each is -/
def WFr (A : Ab) (r : Nat) : Prop :=
  (A.1 10 r = 0 ∧ A.1 11 r = -9 ∧ A.1 12 r = -9 ∧ A.1 13 r = -9 ∧ ∃ k, k ≤ 25 ∧ A.1 14 r = nI k) ∨
  (A.1 10 r = 1 ∧ A.1 11 r = -9 ∧ A.1 13 r = -9 ∧ A.1 14 r = -9 ∧ ∃ k, k ≤ 12 ∧ A.1 12 r = nI k) ∨
  (A.1 10 r = 2 ∧ A.1 13 r = -9 ∧ A.1 14 r = -9 ∧ ∃ k, k ≤ 12 ∧ A.1 12 r = nI k ∧ -12 ≤ (A.1 11 r).toInt ∧ (A.1 11 r).toInt < k) ∨
  (A.1 10 r = 3 ∧ A.1 12 r = -9 ∧ A.1 14 r = -9 ∧ -12 ≤ (A.1 11 r).toInt ∧ (A.1 11 r).toInt ≤ 12 ∧ ∃ k, 1 ≤ k ∧ k ≤ 12 ∧ A.1 13 r = nI k)
def WFu (A : Ab) : Prop := (∃ R, R ≤ 12 ∧ A.1 9 0 = nI R ∧ ∀ r, r < R → WFr A r) ∧ ∀ r, r < 12 → A.1 16 r = 0 ∨ A.1 16 r = 1
abbrev isR (A : Ab) (x : Int32) : Prop := inr x 0 (A.1 9 0 - 1)
theorem isR_nat {A : Ab} {R : Nat} (hR : R ≤ 12) (e : A.1 9 0 = nI R) {x : Int32} (h : isR A x) : ∃ r, r < R ∧ x = nI r := by
  have hx : inr x 0 (nI R - 1) := by rw [← e]; exact h
  rcases Nat.eq_zero_or_pos R with q | q
  · exfalso
    have a1 := Int32.le_iff_toInt_le.mp hx.1
    have a2 := Int32.le_iff_toInt_le.mp hx.2
    rw [q] at a2
    have e1 : (nI 0 - 1).toInt = -1 := by decide
    have e0 : (0 : Int32).toInt = 0 := by decide
    omega
  · have e1 : nI R - 1 = nI (R - 1) := by rw [show R = R - 1 + 1 by omega, nI_pred, Nat.add_sub_cancel]
    rw [e1] at hx
    obtain ⟨j, hj, rfl⟩ := inr_ix hx (by omega)
    exact ⟨j, by omega, rfl⟩
def sDrop (A : Ab) (x : Int32) : Int32 × Ab := if isR A x then (if A.1 16 (ix x) = 0 then (1, aS A 16 (ix x) 1) else (-3, fnd A 1)) else (-1, A)
def toldV (A : Ab) (r : Nat) (w : Int32) : Int32 := if w = 0 then A.1 10 r else if w = 1 then A.1 12 r else if w = 2 then A.1 11 r else if w = 3 then A.1 13 r else A.1 14 r
def sTold (A : Ab) (x w : Int32) : Int32 × Ab := if isR A x ∧ inr w 0 4 then (if A.1 16 (ix x) = 0 then (toldV A (ix x) w, A) else (-3, fnd A 1)) else (-1, A)
def markV (A : Ab) (r : Nat) (x k : Int32) : Int32 × Ab := if k = 0 then (x, A) else if A.1 10 r = k ∨ (k = 1 ∧ A.1 10 r = 2) then ((if k = 1 then A.1 12 r else if k = 2 then A.1 12 r - A.1 11 r else A.1 13 r), A) else (-3, fnd A 3)
def sMark (A : Ab) (x k : Int32) : Int32 × Ab := if isR A x ∧ inr k 0 3 then (if A.1 16 (ix x) = 0 then markV A (ix x) x k else (-3, fnd A 1)) else (-1, A)
def cut12 (v : Int32) : Int32 := if 0 ≤ v then (if v ≤ 12 then v else 12) else 0
def ordV (A : Ab) (r : Nat) (p : Int32) : Int32 := cut12 (if A.1 10 r = 1 then A.1 12 r - p else if A.1 10 r = 2 then (if A.1 11 r < p then 0 else A.1 12 r - p) else if A.1 10 r = 3 then (if A.1 11 r < p then 0 else A.1 13 r) else if inr (p + 12) 0 (A.1 14 r - 1) then A.1 15 (25 * r + ix (p + 12)) else 0)
def sOrder (A : Ab) (x p : Int32) : Int32 × Ab := if isR A x ∧ inr p (-12) 36 then (if A.1 16 (ix x) = 0 then (ordV A (ix x) p, A) else (-3, fnd A 1)) else (-1, A)
section MU
variable {z n : Nat} {σ : Me} {A : Ab}
theorem M_at (h : RM (z + 36) n σ A) (f o l : Nat) {t : Nat} (hq : (f, o, t, l) ∈ rowsM) {r : Nat} (hr : r < l) (hl : l < 2 ^ 31) : gP σ (z + 36) f = some (z + 36 + o) ∧ gT σ (z + 36 + o) = t ∧ vp_in (nI r) (gN σ (z + 36 + o)) := by
  have q := h.1.row _ hq
  exact ⟨q.1, q.2.1, by rw [show gN σ (z + 36 + o) = l from q.2.2]; exact vp_in_nI hr hl⟩
theorem M_need (h : RM (z + 36) n σ A) (hU : WFu A) {g x : Int32} {Q : Int32 → Me → Prop} (hbad : ¬ (isR A x ∧ ¬ g = 0) → Q (-1) σ) (hgone : isR A x ∧ ¬ g = 0 → ¬ A.1 16 (ix x) = 0 → ∀ σ', RM (z + 36) n σ' (fnd A 1) → frX z σ σ' → Q (-3) σ') (hok : isR A x ∧ ¬ g = 0 → A.1 16 (ix x) = 0 → Q 0 σ) : pX12_need σ (z + 36) g x Q := by
  obtain ⟨⟨R, hR, e9, -⟩, -⟩ := hU
  refine ⟨h.1.1, h.1.1, ?_⟩
  rw [h.sc 9 (by decide)]
  refine e_in (fun hx => ⟨Or.inr rfl, fun q => absurd q (by decide), fun _ => ⟨fun hg => hbad (fun q => q.2 hg), fun hg => ?_⟩⟩) (fun hx => ⟨Or.inl rfl, fun _ => hbad (fun q => hx q.1), fun q => absurd rfl q⟩)
  obtain ⟨r, hr, rfl⟩ := isR_nat hR e9 hx
  have hgone := hgone ⟨hx, hg⟩
  have hok := hok ⟨hx, hg⟩
  rw [ixn (show r < 2 ^ 31 by omega)] at hgone hok
  obtain ⟨a1, a2, a3⟩ := M_at h 16 13 12 (t := 22) (by decide) (show r < 12 by omega) (by omega)
  have e := h.ar (16, 13, 12) (by decide) (show r < 12 by omega)
  refine ⟨h.1.1, _, a1, a2, a3, ?_⟩
  rw [nI_clamp (show r < 2 ^ 31 by omega), show gI σ (z + 36 + 13) r = A.1 16 r from e]
  exact ⟨fun q => hok q, fun q => M_fnd h (k := 1) (by omega) (hgone q)⟩
theorem M_drop (h : RM (z + 36) n σ A) (hU : WFu A) {x : Int32} {Q : Int32 → Me → Prop} (hQ : ∀ σ', RM (z + 36) n σ' (sDrop A x).2 → frX z σ σ' → Q (sDrop A x).1 σ') : pX12_drop σ (z + 36) x Q := by
  unfold sDrop at hQ
  refine ⟨h.1.1, M_need h hU (fun hb => ⟨fun q => absurd q (by decide), fun _ => ?_⟩) (fun hb hg σ' h1 f1 => ⟨fun q => absurd q (by decide), fun _ => ?_⟩) (fun hb hg => ⟨fun _ => ?_, fun q => absurd (by decide) q⟩)⟩
  · rw [if_neg (fun q => hb ⟨q, by decide⟩)] at hQ
    exact hQ _ h .rf
  · rw [if_pos hb.1, if_neg hg] at hQ
    exact hQ _ h1 f1
  · rw [if_pos hb.1, if_pos hg] at hQ
    obtain ⟨⟨R, hR, e9, -⟩, -⟩ := hU
    obtain ⟨r, hr, rfl⟩ := isR_nat hR e9 hb.1
    obtain ⟨a1, a2, a3⟩ := M_at h 16 13 12 (t := 22) (by decide) (show r < 12 by omega) (by omega)
    refine ⟨h.1.1, _, a1, a2, a3, ?_⟩
    rintro _ rfl
    rw [ixn (show r < 2 ^ 31 by omega)] at hQ
    rw [nI_clamp (show r < 2 ^ 31 by omega)]
    exact hQ _ (h.setA (q := (16, 13, 12)) (by decide) r 1) (.sI (by omega) (by show z + 36 + 13 < _; omega))
theorem M_toldOf (h : RM (z + 36) n σ A) {r : Nat} (hr : r < 12) {w : Int32} {Q : Int32 → Me → Prop} (hQ : Q (toldV A r w) σ) : pX12_toldOf σ (z + 36) (nI r) w Q := by
  unfold toldV at hQ
  have g : ∀ f o, (f, o, 20, 12) ∈ rowsM → (f, o, 12) ∈ arM → Q (A.1 f r) σ → gT σ (z + 36) = 12 ∧ ∃ b : Nat, gP σ (z + 36) f = some b ∧ gT σ b = 20 ∧ vp_in (nI r) (gN σ b) ∧ Q (gI σ b (nI r).toNatClampNeg) σ := by
    intro f o h1 h2 hq
    obtain ⟨a1, a2, a3⟩ := M_at h f o 12 h1 hr (by omega)
    exact ⟨h.1.1, _, a1, a2, a3, by rw [nI_clamp (by omega), h.ar (f, o, 12) h2 hr]; exact hq⟩
  refine ⟨fun h0 => ?_, fun h0 => ⟨fun h1 => ?_, fun h1 => ⟨fun h2 => ?_, fun h2 => ⟨fun h3 => ?_, fun h3 => ?_⟩⟩⟩⟩
  · rw [if_pos h0] at hQ
    exact g 10 7 (by decide) (by decide) hQ
  · rw [if_neg h0, if_pos h1] at hQ
    exact g 12 9 (by decide) (by decide) hQ
  · rw [if_neg h0, if_neg h1, if_pos h2] at hQ
    exact g 11 8 (by decide) (by decide) hQ
  · rw [if_neg h0, if_neg h1, if_neg h2, if_pos h3] at hQ
    exact g 13 10 (by decide) (by decide) hQ
  · rw [if_neg h0, if_neg h1, if_neg h2, if_neg h3] at hQ
    exact g 14 11 (by decide) (by decide) hQ
theorem M_told (h : RM (z + 36) n σ A) (hU : WFu A) {x w : Int32} {Q : Int32 → Me → Prop} (hQ : ∀ σ', RM (z + 36) n σ' (sTold A x w).2 → frX z σ σ' → Q (sTold A x w).1 σ') : pX12_told σ (z + 36) x w Q := by
  unfold sTold at hQ
  have hU' := hU
  obtain ⟨⟨R, hR, e9, -⟩, -⟩ := hU'
  refine e_in (fun hw => ⟨h.1.1, M_need h hU (fun hb => ⟨fun q => absurd q (by decide), fun _ => ?_⟩) (fun hb hg σ' h1 f1 => ⟨fun q => absurd q (by decide), fun _ => ?_⟩) (fun hb hg => ⟨fun _ => ?_, fun q => absurd (by decide) q⟩)⟩) (fun hw => ⟨h.1.1, M_need h hU (fun hb => ⟨fun q => absurd q (by decide), fun _ => ?_⟩) (fun hb => absurd rfl hb.2) (fun hb => absurd rfl hb.2)⟩)
  · rw [if_neg (fun q => hb ⟨q.1, by decide⟩)] at hQ
    exact hQ _ h .rf
  · rw [if_pos ⟨hb.1, hw⟩, if_neg hg] at hQ
    exact hQ _ h1 f1
  · rw [if_pos ⟨hb.1, hw⟩, if_pos hg] at hQ
    obtain ⟨r, hr, rfl⟩ := isR_nat hR e9 hb.1
    rw [ixn (show r < 2 ^ 31 by omega)] at hQ
    exact ⟨h.1.1, M_toldOf h (by omega) (hQ _ h .rf)⟩
  · rw [if_neg (fun q => hw q.2)] at hQ
    exact hQ _ h .rf
theorem M_mark (h : RM (z + 36) n σ A) (hU : WFu A) {x k : Int32} {Q : Int32 → Me → Prop} (hQ : ∀ σ', RM (z + 36) n σ' (sMark A x k).2 → frX z σ σ' → Q (sMark A x k).1 σ') : pX12_mark σ (z + 36) x k Q := by
  unfold sMark at hQ
  have hU' := hU
  obtain ⟨⟨R, hR, e9, -⟩, -⟩ := hU'
  refine e_in (fun hw => ⟨h.1.1, M_need h hU (fun hb => ⟨fun q => absurd q (by decide), fun _ => ?_⟩) (fun hb hg σ' h1 f1 => ⟨fun q => absurd q (by decide), fun _ => ?_⟩) (fun hb hg => ⟨fun _ => ?_, fun q => absurd (by decide) q⟩)⟩) (fun hw => ⟨h.1.1, M_need h hU (fun hb => ⟨fun q => absurd q (by decide), fun _ => ?_⟩) (fun hb => absurd rfl hb.2) (fun hb => absurd rfl hb.2)⟩)
  · rw [if_neg (fun q => hb ⟨q.1, by decide⟩)] at hQ
    exact hQ _ h .rf
  · rw [if_pos ⟨hb.1, hw⟩, if_neg hg] at hQ
    exact hQ _ h1 f1
  · rw [if_pos ⟨hb.1, hw⟩, if_pos hg] at hQ
    obtain ⟨r, hr, rfl⟩ := isR_nat hR e9 hb.1
    rw [ixn (show r < 2 ^ 31 by omega)] at hQ
    unfold markV at hQ
    have at_ : ∀ f o, (f, o, 20, 12) ∈ rowsM → (f, o, 12) ∈ arM → gP σ (z + 36) f = some (z + 36 + o) ∧ gT σ (z + 36 + o) = 20 ∧ vp_in (nI r) (gN σ (z + 36 + o)) ∧ gI σ (z + 36 + o) (nI r).toNatClampNeg = A.1 f r := by
      intro f o h1 h2
      obtain ⟨a1, a2, a3⟩ := M_at h f o 12 h1 (show r < 12 by omega) (by omega)
      exact ⟨a1, a2, a3, by rw [nI_clamp (by omega)]; exact h.ar (f, o, 12) h2 (show r < 12 by omega)⟩
    obtain ⟨k1, k2, k3, k4⟩ := at_ 10 7 (by decide) (by decide)
    obtain ⟨l1, l2, l3, l4⟩ := at_ 11 8 (by decide) (by decide)
    obtain ⟨t1, t2, t3, t4⟩ := at_ 12 9 (by decide) (by decide)
    obtain ⟨q1, q2, q3, q4⟩ := at_ 13 10 (by decide) (by decide)
    have ans : (A.1 10 r = k ∨ (k = 1 ∧ A.1 10 r = 2)) → ¬ k = 0 → Q (if k = 1 then A.1 12 r else if k = 2 then A.1 12 r - A.1 11 r else A.1 13 r) σ := fun hc h0 => by
      rw [if_neg h0, if_pos hc] at hQ
      exact hQ _ h .rf
    have no : ¬ (A.1 10 r = k ∨ (k = 1 ∧ A.1 10 r = 2)) → ¬ k = 0 → pX12_meets σ (z + 36) (nI 3) (fun r σ' => Q r σ') := fun hc h0 => by
      rw [if_neg h0, if_neg hc] at hQ
      exact M_fnd h (k := 3) (by omega) hQ
    refine ⟨fun h0 => ?_, fun h0 => ⟨h.1.1, _, k1, k2, k3, ?_⟩⟩
    · rw [if_pos h0] at hQ
      exact hQ _ h .rf
    · rw [k4]
      refine ⟨fun hk => ?_, fun hk => ⟨fun h1 => ⟨k3, fun h2 => ?_, fun h2 => ?_⟩, fun h1 => ?_⟩⟩
      · have a := ans (Or.inl hk) h0
        refine ⟨fun h1 => ⟨_, t1, t2, t3, by rw [t4]; rw [if_pos h1] at a; exact a⟩, fun h1 => ⟨fun h2 => ⟨_, t1, t2, t3, _, l1, l2, l3, by rw [t4, l4]; rw [if_neg h1, if_pos h2] at a; exact a⟩, fun h2 => ⟨_, q1, q2, q3, by rw [q4]; rw [if_neg h1, if_neg h2] at a; exact a⟩⟩⟩
      · have a := ans (Or.inr ⟨h1, h2⟩) h0
        refine ⟨fun h1 => ⟨_, t1, t2, t3, by rw [t4]; rw [if_pos h1] at a; exact a⟩, fun h1' => absurd h1 h1'⟩
      · exact no (fun q => q.elim hk (fun q => h2 q.2)) h0
      · exact no (fun q => q.elim hk (fun q => h1 q.1)) h0
  · rw [if_neg (fun q => hw q.2)] at hQ
    exact hQ _ h .rf
theorem M_orders (h : RM (z + 36) n σ A) {r : Nat} (hr : r < 12) (hU : WFr A r) {p : Int32} (hp : inr p (-12) 36) {Q : Int32 → Me → Prop} (hQ : Q (ordV A r p) σ) : pX12_orders σ (z + 36) (nI r) p Q := by
  have at_ : ∀ f o, (f, o, 20, 12) ∈ rowsM → (f, o, 12) ∈ arM → gP σ (z + 36) f = some (z + 36 + o) ∧ gT σ (z + 36 + o) = 20 ∧ vp_in (nI r) (gN σ (z + 36 + o)) ∧ gI σ (z + 36 + o) (nI r).toNatClampNeg = A.1 f r := by
    intro f o h1 h2
    obtain ⟨a1, a2, a3⟩ := M_at h f o 12 h1 hr (by omega)
    exact ⟨a1, a2, a3, by rw [nI_clamp (by omega)]; exact h.ar (f, o, 12) h2 hr⟩
  obtain ⟨k1, k2, k3, k4⟩ := at_ 10 7 (by decide) (by decide)
  obtain ⟨l1, l2, l3, l4⟩ := at_ 11 8 (by decide) (by decide)
  obtain ⟨t1, t2, t3, t4⟩ := at_ 12 9 (by decide) (by decide)
  obtain ⟨q1, q2, q3, q4⟩ := at_ 13 10 (by decide) (by decide)
  obtain ⟨s1, s2, s3, s4⟩ := at_ 14 11 (by decide) (by decide)
  unfold ordV at hQ
  refine ⟨h.1.1, _, k1, k2, k3, ?_⟩
  rw [k4]
  refine ⟨fun hk => ⟨_, t1, t2, t3, ?_⟩, fun hk => ⟨_, l1, l2, l3, ?_⟩, fun hk => ⟨_, l1, l2, l3, ?_⟩, fun n1 n2 n3 => ⟨_, s1, s2, s3, ?_⟩⟩
  · rintro _ rfl _ rfl
    rw [if_pos hk] at hQ
    rw [t4]
    exact hQ
  · rw [l4, if_neg (by rw [hk]; decide), if_pos hk] at *
    refine ⟨fun σ' v => σ' = σ ∧ v = (if A.1 11 r < p then 0 else A.1 12 r - p), ?_, fun hc => ⟨rfl, by rw [if_pos hc]⟩, fun hc => ⟨_, t1, t2, t3, rfl, by rw [t4, if_neg hc]⟩⟩
    rintro _ _ ⟨rfl, rfl⟩ _ rfl
    exact hQ
  · rw [l4, if_neg (by rw [hk]; decide), if_neg (by rw [hk]; decide), if_pos hk] at *
    refine ⟨fun σ' v => σ' = σ ∧ v = (if A.1 11 r < p then 0 else A.1 13 r), ?_, fun hc => ⟨rfl, by rw [if_pos hc]⟩, fun hc => ⟨_, q1, q2, q3, rfl, by rw [q4, if_neg hc]⟩⟩
    rintro _ _ ⟨rfl, rfl⟩ _ rfl
    exact hQ
  · rw [if_neg n1, if_neg n2, if_neg n3] at hQ
    rw [s4]
    obtain ⟨k, hk, ek⟩ : ∃ k, k ≤ 25 ∧ A.1 14 r = nI k := by
      rcases hU with ⟨-, -, -, -, k, hk, ek⟩ | ⟨q, -⟩ | ⟨q, -⟩ | ⟨q, -⟩
      · exact ⟨k, hk, ek⟩
      · exact absurd q n1
      · exact absurd q n2
      · exact absurd q n3
    refine e_in (fun hi => ?_) (fun hi => ?_)
    · rw [if_pos hi] at hQ
      have hk0 : 0 < k := by
        rcases Nat.eq_zero_or_pos k with q | q
        · exfalso
          have a1 := Int32.le_iff_toInt_le.mp hi.1
          have a2 := Int32.le_iff_toInt_le.mp hi.2
          rw [ek, q] at a2
          have e1 : (nI 0 - 1).toInt = -1 := by decide
          have e0 : (0 : Int32).toInt = 0 := by decide
          omega
        · exact q
      have e1 : A.1 14 r - 1 = nI (k - 1) := by rw [ek, show k = k - 1 + 1 by omega, nI_pred, Nat.add_sub_cancel]
      have hi' : inr (p + 12) 0 (nI (k - 1)) := by rw [← e1]; exact hi
      obtain ⟨j, hj, ej⟩ := inr_ix hi' (by omega)
      have e2 : (25 : Int32) * nI r + p + 12 = nI (25 * r + j) := by rw [Int32.add_assoc, ej, ix25]
      obtain ⟨b1, b2, b3⟩ := M_at h 15 12 300 (t := 23) (by decide) (show 25 * r + j < 300 by omega) (by omega)
      refine ⟨fun σ' v => σ' = σ ∧ v = A.1 15 (25 * r + ix (p + 12)), ?_, fun q => absurd q (by decide), fun _ => ⟨h.1.1, _, b1, b2, by rw [e2]; exact b3, rfl, ?_⟩⟩
      · rintro _ _ ⟨rfl, rfl⟩ _ rfl
        exact hQ
      · rw [e2, nI_clamp (by omega), h.ar (15, 12, 300) (by decide) (show 25 * r + j < 300 by omega), ej, ixn (by omega)]
    · rw [if_neg hi] at hQ
      refine ⟨fun σ' v => σ' = σ ∧ v = 0, ?_, fun _ => ⟨rfl, rfl⟩, fun q => absurd rfl q⟩
      rintro _ _ ⟨rfl, rfl⟩ _ rfl
      exact hQ
theorem M_order (h : RM (z + 36) n σ A) (hU : WFu A) {x p : Int32} {Q : Int32 → Me → Prop} (hQ : ∀ σ', RM (z + 36) n σ' (sOrder A x p).2 → frX z σ σ' → Q (sOrder A x p).1 σ') : pX12_order σ (z + 36) x p Q := by
  unfold sOrder at hQ
  have hU' := hU
  obtain ⟨⟨R, hR, e9, hr9⟩, -⟩ := hU'
  refine e_in (fun hw => ⟨h.1.1, M_need h hU (fun hb => ⟨fun q => absurd q (by decide), fun _ => ?_⟩) (fun hb hg σ' h1 f1 => ⟨fun q => absurd q (by decide), fun _ => ?_⟩) (fun hb hg => ⟨fun _ => ?_, fun q => absurd (by decide) q⟩)⟩) (fun hw => ⟨h.1.1, M_need h hU (fun hb => ⟨fun q => absurd q (by decide), fun _ => ?_⟩) (fun hb => absurd rfl hb.2) (fun hb => absurd rfl hb.2)⟩)
  · rw [if_neg (fun q => hb ⟨q.1, by decide⟩)] at hQ
    exact hQ _ h .rf
  · rw [if_pos ⟨hb.1, hw⟩, if_neg hg] at hQ
    exact hQ _ h1 f1
  · rw [if_pos ⟨hb.1, hw⟩, if_pos hg] at hQ
    obtain ⟨r, hr, rfl⟩ := isR_nat hR e9 hb.1
    rw [ixn (show r < 2 ^ 31 by omega)] at hQ
    exact ⟨h.1.1, M_orders h (by omega) (hr9 r hr) hw (hQ _ h .rf)⟩
  · rw [if_neg (fun q => hw q.2)] at hQ
    exact hQ _ h .rf
end MU
