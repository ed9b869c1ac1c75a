/-! Whole numbers below 0; reading while the class's rows for work are in use. -/
def iI (t : Int) : Int32 := Int32.ofInt t
theorem iI_n (n : Nat) : nI n = iI (n : Int) := (Int32.ofInt_eq_ofNat).symm
theorem iI_add (a b : Int) : iI a + iI b = iI (a + b) := (Int32.ofInt_add a b).symm
theorem iI_sub (a b : Int) : iI a - iI b = iI (a - b) := (Int32.ofInt_sub a b).symm
theorem iI_12 : (-12 : Int32) = iI (-12) := by decide
theorem iI_t {a : Int} (h1 : -2147483648 ≤ a) (h2 : a < 2147483648) : (iI a).toInt = a := Int32.toInt_ofInt_of_le (by omega) (by omega)
theorem iI_lt {a b : Int} (h1 : -2147483648 ≤ a) (h2 : a < 2147483648) (h3 : -2147483648 ≤ b) (h4 : b < 2147483648) : iI a < iI b ↔ a < b := by
  rw [Int32.lt_iff_toInt_lt, iI_t h1 h2, iI_t h3 h4]
theorem iI_le {a b : Int} (h1 : -2147483648 ≤ a) (h2 : a < 2147483648) (h3 : -2147483648 ≤ b) (h4 : b < 2147483648) : iI a ≤ iI b ↔ a ≤ b := by
  rw [Int32.le_iff_toInt_le, iI_t h1 h2, iI_t h3 h4]
/-- a number that is told by how far it is above -12 -/
def sh (h : Nat) : Int32 := iI ((h : Int) - 12)
theorem sh_of (h : Nat) : nI h + (-12) = sh h := by rw [iI_n, iI_12, iI_add]; rfl
theorem sh_back (h : Nat) : sh h - (-12) = nI h := by
  unfold sh
  rw [iI_12, iI_sub, iI_n]
  congr 1
  omega
theorem sh_add (a b : Nat) : sh a + nI b = sh (a + b) := by
  unfold sh
  rw [iI_n, iI_add]
  congr 1
  omega
theorem sh_0 : (0 : Int32) = sh 12 := by decide
theorem sh_12 : (-12 : Int32) = sh 0 := by decide
theorem sh_lt {a b : Nat} (ha : a < 2 ^ 30) (hb : b < 2 ^ 30) : sh a < sh b ↔ a < b := by
  unfold sh
  rw [iI_lt (by omega) (by omega) (by omega) (by omega)]
  omega
theorem sh_le {a b : Nat} (ha : a < 2 ^ 30) (hb : b < 2 ^ 30) : sh a ≤ sh b ↔ a ≤ b := by
  unfold sh
  rw [iI_le (by omega) (by omega) (by omega) (by omega)]
  omega
theorem sh_n (n : Nat) : nI n = sh (n + 12) := by
  unfold sh
  rw [iI_n]
  congr 1
  omega
theorem sh_max0 {a : Nat} (ha : a < 2 ^ 30) : (if sh a < 0 then (0 : Int32) else sh a) = nI (a - 12) := by
  rw [sh_0]
  by_cases h : sh a < sh 12
  · rw [if_pos h]
    have := (sh_lt ha (by omega)).mp h
    rw [show a - 12 = 0 by omega]
    decide
  · rw [if_neg h]
    have : ¬ a < 12 := fun q => h ((sh_lt ha (by omega)).mpr q)
    rw [sh_n, show a - 12 + 12 = a by omega]
/-- what of the class's world can be read while it works -/
def RC (z : Nat) (σ : Me) (A : Ab) : Prop := shX z σ ∧ ∀ q ∈ ceX, gI σ (z + q.2.2.1) q.2.2.2 = A.1 q.1 q.2.1
theorem RX.rc {z : Nat} {σ : Me} {A : Ab} (h : RX z σ A) : RC z σ A := ⟨h.1, h.2.1⟩
theorem RC.ce {z : Nat} {σ : Me} {A : Ab} (h : RC z σ A) (q : Nat × Nat × Nat × Nat) (hq : q ∈ ceX) : gI σ (z + q.2.2.1) q.2.2.2 = A.1 q.1 q.2.1 := h.2 q hq
theorem scr_ce {o : Nat} (ho : scr o) : ∀ q ∈ ceX, q.2.2.1 ≠ o := fun q hq e => by
  have b := ce_b q hq
  unfold scr at ho
  omega
theorem RC.sI {z : Nat} {σ : Me} {A : Ab} (h : RC z σ A) {o j : Nat} (ho : scr o) (v : Int32) : RC z (sI σ (z + o) j v) A := by
  refine ⟨h.1, fun q hq => ?_⟩
  have := scr_ce ho q hq
  rw [gI_sI_ne (by omega)]
  exact h.2 q hq
theorem RC.sL {z : Nat} {σ : Me} {A : Ab} (h : RC z σ A) {a j : Nat} (v : Int64) : RC z (sL σ a j v) A := h
theorem RC.sP {z : Nat} {σ : Me} {A : Ab} (h : RC z σ A) {j : Nat} {v : Option Nat} : RC z (sP σ (z + 23) j v) A := by
  have n23 : ∀ q ∈ rfX, q.1 ≠ 23 := by decide
  refine ⟨h.1.same (fun _ _ => rfl) (fun _ _ => rfl) (fun q hq => ?_) (Nat.le_refl _), h.2⟩
  have := n23 q hq
  exact up2_ne (by omega)
/-- only the rows for work have changed -/
def FrS (z : Nat) (σ σ' : Me) : Prop := gz σ' = gz σ ∧ ∀ q, (∀ o, q = z + o → ¬ scr o) → sameC σ σ' q
theorem FrS.rf {z : Nat} {σ : Me} : FrS z σ σ := ⟨rfl, fun _ _ => .rf⟩
theorem FrS.tr {z : Nat} {σ σ' σ'' : Me} (h : FrS z σ σ') (h' : FrS z σ' σ'') : FrS z σ σ'' := ⟨h'.1.trans h.1, fun q hq => (h.2 q hq).tr (h'.2 q hq)⟩
theorem FrS.sI {z : Nat} {σ : Me} {o j : Nat} (ho : scr o) (v : Int32) : FrS z σ (sI σ (z + o) j v) := ⟨rfl, fun q hq => .sI (fun e => hq o e ho)⟩
theorem FrS.sL {z : Nat} {σ : Me} {o j : Nat} (ho : scr o) (v : Int64) : FrS z σ (sL σ (z + o) j v) := ⟨rfl, fun q hq => .sL (fun e => hq o e ho)⟩
theorem FrS.sP {z : Nat} {σ : Me} {o j : Nat} (ho : scr o) (v : Option Nat) : FrS z σ (sP σ (z + o) j v) := ⟨rfl, fun q hq => .sP (fun e => hq o e ho)⟩
theorem FrS.frM {z : Nat} {σ σ' : Me} (h : FrS z σ σ') : frM z σ σ' := fun q h1 h2 => h.2 q (fun o e => by unfold scr; omega)
theorem RX.back {z : Nat} {σ σ' : Me} {A : Ab} (h : RX z σ A) (hf : FrS z σ σ') (hc : RC z σ' A) (hs : spX z σ') (hp : plX z σ') : RX z σ' A :=
  h.scrd (fun q _ hq => hf.2 q hq) (by rw [hf.1]; exact Nat.le_refl _) hc.1 hs hp
section CB
variable {z : Nat} {σ : Me} {A : Ab}
theorem C_book1 (h : RC z σ A) {b : Nat} (hb : b < 4) : gT σ (z + (15 + 2 * b)) = 1 ∧ gP σ (z + (15 + 2 * b)) 1 = some (z + (16 + 2 * b)) ∧ gT σ (z + (16 + 2 * b)) = 20 ∧ gN σ (z + (16 + 2 * b)) = 7 ∧ gP σ (z + 1) b = some (z + (15 + 2 * b)) ∧ gI σ (z + (15 + 2 * b)) 0 = A.1 4 b ∧ ∀ d, d < 7 → gI σ (z + (16 + 2 * b)) d = A.1 5 (7 * b + d) :=
  ⟨(h.1.tg _ (tg15 b hb)).1, h.1.rf _ (rf15 b hb), (h.1.tg _ (tg16 b hb)).1, (h.1.tg _ (tg16 b hb)).2, h.1.rf _ (rf1 b hb), h.ce _ (ce4 b hb), fun d hd => h.ce _ (ce5 b hb d hd)⟩
theorem C_weightOf (h : RC z σ A) {b d : Nat} (hb : b < 4) (hd : d < 7) {Q : Int32 → Me → Prop} (hQ : Q (A.1 5 (7 * b + d)) σ) : pX1_weightOf σ (z + (15 + 2 * b)) (nI d) Q := by
  obtain ⟨c1, c2, c3, c4, c5, c6, c7⟩ := C_book1 h hb
  refine ⟨fun q => absurd q (nI_nlt (b := 0) (a := d) (by omega) (by omega)), fun _ => ⟨c1, _, c2, c3, ?_⟩⟩
  rw [c4]
  refine ⟨fun q => absurd ((nI_leI (by omega) (by omega)).mp q) (by omega), fun _ => ⟨vp_in_nI hd (by omega), ?_⟩⟩
  rw [nI_clamp (by omega), c7 d hd]
  exact hQ
theorem C_all (h : RC z σ A) {b : Nat} (hb : b < 4) {Q : Int32 → Me → Prop} (hQ : Q (sW A b 7) σ) : pX1_weightOfAll σ (z + (15 + 2 * b)) Q := by
  obtain ⟨c1, c2, c3, c4, c5, c6, c7⟩ := C_book1 h hb
  refine ⟨fun k σ' v w => σ' = σ ∧ ∃ j, j ≤ 7 ∧ w = nI j ∧ k = 7 - j ∧ v = sW A b j, ?_, 7, rfl, 0, by omega, rfl, rfl, rfl⟩
  rintro k σ1 v w ⟨es, j, hj, rfl, rfl, rfl⟩
  rw [es]
  refine ⟨c1, _, c2, c3, ?_⟩
  rw [c4]
  refine ⟨fun hc => ?_, fun hc => ⟨?_, ?_⟩⟩
  · have : 7 ≤ j := (nI_leI (by omega) (by omega)).mp hc
    rw [show j = 7 by omega]
    exact hQ
  · have : ¬ 7 ≤ j := fun q => hc ((nI_leI (by omega) (by omega)).mpr q)
    exact vp_in_nI (by omega) (by omega)
  · have : ¬ 7 ≤ j := fun q => hc ((nI_leI (by omega) (by omega)).mpr q)
    rintro _ rfl _ rfl
    rw [nI_clamp (show j < 2 ^ 31 by omega), c7 j (by omega)]
    exact ⟨7 - (j + 1), by omega, rfl, j + 1, by omega, sc1 j, rfl, rfl⟩
theorem C_rowsOf (h : RC z σ A) (hW : WF A) {b : Nat} (hb : b < 4) {k : Nat} (hk : k < 2 ^ 31) {Q : Int64 → Me → Prop} (hQ : Q (lN (WN A b ^ k)) σ) : pX11_rowsOf σ (z + (15 + 2 * b)) (nI k) Q := by
  refine ⟨(C_book1 h hb).1, C_all h hb ?_⟩
  rintro _ rfl
  rw [sW_eq hW hb 7 (by omega), nI_l (by have := WN_le hW hb; unfold WN at this; omega)]
  show ∃ I : Nat → Me → Int64 → Int32 → Prop, (∀ (n12 : Nat) (σ5 : Me) (x4_6 : Int64) (x6_7 : Int32), I n12 σ5 x4_6 x6_7 → (nI k ≤ x6_7 → Q x4_6 σ5) ∧ (¬ nI k ≤ x6_7 → ∀ x4_10 : Int64, x4_10 = x4_6 * lN (WN A b) → _)) ∧ _
  refine ⟨fun m σ' v w => σ' = σ ∧ ∃ j, j ≤ k ∧ w = nI j ∧ m = k - j ∧ v = lN (WN A b ^ j), ?_, k, rfl, 0, by omega, rfl, rfl, rfl⟩
  rintro m σ1 v w ⟨es, j, hj, rfl, rfl, rfl⟩
  rw [es]
  refine ⟨fun hc => ?_, fun hc => ?_⟩
  · have : k ≤ j := (nI_leI hk (by omega)).mp hc
    rw [show k = j by omega] at hQ
    exact hQ
  · have : ¬ k ≤ j := fun q => hc ((nI_leI hk (by omega)).mpr q)
    rintro _ rfl _ rfl
    exact ⟨k - (j + 1), by omega, rfl, j + 1, by omega, sc1 j, rfl, by rw [lN_mul, Nat.pow_succ]⟩
end CB
