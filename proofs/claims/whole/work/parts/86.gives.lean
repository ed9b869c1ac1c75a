/-! What spoils: the reference. -/
/-- who gives: r is still wanted, q is there; e says whose turn it is -/
def gs (e : Nat → Nat) (d : Nat) (p : Nat → Nat) : Nat → Nat × (Nat → Nat)
  | 0 => (d, p)
  | k + 1 => ((gs e d p k).1 - (gs e d p k).2 (e k), fun j => if j = e k then (gs e d p k).2 j - (gs e d p k).1 else (gs e d p k).2 j)
theorem gs_le (e : Nat → Nat) (d : Nat) (p : Nat → Nat) : ∀ k, (gs e d p k).1 ≤ d ∧ ∀ j, (gs e d p k).2 j ≤ p j
  | 0 => ⟨Nat.le_refl _, fun _ => Nat.le_refl _⟩
  | k + 1 => by
    have h := gs_le e d p k
    refine ⟨by show (gs e d p k).1 - _ ≤ d; have := h.1; omega, fun j => ?_⟩
    show (if j = e k then (gs e d p k).2 j - (gs e d p k).1 else (gs e d p k).2 j) ≤ p j
    have := h.2 j
    split <;> omega
def eM (nw : Int32) (k : Nat) : Nat := if nw = 0 then 2 - k else k
def eX (nw : Int32) (ag k : Nat) : Nat := if nw = 0 then ag - 1 - k else k
/-- those behind the age have nothing: they give nothing -/
theorem gs_eq (nw : Int32) {ag d : Nat} (h1 : 1 ≤ ag) (h3 : ag ≤ 3) {p : Nat → Nat} (h0 : ∀ j, ag ≤ j → p j = 0) : ∀ j, j < 3 → (gs (eX nw ag) d p ag).2 j = (gs (eM nw) d p 3).2 j := by
  have e0 : ∀ q : Int32, q = nw → (if q = 0 then 1 else 0) = (if nw = 0 then 1 else 0) := fun q e => by rw [e]
  intro j hj
  have ha : ag = 1 ∨ ag = 2 ∨ ag = 3 := by omega
  have hj3 : j = 0 ∨ j = 1 ∨ j = 2 := by omega
  by_cases c : nw = 0
  · rcases ha with rfl | rfl | rfl
    · have p1 := h0 1 (by omega)
      have p2 := h0 2 (by omega)
      rcases hj3 with rfl | rfl | rfl <;> simp [gs, eX, eM, c, p1, p2]
    · have p2 := h0 2 (by omega)
      rcases hj3 with rfl | rfl | rfl <;> simp [gs, eX, eM, c, p2]
    · rcases hj3 with rfl | rfl | rfl <;> simp [gs, eX, eM, c]
  · rcases ha with rfl | rfl | rfl
    · have p1 := h0 1 (by omega)
      have p2 := h0 2 (by omega)
      rcases hj3 with rfl | rfl | rfl <;> simp [gs, eX, eM, c, p1, p2]
    · have p2 := h0 2 (by omega)
      rcases hj3 with rfl | rfl | rfl <;> simp [gs, eX, eM, c, p2]
    · rcases hj3 with rfl | rfl | rfl <;> simp [gs, eX, eM, c]
/-- only the three counts have changed -/
def FG (m : Nat) (σ σ' : Me) : Prop := gL σ' = gL σ ∧ (∀ q j, (q ≠ m ∨ j < 52 ∨ 54 < j) → gI σ' q j = gI σ q j) ∧ FrW m σ σ'
theorem nI_gv (r : Nat) (q : Nat → Nat) (ek j : Nat) : nI (q j) - (if ek = j then nI (min r (q ek)) else 0) = nI (if j = ek then q j - r else q j) := by
  by_cases c : ek = j
  · subst c
    rw [if_pos rfl, if_pos rfl, nI_sb (by omega), show q ek - min r (q ek) = q ek - r by omega]
  · rw [if_neg c, if_neg (fun y => c y.symm)]
    show nI (q j) - nI 0 = _
    rw [nI_sb (by omega)]
    rfl
theorem M_give {m : Nat} {σ : Me} (ht : gT σ m = 12) {nw : Int32} {d : Nat} {p : Nat → Nat} (hd : d < 100) (hp : ∀ j, p j < 100) (h52 : gI σ m 52 = nI (p 0)) (h53 : gI σ m 53 = nI (p 1)) (h54 : gI σ m 54 = nI (p 2)) {Q : Me → Prop} (hQ : ∀ σ', FG m σ σ' → gI σ' m 52 = nI ((gs (eM nw) d p 3).2 0) → gI σ' m 53 = nI ((gs (eM nw) d p 3).2 1) → gI σ' m 54 = nI ((gs (eM nw) d p 3).2 2) → Q σ') : pX12_give σ m (nI d) nw Q := by
  refine ⟨fun nn σ1 x3 x4 => ∃ k, k ≤ 3 ∧ x4 = nI k ∧ nn = 3 - k ∧ x3 = nI (gs (eM nw) d p k).1 ∧ gI σ1 m 52 = nI ((gs (eM nw) d p k).2 0) ∧ gI σ1 m 53 = nI ((gs (eM nw) d p k).2 1) ∧ gI σ1 m 54 = nI ((gs (eM nw) d p k).2 2) ∧ FG m σ σ1, ?_, 3, 0, by omega, rfl, rfl, rfl, h52, h53, h54, rfl, fun _ _ _ => rfl, .rf⟩
  rintro nn σ1 x3 x4 ⟨k, hk, rfl, rfl, rfl, g2, g3, g4, g5⟩
  refine ⟨fun q => ?_, fun q => ?_⟩
  · have : k = 3 := by
      have := (nI_leI (a := 3) (by omega) (by omega)).mp q
      omega
    subst this
    exact hQ σ1 g5 g2 g3 g4
  · have hk2 : k < 3 := by
      have : ¬ 3 ≤ k := fun x => q ((nI_leI (a := 3) (by omega) (by omega)).mpr x)
      omega
    have le := gs_le (eM nw) d p k
    have hs : ∀ j, (gs (eM nw) d p (k + 1)).2 j = if j = eM nw k then (gs (eM nw) d p k).2 j - (gs (eM nw) d p k).1 else (gs (eM nw) d p k).2 j := fun _ => rfl
    have hs1 : (gs (eM nw) d p (k + 1)).1 = (gs (eM nw) d p k).1 - (gs (eM nw) d p k).2 (eM nw k) := rfl
    have ek3 : eM nw k < 3 := by unfold eM; split <;> omega
    have le2 := le.2 (eM nw k)
    have hpk := hp (eM nw k)
    intro v7 e7
    have e7' : v7 = nI (eM nw k) := by
      rw [e7]
      unfold eM
      by_cases c : nw = 0
      · rw [if_pos c, if_pos c, show (2 : Int32) = nI 2 by decide, nI_sb (by omega)]
      · rw [if_neg c, if_neg c]
    subst e7'
    refine ⟨by rw [g5.2.2.2.1]; exact ht, ?_⟩
    intro v11 e11 v13 e13 x15 e15 v16 e16 σ18 e18 v19 e19 σ21 e21 v22 e22 σ24 e24 x25 e25
    have q0 : ∀ j, j < 3 → (nI (eM nw k) = nI j ↔ eM nw k = j) := fun j hj => nI_eq (by omega) (by omega)
    have a11 : v11 = nI ((gs (eM nw) d p k).2 (eM nw k)) := by
      rw [e11, g2, g3, g4]
      have : eM nw k = 0 ∨ eM nw k = 1 ∨ eM nw k = 2 := by omega
      rcases this with e | e | e
      · rw [e, if_pos (by decide)]
      · rw [e, if_neg (by decide), if_pos (by decide)]
      · rw [e, if_neg (by decide), if_neg (by decide)]
    have a13 : v13 = nI (min (gs (eM nw) d p k).1 ((gs (eM nw) d p k).2 (eM nw k))) := by
      rw [e13, a11]
      by_cases c : (gs (eM nw) d p k).2 (eM nw k) ≤ (gs (eM nw) d p k).1
      · rw [if_pos (nI_le c (by omega)), Nat.min_eq_right c]
      · rw [if_neg (fun q => c ((nI_leI (by omega) (by omega)).mp q)), Nat.min_eq_left (by omega)]
    have a15 : x15 = nI (gs (eM nw) d p (k + 1)).1 := by
      rw [e15, a13, nI_sb (by omega), hs1]
      congr 1
      omega
    have a16 : v16 = if eM nw k = 0 then nI (min (gs (eM nw) d p k).1 ((gs (eM nw) d p k).2 (eM nw k))) else 0 := by
      rw [e16, a13]
      by_cases c : eM nw k = 0
      · rw [if_pos c, if_pos (show nI (eM nw k) = (0 : Int32) from (q0 0 (by omega)).mpr c)]
      · rw [if_neg c, if_neg (show ¬ nI (eM nw k) = (0 : Int32) from fun y => c ((q0 0 (by omega)).mp y))]
    have a19 : v19 = if eM nw k = 1 then nI (min (gs (eM nw) d p k).1 ((gs (eM nw) d p k).2 (eM nw k))) else 0 := by
      rw [e19, a13]
      by_cases c : eM nw k = 1
      · rw [if_pos c, if_pos (show nI (eM nw k) = (1 : Int32) from (q0 1 (by omega)).mpr c)]
      · rw [if_neg c, if_neg (show ¬ nI (eM nw k) = (1 : Int32) from fun y => c ((q0 1 (by omega)).mp y))]
    have a22 : v22 = if eM nw k = 2 then nI (min (gs (eM nw) d p k).1 ((gs (eM nw) d p k).2 (eM nw k))) else 0 := by
      rw [e22, a13]
      by_cases c : eM nw k = 2
      · rw [if_pos c, if_pos (show nI (eM nw k) = (2 : Int32) from (q0 2 (by omega)).mpr c)]
      · rw [if_neg c, if_neg (show ¬ nI (eM nw k) = (2 : Int32) from fun y => c ((q0 2 (by omega)).mp y))]
    have f24 : FG m σ1 σ24 := by
      refine ⟨by rw [e24, gL_sI, e21, gL_sI, e18, gL_sI], fun q j hq => ?_, ?_⟩
      · rw [e24, e21, e18]
        by_cases c : q = m
        · rw [gI_sI_nk (by omega), gI_sI_nk (by omega), gI_sI_nk (by omega)]
        · rw [gI_sI_ne c, gI_sI_ne c, gI_sI_ne c]
      · rw [e24, e21, e18]
        exact ((frW_0 (by omega)).tr (frW_0 (by omega))).tr (frW_0 (by omega))
    refine ⟨3 - (k + 1), by omega, k + 1, by omega, by rw [e25]; exact sc1 k, rfl, a15, ?_, ?_, ?_, f24.1.trans g5.1, fun q j hq => (f24.2.1 q j hq).trans (g5.2.1 q j hq), g5.2.2.tr f24.2.2⟩
    · rw [e24, gI_sI_nk (by decide), e21, gI_sI_nk (by decide), e18, gI_sI_eq, g2, a16, nI_gv, hs]
    · rw [e24, gI_sI_nk (by decide), e21, gI_sI_eq, e18, gI_sI_nk (by decide), g3, a19, nI_gv, hs]
    · rw [e24, gI_sI_eq, e21, gI_sI_nk (by decide), e18, gI_sI_nk (by decide), g4, a22, nI_gv, hs]
def p3 (s a c j : Nat) : Nat := if j = 0 then s - a - c else if j = 1 then a else if j = 2 then c else 0
/-- what is left after a day: by ages -/
def lG (nw : Int32) (s a c d j : Nat) : Nat := (gs (eM nw) d (p3 s a c) 3).2 j
def nG (nw : Int32) (ag s a c d : Nat) : Nat := (if ag ≤ 2 then 0 else lG nw s a c d 1) * 13 + (if ag ≤ 1 then 0 else lG nw s a c d 0)
def PG (A : Ab) (b : Nat) (nw : Int32) (ag s : Nat) (φ : Nat → Nat) (p : Nat) : Nat := sumN (fun d => wN A b d * φ (nG nw ag s (p % 13) (p / 13) d)) 7
def spG (A : Ab) (b : Nat) (nw : Int32) (ag s : Nat) (p : Nat) : Nat := sumN (fun d => wN A b d * lG nw s (p % 13) (p / 13) d (ag - 1)) 7
/-- states of the reference, places of the class -/
def piG (t : Nat) : Nat := 13 * (t % 25) + t / 25
def VG (ag s t : Nat) : Prop := t / 25 + t % 25 ≤ s ∧ (ag ≤ 1 → t / 25 = 0) ∧ (ag ≤ 2 → t % 25 = 0)
theorem lG_le (nw : Int32) {s a c d : Nat} (h : a + c ≤ s) : lG nw s a c d 0 ≤ s - a - c ∧ lG nw s a c d 1 ≤ a ∧ lG nw s a c d 2 ≤ c := by
  have le := (gs_le (eM nw) d (p3 s a c) 3).2
  exact ⟨le 0, le 1, le 2⟩
theorem piG_m {ag s t : Nat} (hs : s ≤ 12) (h : VG ag s t) : piG t % 13 = t / 25 ∧ piG t / 13 = t % 25 ∧ piG t < 481 := by
  have := h.1
  unfold piG
  omega
def tG (nw : Int32) (ag s t d : Nat) : Nat := 25 * (if ag ≤ 1 then 0 else lG nw s (t / 25) (t % 25) d 0) + (if ag ≤ 2 then 0 else lG nw s (t / 25) (t % 25) d 1)
theorem tG_v (nw : Int32) {ag s t : Nat} (hs : s ≤ 12) (h : VG ag s t) (d : Nat) : VG ag s (tG nw ag s t d) ∧ tG nw ag s t d < 17000 ∧ piG (tG nw ag s t d) = nG nw ag s (piG t % 13) (piG t / 13) d := by
  obtain ⟨e1, e2, e3⟩ := piG_m hs h
  rw [e1, e2]
  have l := lG_le nw (d := d) h.1
  have h1 := h.1
  have b1 : (if ag ≤ 1 then 0 else lG nw s (t / 25) (t % 25) d 0) ≤ s - t / 25 - t % 25 := by split <;> omega
  have b2 : (if ag ≤ 2 then 0 else lG nw s (t / 25) (t % 25) d 1) ≤ t / 25 := by split <;> omega
  have d1 : tG nw ag s t d / 25 = (if ag ≤ 1 then 0 else lG nw s (t / 25) (t % 25) d 0) := by unfold tG; omega
  have d2 : tG nw ag s t d % 25 = (if ag ≤ 2 then 0 else lG nw s (t / 25) (t % 25) d 1) := by unfold tG; omega
  refine ⟨⟨by omega, fun c => by rw [d1, if_pos c], fun c => by rw [d2, if_pos c]⟩, by unfold tG; omega, ?_⟩
  unfold piG nG
  rw [d1, d2]
  omega
