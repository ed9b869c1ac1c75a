/-! The reference's walk: its lists. -/
theorem RM.big {m n N : Nat} {σ : Me} {A : Ab} (h : RM m n σ A) (hn : n ≤ N) : RM m N σ A := by
  obtain ⟨h1, h3, h4, h5, h6, t, h7, h8, h9⟩ := h
  exact ⟨h1, h3, h4, h5, h6, t, h7, by have := Nat.mul_le_mul_left 2000 hn; omega, h9⟩
/-- the stamps, the last being T -/
def stT (m T : Nat) (σ : Me) : Prop := gI σ m 38 = nI T ∧ ∀ j, j < 17000 → ∃ u : Nat, gI σ (m + 19) j = nI u ∧ u ≤ T
theorem RM.T {m n : Nat} {σ : Me} {A : Ab} (h : RM m n σ A) : ∃ T, T ≤ 2000 * n ∧ stT m T σ := by
  obtain ⟨h1, h3, h4, h5, h6, t, h7, h8, h9⟩ := h
  exact ⟨t, h8, h7, h9⟩
theorem RM.ofT {m n N T : Nat} {σ : Me} {A : Ab} (h : RM m N σ A) (ht : stT m T σ) (hT : T ≤ 2000 * n) : RM m n σ A := by
  obtain ⟨h1, h3, h4, h5, h6, t, h7, h8, h9⟩ := h
  exact ⟨h1, h3, h4, h5, h6, T, ht.1, hT, ht.2⟩
/-- no cell of the common state, no cell of a shape -/
def FrW (m : Nat) (σ σ' : Me) : Prop := gz σ' = gz σ ∧ gT σ' = gT σ ∧ gN σ' = gN σ ∧ gP σ' = gP σ ∧ (∀ q j, q ≠ m → q ≠ m + 14 → q ≠ m + 16 → q ≠ m + 18 → q ≠ m + 19 → gI σ' q j = gI σ q j) ∧ (∀ j, (j < 24 ∨ 55 ≤ j ∨ j = 48 ∨ j = 49) → gI σ' m j = gI σ m j) ∧ (∀ q j, (q < m ∨ m + 23 ≤ q ∨ (q = m ∧ j < 24)) → gL σ' q j = gL σ q j)
theorem FrW.rf {m : Nat} {σ : Me} : FrW m σ σ := ⟨rfl, rfl, rfl, rfl, fun _ _ _ _ _ _ _ => rfl, fun _ _ => rfl, fun _ _ _ => rfl⟩
theorem FrW.tr {m : Nat} {σ σ' σ'' : Me} (h : FrW m σ σ') (h' : FrW m σ' σ'') : FrW m σ σ'' := ⟨h'.1.trans h.1, h'.2.1.trans h.2.1, h'.2.2.1.trans h.2.2.1, h'.2.2.2.1.trans h.2.2.2.1, fun q j a b c d e => (h'.2.2.2.2.1 q j a b c d e).trans (h.2.2.2.2.1 q j a b c d e), fun j a => (h'.2.2.2.2.2.1 j a).trans (h.2.2.2.2.2.1 j a), fun q j a => (h'.2.2.2.2.2.2 q j a).trans (h.2.2.2.2.2.2 q j a)⟩
theorem frW_I {m : Nat} {σ : Me} {o j : Nat} (ho : o = 14 ∨ o = 16 ∨ o = 18 ∨ o = 19) {v : Int32} : FrW m σ (sI σ (m + o) j v) := ⟨rfl, rfl, rfl, rfl, fun q j a b c d e => gI_sI_ne (by omega), fun j a => gI_sI_ne (by omega), fun _ _ _ => rfl⟩
theorem frW_0 {m : Nat} {σ : Me} {j : Nat} (hj : 24 ≤ j ∧ j < 55 ∧ j ≠ 48 ∧ j ≠ 49) {v : Int32} : FrW m σ (sI σ m j v) := ⟨rfl, rfl, rfl, rfl, fun q j a b c d e => gI_sI_ne a, fun j a => gI_sI_nk (by omega), fun _ _ _ => rfl⟩
theorem frW_L {m : Nat} {σ : Me} {o j : Nat} (ho : o < 23 ∧ (o = 0 → 24 ≤ j)) {v : Int64} : FrW m σ (sL σ (m + o) j v) := ⟨rfl, rfl, rfl, rfl, fun q j a b c d e => rfl, fun j a => rfl, fun q i h => by
  by_cases e : q = m + o
  · rw [gL_sL_nk (by omega)]
  · exact gL_sL_ne e⟩
theorem FrW.frX {z : Nat} {σ σ' : Me} (h : FrW (z + 36) σ σ') : frX z σ σ' := ⟨h.1, fun q hq => ⟨by rw [h.2.1], by rw [h.2.2.1], fun j => h.2.2.2.2.1 q j (by omega) (by omega) (by omega) (by omega) (by omega), fun j => h.2.2.2.2.2.2 q j (by omega), fun j => by rw [h.2.2.2.1]⟩⟩
theorem RM.frW {m N T : Nat} {σ σ' : Me} {A : Ab} (h : RM m N σ A) (hf : FrW m σ σ') (ht : stT m T σ') (hT : T ≤ 2000 * N) : RM m N σ' A := by
  obtain ⟨h1, h3, h4, h5, h6, t, h7, h8, h9⟩ := h
  have b1 : ∀ f ∈ scM, f < 24 ∨ 55 ≤ f ∨ f = 48 ∨ f = 49 := by decide
  have b2 : ∀ q ∈ arM, q.2.1 ≠ 0 ∧ q.2.1 ≠ 14 ∧ q.2.1 ≠ 16 ∧ q.2.1 ≠ 18 ∧ q.2.1 ≠ 19 := by decide
  refine ⟨⟨by rw [hf.2.1]; exact h1.1, fun q hq => by rw [hf.2.1, hf.2.2.1, hf.2.2.2.1]; exact h1.2 q hq⟩, fun f hf' => by rw [hf.2.2.2.2.2.1 f (b1 f hf')]; exact h3 f hf', fun q hq j hj => ?_, by rw [hf.2.2.2.2.2.2 m 2 (by omega)]; exact h5, by rw [hf.2.2.2.2.2.2 m 3 (by omega)]; exact h6, T, ht.1, hT, ht.2⟩
  have b3 := b2 q hq
  rw [hf.2.2.2.2.1 (m + q.2.1) j (by omega) (by omega) (by omega) (by omega) (by omega)]
  exact h4 q hq j hj
def SM (g ql : Nat → Nat) (k : Nat) (φ : Nat → Nat) : Nat := sumN (fun i => g i * φ (ql i)) k
/-- tomorrow's list -/
def MN (m : Nat) (σ : Me) (T : Nat) (V : Nat → Prop) (k : Nat) (ql g : Nat → Nat) : Prop := gI σ m 35 = nI k ∧ (∀ i, i < k → gI σ (m + 16) i = nI (ql i) ∧ gL σ (m + 17) i = lN (g i) ∧ (ql i < 17000 ∧ V (ql i)) ∧ gI σ (m + 18) (ql i) = nI i ∧ gI σ (m + 19) (ql i) = nI T) ∧ (∀ i, i < k → ∀ j, j < k → ql i = ql j → i = j) ∧ ∀ s, s < 17000 → gI σ (m + 19) s = nI T → ∃ i, i < k ∧ ql i = s
/-- today's list -/
def MS (m : Nat) (σ : Me) (V : Nat → Prop) (k : Nat) (pl f : Nat → Nat) : Prop := gI σ m 32 = nI k ∧ k ≤ 17000 ∧ ∀ i, i < k → gI σ (m + 14) i = nI (pl i) ∧ gL σ (m + 15) i = lN (f i) ∧ (pl i < 17000 ∧ V (pl i))
theorem MN.le {m : Nat} {σ : Me} {T k : Nat} {V : Nat → Prop} {ql g : Nat → Nat} (h : MN m σ T V k ql g) : k ≤ 17000 := pigeon 17000 k ql (fun i hi => (h.2.1 i hi).2.2.1.1) h.2.2.1
theorem SM_cg {g g' ql ql' : Nat → Nat} {k : Nat} {φ : Nat → Nat} (h : ∀ i, i < k → g i = g' i ∧ ql i = ql' i) : SM g ql k φ = SM g' ql' k φ := sumN_cg _ (fun i hi => by
  show g i * φ (ql i) = g' i * φ (ql' i)
  rw [(h i hi).1, (h i hi).2])
/-- what put may change -/
def FrP (m : Nat) (σ σ' : Me) : Prop := (∀ j, j ≠ 35 → gI σ' m j = gI σ m j) ∧ (∀ q j, q ≠ m → q ≠ m + 16 → q ≠ m + 18 → q ≠ m + 19 → gI σ' q j = gI σ q j) ∧ ∀ q j, q ≠ m + 17 → gL σ' q j = gL σ q j
set_option maxHeartbeats 4000000 in
theorem M_put {m N T : Nat} {σ : Me} {A : Ab} (h : RM m N σ A) (hT : stT m T σ) (hN : T ≤ 2000 * N) (hT2 : T < 2 ^ 31) {V : Nat → Prop} {k : Nat} {ql g : Nat → Nat} (hn : MN m σ T V k ql g) {s w : Nat} (hs : s < 17000) (hV : V s) {Q : Me → Prop} (hQ : ∀ σ' k' ql' g', RM m N σ' A → stT m T σ' → MN m σ' T V k' ql' g' → (∀ φ, SM g' ql' k' φ = SM g ql k φ + w * φ s) → FrP m σ σ' → FrW m σ σ' → Q σ') : pX12_put σ m (nI s) (lN w) Q := by
  have r37 := h.1.row (37, 19, 20, 17000) (by decide)
  have r36 := h.1.row (36, 18, 20, 17000) (by decide)
  have r33 := h.1.row (33, 16, 20, 17000) (by decide)
  have r34 := h.1.row (34, 17, 21, 17000) (by decide)
  have hin : vp_in (nI s) 17000 := vp_in_nI hs (by omega)
  have hkl := hn.le
  have cs : (nI s).toNatClampNeg = s := nI_clamp (by omega)
  refine ⟨h.1.1, _, r37.1, r37.2.1, by rw [r37.2.2]; exact hin, ?_⟩
  -- the place is known
  refine ⟨fun σ1 => ∃ k1 ql1 g1 i1, FrP m σ σ1 ∧ FrW m σ σ1 ∧ stT m T σ1 ∧ MN m σ1 T V k1 ql1 g1 ∧ (∀ φ, SM g1 ql1 k1 φ = SM g ql k φ) ∧ i1 < k1 ∧ ql1 i1 = s, ?_, fun q => ?_, fun q => ?_⟩
  · rintro σ1 ⟨k1, ql1, g1, i1, f1, f2, f3, f4, f5, f6, f7⟩
    have h1 : RM m N σ1 A := h.frW f2 f3 hN
    have q34 := h1.1.row (34, 17, 21, 17000) (by decide)
    have q36 := h1.1.row (36, 18, 20, 17000) (by decide)
    have hk1 := f4.le
    have e1 : gI σ1 (m + 18) (nI s).toNatClampNeg = nI i1 := by
      rw [cs, ← f7]
      exact (f4.2.1 i1 f6).2.2.2.1
    have hin1 : vp_in (nI i1) 17000 := vp_in_nI (by omega) (by omega)
    refine ⟨h1.1.1, _, q34.1, _, q36.1, q36.2.1, by rw [q36.2.2]; exact hin, q34.2.1, ?_⟩
    show vp_in (gI σ1 (m + 18) _) _ ∧ vp_in (gI σ1 (m + 18) _) _ ∧ ∀ σ30 : Me, σ30 = sL σ1 (m + 17) (gI σ1 (m + 18) (nI s).toNatClampNeg).toNatClampNeg ((gL σ1 (m + 17) (gI σ1 (m + 18) (nI s).toNatClampNeg).toNatClampNeg) + lN w) → Q σ30
    rw [e1, q34.2.2, nI_clamp (show i1 < 2 ^ 31 by omega), (f4.2.1 i1 f6).2.1, lN_add]
    refine ⟨hin1, hin1, ?_⟩
    rintro _ rfl
    have f8 : FrW m σ1 (sL σ1 (m + 17) i1 (lN (g1 i1 + w))) := frW_L (by omega)
    refine hQ _ k1 ql1 (fun i => if i = i1 then g1 i + w else g1 i) (h.frW (f2.tr f8) f3 hN) f3 ⟨f4.1, fun i hi => ?_, f4.2.2.1, f4.2.2.2⟩ (fun φ => ?_) ⟨f1.1, f1.2.1, fun q j hq => by rw [gL_sL_ne hq]; exact f1.2.2 q j hq⟩ (f2.tr f8)
    · have a := f4.2.1 i hi
      refine ⟨a.1, ?_, a.2.2⟩
      show _ = lN (if i = i1 then g1 i + w else g1 i)
      by_cases c : i = i1
      · rw [c, gL_sL_eq, if_pos rfl]
      · rw [gL_sL_nk c, if_neg c]
        exact a.2.1
    · rw [← f5 φ]
      show sumN (fun i => (if i = i1 then g1 i + w else g1 i) * φ (ql1 i)) k1 = _
      rw [sumN_cg (g := fun i => if i = i1 then g1 i * φ (ql1 i) + w * φ s else g1 i * φ (ql1 i)) k1 (fun i _ => ?_), sumN_upd, if_pos f6]
      · rfl
      · show (if i = i1 then g1 i + w else g1 i) * φ (ql1 i) = (if i = i1 then g1 i * φ (ql1 i) + w * φ s else g1 i * φ (ql1 i))
        by_cases c : i = i1
        · rw [if_pos c, if_pos c, Nat.add_mul, c, f7]
        · rw [if_neg c, if_neg c]
  · rw [cs, hT.1] at q
    obtain ⟨i, hi, ei⟩ := hn.2.2.2 s hs q
    exact ⟨k, ql, g, i, ⟨fun _ _ => rfl, fun _ _ _ _ _ _ => rfl, fun _ _ _ => rfl⟩, .rf, hT, hn, fun _ => rfl, hi, ei⟩
  · rw [cs, hT.1] at q
    have hnew : ∀ i, i < k → ql i ≠ s := fun i hi e => q (by rw [← e]; exact (hn.2.1 i hi).2.2.2.2)
    have hk : k < 17000 := by
      have := pigeon 17000 (k + 1) (apN ql k s) (fun i hi => ?_) (fun i hi j hj e => ?_)
      · omega
      · unfold apN
        by_cases c : i = k
        · rw [if_pos c]; exact hs
        · rw [if_neg c]; exact (hn.2.1 i (by omega)).2.2.1.1
      · unfold apN at e
        by_cases c : i = k
        · by_cases c2 : j = k
          · omega
          · rw [if_pos c, if_neg c2] at e
            exact absurd e.symm (hnew j (by omega))
        · by_cases c2 : j = k
          · rw [if_neg c, if_pos c2] at e
            exact absurd e (hnew i (by omega))
          · rw [if_neg c, if_neg c2] at e
            exact hn.2.2.1 i (by omega) j (by omega) e
    refine ⟨by rw [r37.2.2]; exact hin, ?_⟩
    rintro _ rfl
    refine ⟨_, r36.1, r36.2.1, by rw [gN_sI, r36.2.2]; exact hin, ?_⟩
    rintro _ rfl
    have hink : vp_in (nI k) 17000 := vp_in_nI hk (by omega)
    have e35 : gI (sI σ (m + 19) (nI s).toNatClampNeg (gI σ m 38)) m 35 = nI k := by rw [gI_sI_ne (by omega)]; exact hn.1
    show ∃ b12 : Nat, gP _ m 33 = some b12 ∧ _
    rw [e35]
    have e35b : gI (sI (sI σ (m + 19) (nI s).toNatClampNeg (gI σ m 38)) (m + 18) (nI s).toNatClampNeg (nI k)) m 35 = nI k := by rw [gI_sI_ne (by omega)]; exact e35
    rw [e35b]
    refine ⟨_, r33.1, r33.2.1, by rw [gN_sI, gN_sI, r33.2.2]; exact hink, ?_⟩
    rintro _ rfl
    have e35c : gI (sI (sI (sI σ (m + 19) (nI s).toNatClampNeg (gI σ m 38)) (m + 18) (nI s).toNatClampNeg (nI k)) (m + 16) (nI k).toNatClampNeg (nI s)) m 35 = nI k := by rw [gI_sI_ne (by omega)]; exact e35b
    rw [e35c]
    refine ⟨_, r34.1, r34.2.1, by rw [gN_sI, gN_sI, gN_sI, r34.2.2]; exact hink, ?_⟩
    rintro _ rfl
    rw [show ∀ a b c, gI (sL (sI (sI (sI σ (m + 19) (nI s).toNatClampNeg (gI σ m 38)) (m + 18) (nI s).toNatClampNeg (nI k)) (m + 16) (nI k).toNatClampNeg (nI s)) a b c) m 35 = nI k from fun a b c => e35c]
    rintro _ rfl
    rw [cs, nI_clamp (show k < 2 ^ 31 by omega), hT.1, sc1]
    have fW : FrW m σ (sI (sL (sI (sI (sI σ (m + 19) s (nI T)) (m + 18) s (nI k)) (m + 16) k (nI s)) (m + 17) k 0) m 35 (nI (k + 1))) := ((((frW_I (by omega)).tr (frW_I (by omega))).tr (frW_I (by omega))).tr (frW_L (by omega))).tr (frW_0 (by omega))
    have g19 : ∀ j, gI (sI (sL (sI (sI (sI σ (m + 19) s (nI T)) (m + 18) s (nI k)) (m + 16) k (nI s)) (m + 17) k 0) m 35 (nI (k + 1))) (m + 19) j = if j = s then nI T else gI σ (m + 19) j := fun j => by
      rw [gI_sI_ne (by omega), gI_sL, gI_sI_ne (by omega), gI_sI_ne (by omega)]
      by_cases c : j = s
      · rw [if_pos c, c, gI_sI_eq]
      · rw [if_neg c, gI_sI_nk c]
    have g18 : ∀ j, gI (sI (sL (sI (sI (sI σ (m + 19) s (nI T)) (m + 18) s (nI k)) (m + 16) k (nI s)) (m + 17) k 0) m 35 (nI (k + 1))) (m + 18) j = if j = s then nI k else gI σ (m + 18) j := fun j => by
      rw [gI_sI_ne (by omega), gI_sL, gI_sI_ne (by omega)]
      by_cases c : j = s
      · rw [if_pos c, c, gI_sI_eq]
      · rw [if_neg c, gI_sI_nk c, gI_sI_ne (by omega)]
    have g16 : ∀ j, gI (sI (sL (sI (sI (sI σ (m + 19) s (nI T)) (m + 18) s (nI k)) (m + 16) k (nI s)) (m + 17) k 0) m 35 (nI (k + 1))) (m + 16) j = if j = k then nI s else gI σ (m + 16) j := fun j => by
      rw [gI_sI_ne (by omega), gI_sL]
      by_cases c : j = k
      · rw [if_pos c, c, gI_sI_eq]
      · rw [if_neg c, gI_sI_nk c, gI_sI_ne (by omega), gI_sI_ne (by omega)]
    have g17 : ∀ j, gL (sI (sL (sI (sI (sI σ (m + 19) s (nI T)) (m + 18) s (nI k)) (m + 16) k (nI s)) (m + 17) k 0) m 35 (nI (k + 1))) (m + 17) j = if j = k then 0 else gL σ (m + 17) j := fun j => by
      rw [gL_sI]
      by_cases c : j = k
      · rw [if_pos c, c, gL_sL_eq]
      · rw [if_neg c, gL_sL_nk c, gL_sI, gL_sI, gL_sI]
    have g0 : ∀ j, j ≠ 35 → gI (sI (sL (sI (sI (sI σ (m + 19) s (nI T)) (m + 18) s (nI k)) (m + 16) k (nI s)) (m + 17) k 0) m 35 (nI (k + 1))) m j = gI σ m j := fun j hj => by
      rw [gI_sI_nk hj, gI_sL, gI_sI_ne (by omega), gI_sI_ne (by omega), gI_sI_ne (by omega)]
    have g35 : gI (sI (sL (sI (sI (sI σ (m + 19) s (nI T)) (m + 18) s (nI k)) (m + 16) k (nI s)) (m + 17) k 0) m 35 (nI (k + 1))) m 35 = nI (k + 1) := gI_sI_eq
    have fP : FrP m σ (sI (sL (sI (sI (sI σ (m + 19) s (nI T)) (m + 18) s (nI k)) (m + 16) k (nI s)) (m + 17) k 0) m 35 (nI (k + 1))) := ⟨g0, fun q j a b c d => by rw [gI_sI_ne a, gI_sL, gI_sI_ne b, gI_sI_ne c, gI_sI_ne d], fun q j a => by rw [gL_sI, gL_sL_ne a, gL_sI, gL_sI, gL_sI]⟩
    generalize sI (sL (sI (sI (sI σ (m + 19) s (nI T)) (m + 18) s (nI k)) (m + 16) k (nI s)) (m + 17) k 0) m 35 (nI (k + 1)) = τ at *
    have tT : stT m T τ := ⟨by rw [g0 38 (by decide)]; exact hT.1, fun j hj => by
      rw [g19]
      by_cases c : j = s
      · rw [if_pos c]; exact ⟨T, rfl, Nat.le_refl _⟩
      · rw [if_neg c]; exact hT.2 j hj⟩
    refine ⟨k + 1, apN ql k s, (fun i => if i = k then 0 else g i), k, fP, fW, tT, ⟨g35, fun i hi => ?_, fun i hi j hj e => ?_, fun x hx hx2 => ?_⟩, fun φ => ?_, by omega, by unfold apN; rw [if_pos rfl]⟩
    · unfold apN
      show _ ∧ _ = lN (if i = k then 0 else g i) ∧ _
      rw [g16, g17]
      by_cases c : i = k
      · rw [if_pos c, if_pos c, if_pos c, if_pos c, g18, g19, if_pos rfl, if_pos rfl, c]
        exact ⟨rfl, rfl, ⟨hs, hV⟩, rfl, rfl⟩
      · have a := hn.2.1 i (by omega)
        have c2 := hnew i (by omega)
        rw [if_neg c, if_neg c, if_neg c, if_neg c, g18, g19, if_neg c2, if_neg c2]
        exact a
    · unfold apN at e
      by_cases c : i = k
      · by_cases c2 : j = k
        · omega
        · rw [if_pos c, if_neg c2] at e
          exact absurd e.symm (hnew j (by omega))
      · by_cases c2 : j = k
        · rw [if_neg c, if_pos c2] at e
          exact absurd e (hnew i (by omega))
        · rw [if_neg c, if_neg c2] at e
          exact hn.2.2.1 i (by omega) j (by omega) e
    · rw [g19] at hx2
      by_cases c : x = s
      · exact ⟨k, by omega, by unfold apN; rw [if_pos rfl, c]⟩
      · rw [if_neg c] at hx2
        obtain ⟨i, hi, ei⟩ := hn.2.2.2 x hx hx2
        exact ⟨i, by omega, by unfold apN; rw [if_neg (by omega)]; exact ei⟩
    · show SM _ _ k φ + (if k = k then 0 else g k) * φ _ = _
      rw [if_pos rfl, Nat.zero_mul, Nat.add_zero]
      refine SM_cg (fun i hi => ⟨?_, ?_⟩)
      · show (if i = k then 0 else g i) = g i
        rw [if_neg (by omega)]
      · unfold apN
        rw [if_neg (by omega)]
