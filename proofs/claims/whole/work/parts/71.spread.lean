/-! The spread: today's weights, tomorrow's. -/
def cfg (a b c d : Nat) : Prop := (a = 24 ∧ b = 25 ∧ c = 26 ∧ d = 27) ∨ (a = 25 ∧ b = 24 ∧ c = 27 ∧ d = 26)
def TDw (z : Nat) (σ : Me) (a c : Nat) : Prop := gP σ (z + 23) 0 = some (z + a) ∧ gP σ (z + 23) 2 = some (z + c) ∧ ∃ k, k ≤ 481 ∧ gI σ (z + 23) 4 = nI k ∧ (∀ i, i < k → ∃ p, p < 481 ∧ gI σ (z + c) i = nI p) ∧ ∀ p, p < 481 → gL σ (z + a) p ≠ 0 → ∃ i, i < k ∧ gI σ (z + c) i = nI p
def TDy (z : Nat) (σ : Me) (a c : Nat) (f : Nat → Nat) (k : Nat) (pl : Nat → Nat) : Prop := gP σ (z + 23) 0 = some (z + a) ∧ gP σ (z + 23) 2 = some (z + c) ∧ gI σ (z + 23) 4 = nI k ∧ (∀ p, p < 481 → gL σ (z + a) p = lN (f p)) ∧ (∀ i, i < k → gI σ (z + c) i = nI (pl i)) ∧ lstd f 481 k pl
def TMo (z : Nat) (σ : Me) (b d : Nat) (g : Nat → Nat) (m : Nat) (ql : Nat → Nat) : Prop := gP σ (z + 23) 1 = some (z + b) ∧ gP σ (z + 23) 3 = some (z + d) ∧ gI σ (z + 23) 5 = nI m ∧ (∀ p, p < 481 → gL σ (z + b) p = lN (g p)) ∧ (∀ i, i < m → gI σ (z + d) i = nI (ql i)) ∧ lstd g 481 m ql
theorem TDy.w {z : Nat} {σ : Me} {a c k : Nat} {f pl : Nat → Nat} (h : TDy z σ a c f k pl) : TDw z σ a c := by
  obtain ⟨h1, h2, h3, h4, h5, h6⟩ := h
  refine ⟨h1, h2, k, lst_le h6, h3, fun i hi => ⟨pl i, (h6.1 i hi).1, h5 i hi⟩, fun p hp e => ?_⟩
  rw [h4 p hp] at e
  obtain ⟨i, hi, ei⟩ := h6.2.2 p hp (fun q => e (by rw [q]; rfl))
  exact ⟨i, hi, by rw [h5 i hi, ei]⟩
theorem lst_0 (N : Nat) (pl : Nat → Nat) : lstd (fun _ => 0) N 0 pl := ⟨fun i hi => by omega, fun i hi => by omega, fun _ _ e => absurd rfl e⟩
theorem spX.un {z : Nat} {σ : Me} (h : spX z σ) : ∃ a b c d, cfg a b c d ∧ TDw z σ a c ∧ TMo z σ b d (fun _ => 0) 0 (fun _ => 0) := by
  obtain ⟨a, b, c, d, e, p0, p1, p2, p3, n5, w, k, hk, n4, l1, l2⟩ := h
  exact ⟨a, b, c, d, e, ⟨p0, p2, k, hk, n4, l1, l2⟩, p1, p3, n5, fun p hp => w p hp, fun i hi => by omega, lst_0 _ _⟩
theorem spX.of {z : Nat} {σ : Me} {a b c d : Nat} {ql : Nat → Nat} (hc : cfg a b c d) (h : TDw z σ a c) (h' : TMo z σ b d (fun _ => 0) 0 ql) : spX z σ := by
  obtain ⟨p0, p2, k, hk, n4, l1, l2⟩ := h
  obtain ⟨p1, p3, n5, w, -, -⟩ := h'
  exact ⟨a, b, c, d, hc, p0, p1, p2, p3, n5, fun p hp => w p hp, k, hk, n4, l1, l2⟩
/-- only tomorrow has changed -/
def FrA (z b d : Nat) (σ σ' : Me) : Prop := gz σ' = gz σ ∧ gT σ' = gT σ ∧ gN σ' = gN σ ∧ gP σ' = gP σ ∧ (∀ q j, q ≠ z + d → (q = z + 23 → j ≠ 5) → gI σ' q j = gI σ q j) ∧ (∀ q j, q ≠ z + b → gL σ' q j = gL σ q j)
theorem FrA.rf {z b d : Nat} {σ : Me} : FrA z b d σ σ := ⟨rfl, rfl, rfl, rfl, fun _ _ _ _ => rfl, fun _ _ _ => rfl⟩
theorem FrA.tr {z b d : Nat} {σ σ' σ'' : Me} (h : FrA z b d σ σ') (h' : FrA z b d σ' σ'') : FrA z b d σ σ'' := ⟨h'.1.trans h.1, h'.2.1.trans h.2.1, h'.2.2.1.trans h.2.2.1, h'.2.2.2.1.trans h.2.2.2.1, fun q j h1 h2 => (h'.2.2.2.2.1 q j h1 h2).trans (h.2.2.2.2.1 q j h1 h2), fun q j h1 => (h'.2.2.2.2.2 q j h1).trans (h.2.2.2.2.2 q j h1)⟩
theorem FrA.sL {z b d : Nat} {σ : Me} {j : Nat} {v : Int64} : FrA z b d σ (sL σ (z + b) j v) := ⟨rfl, rfl, rfl, rfl, fun _ _ _ _ => rfl, fun _ _ h => gL_sL_ne h⟩
theorem FrA.sI {z b d : Nat} {σ : Me} {j : Nat} {v : Int32} : FrA z b d σ (sI σ (z + d) j v) := ⟨rfl, rfl, rfl, rfl, fun _ _ h _ => gI_sI_ne h, fun _ _ _ => rfl⟩
theorem frA_5 {z b d : Nat} {σ : Me} {v : Int32} : FrA z b d σ (sI σ (z + 23) 5 v) := ⟨rfl, rfl, rfl, rfl, fun q j _ h => by
  by_cases e : q = z + 23
  · rw [gI_sI_nk (h e)]
  · rw [gI_sI_ne e], fun _ _ _ => rfl⟩
theorem FrA.same {z b d : Nat} {σ σ' : Me} (h : FrA z b d σ σ') (hb : 24 ≤ b ∧ b ≤ 27) (hd : 24 ≤ d ∧ d ≤ 27) {q : Nat} (hq : q < z + 23 ∨ z + 27 < q) : sameC σ σ' q := ⟨by rw [h.2.1], by rw [h.2.2.1], fun j => h.2.2.2.2.1 q j (by omega) (by omega), fun j => h.2.2.2.2.2 q j (by omega), fun j => by rw [h.2.2.2.1]⟩
theorem FrA.S {z b d : Nat} {σ σ' : Me} (h : FrA z b d σ σ') (hb : 24 ≤ b ∧ b ≤ 27) (hd : 24 ≤ d ∧ d ≤ 27) : FrS z σ σ' := ⟨h.1, fun q hq => by
  by_cases e : q < z + 23 ∨ z + 27 < q
  · exact h.same hb hd e
  · exact absurd (show scr (q - z) by unfold scr; omega) (hq (q - z) (by omega))⟩
theorem RC.frA {z b d : Nat} {σ σ' : Me} {A : Ab} (hc : RC z σ A) (h : FrA z b d σ σ') (hb : 24 ≤ b ∧ b ≤ 27) (hd : 24 ≤ d ∧ d ≤ 27) : RC z σ' A := by
  refine ⟨hc.1.same (fun o _ => by rw [h.2.1]) (fun o _ => by rw [h.2.2.1]) (fun q _ => by rw [h.2.2.2.1]) (by rw [h.1]; exact Nat.le_refl _), fun q hq => ?_⟩
  have c := ce_b q hq
  rw [(h.same hb hd (q := z + q.2.2.1) (by omega)).2.2.1]
  exact hc.2 q hq
theorem TDy.frA {z a b c d : Nat} {σ σ' : Me} {f pl : Nat → Nat} {k : Nat} (hc : cfg a b c d) (h : TDy z σ a c f k pl) (hf : FrA z b d σ σ') : TDy z σ' a c f k pl := by
  obtain ⟨h1, h2, h3, h4, h5, h6⟩ := h
  unfold cfg at hc
  refine ⟨by rw [hf.2.2.2.1]; exact h1, by rw [hf.2.2.2.1]; exact h2, by rw [hf.2.2.2.2.1 _ _ (by omega) (by omega)]; exact h3, fun p hp => by rw [hf.2.2.2.2.2 _ _ (by omega)]; exact h4 p hp, fun i hi => by rw [hf.2.2.2.2.1 _ _ (by omega) (by omega)]; exact h5 i hi, h6⟩
theorem TDw.frA {z a b c d : Nat} {σ σ' : Me} (hc : cfg a b c d) (h : TDw z σ a c) (hf : FrA z b d σ σ') : TDw z σ' a c := by
  obtain ⟨h1, h2, k, hk, h3, h4, h5⟩ := h
  unfold cfg at hc
  refine ⟨by rw [hf.2.2.2.1]; exact h1, by rw [hf.2.2.2.1]; exact h2, k, hk, by rw [hf.2.2.2.2.1 _ _ (by omega) (by omega)]; exact h3, fun i hi => by rw [hf.2.2.2.2.1 _ _ (by omega) (by omega)]; exact h4 i hi, fun p hp e => ?_⟩
  rw [hf.2.2.2.2.2 _ _ (by omega)] at e
  obtain ⟨i, hi, ei⟩ := h5 p hp e
  exact ⟨i, hi, by rw [hf.2.2.2.2.1 _ _ (by omega) (by omega)]; exact ei⟩
theorem cfg.b {a b c d : Nat} (h : cfg a b c d) : (24 ≤ b ∧ b ≤ 27) ∧ (24 ≤ d ∧ d ≤ 27) ∧ (24 ≤ a ∧ a ≤ 25) ∧ (26 ≤ c ∧ c ≤ 27) ∧ a ≠ b ∧ c ≠ d ∧ b ≤ 25 ∧ 26 ≤ d := by unfold cfg at h; omega
section SP
variable {z : Nat} {σ : Me} {A : Ab}
theorem S_tag (h : RC z σ A) {a b c d : Nat} (hc : cfg a b c d) : gT σ (z + 23) = 8 ∧ (gT σ (z + a) = 21 ∧ gN σ (z + a) = 481) ∧ (gT σ (z + b) = 21 ∧ gN σ (z + b) = 481) ∧ (gT σ (z + c) = 20 ∧ gN σ (z + c) = 481) ∧ (gT σ (z + d) = 20 ∧ gN σ (z + d) = 481) := by
  have t23 := h.1.tg (23, 8, 0) (by decide)
  have t24 := h.1.tg (24, 21, 481) (by decide)
  have t25 := h.1.tg (25, 21, 481) (by decide)
  have t26 := h.1.tg (26, 20, 481) (by decide)
  have t27 := h.1.tg (27, 20, 481) (by decide)
  rcases hc with ⟨rfl, rfl, rfl, rfl⟩ | ⟨rfl, rfl, rfl, rfl⟩
  · exact ⟨t23.1, t24, t25, t26, t27⟩
  · exact ⟨t23.1, t25, t24, t27, t26⟩
theorem e_pl {p : Nat} (hp : p < 481) {Q : Int32 → Me → Prop} (hQ : Q 1 σ) : pX8_isPlace σ (nI p) Q := by
  rintro v rfl
  rw [if_neg (show ¬ nI p < (0 : Int32) from nI_nlt (b := 0) (a := p) (by omega) (by omega)), if_neg (show ¬ (481 : Int32) ≤ nI p from fun q => absurd ((le_c (a := 481) rfl (by omega) (by omega)).mp q) (by omega))]
  exact ⟨.inr rfl, hQ⟩
theorem S_weightAt (h : RC z σ A) {a b c d k : Nat} {f pl : Nat → Nat} (hc : cfg a b c d) (ht : TDy z σ a c f k pl) {p : Nat} (hp : p < 481) {Q : Int64 → Me → Prop} (hQ : Q (lN (f p)) σ) : pX8_weightAt σ (z + 23) (nI p) Q := by
  obtain ⟨t1, t2, t3, t4, t5⟩ := S_tag h hc
  refine e_pl hp ⟨fun q => absurd q (by decide), fun _ => ⟨t1, _, ht.1, t2.1, by rw [t2.2]; exact vp_in_nI hp (by omega), ?_⟩⟩
  rw [nI_clamp (by omega), ht.2.2.2.1 p hp]
  exact hQ
theorem S_placeAt (h : RC z σ A) {a b c d k : Nat} {f pl : Nat → Nat} (hc : cfg a b c d) (ht : TDy z σ a c f k pl) {i : Nat} (hi : i < k) {Q : Int32 → Me → Prop} (hQ : Q (nI (pl i)) σ) : pX8_placeAt σ (z + 23) (nI i) Q := by
  obtain ⟨t1, t2, t3, t4, t5⟩ := S_tag h hc
  have hk := lst_le ht.2.2.2.2.2
  refine e_pl (by omega) ⟨fun q => absurd q (by decide), fun _ => ⟨t1, _, ht.2.1, t4.1, by rw [t4.2]; exact vp_in_nI (by omega) (by omega), ?_⟩⟩
  rw [nI_clamp (by omega), ht.2.2.2.2.1 i hi]
  exact hQ
theorem S_all (h : RC z σ A) {a b c d k : Nat} {f pl : Nat → Nat} (hc : cfg a b c d) (ht : TDy z σ a c f k pl) {Q : Int64 → Me → Prop} (hQ : Q (lN (ES f k pl (fun _ => 1))) σ) : pX8_weightOfAll σ (z + 23) Q := by
  obtain ⟨t1, t2, t3, t4, t5⟩ := S_tag h hc
  have hk := lst_le ht.2.2.2.2.2
  refine ⟨fun m σ' v w => σ' = σ ∧ ∃ j, j ≤ k ∧ w = nI j ∧ m = k - j ∧ v = lN (ES f j pl (fun _ => 1)), ?_, k, rfl, 0, by omega, rfl, rfl, rfl⟩
  rintro m σ1 v w ⟨es, j, hj, rfl, rfl, rfl⟩
  rw [es]
  refine ⟨t1, ?_⟩
  rw [ht.2.2.1]
  refine ⟨fun q => ?_, fun q => ?_⟩
  · have : k ≤ j := (nI_leI (by omega) (by omega)).mp q
    rw [show k = j by omega] at hQ
    exact hQ
  · have hj2 : ¬ k ≤ j := fun c => q ((nI_leI (by omega) (by omega)).mpr c)
    refine S_placeAt h hc ht (by omega) ⟨t1, S_weightAt h hc ht (ht.2.2.2.2.2.1 j (by omega)).1 ?_⟩
    rintro _ rfl _ rfl
    exact ⟨k - (j + 1), by omega, rfl, j + 1, by omega, sc1 j, rfl, by rw [lN_add]; show lN (ES f j pl (fun _ => 1) + f (pl j)) = lN (ES f j pl (fun _ => 1) + f (pl j) * 1); rw [Nat.mul_one]⟩
theorem S_add (h : RC z σ A) {a b c d m : Nat} {g ql : Nat → Nat} (hc : cfg a b c d) (ht : TMo z σ b d g m ql) {p w : Nat} (hp : p < 481) (hb : ES g m ql (fun _ => 1) + w < 2 ^ 63) {Q : Me → Prop} (hQ : ∀ σ' g' m' ql', TMo z σ' b d g' m' ql' → (∀ φ, ES g' m' ql' φ = ES g m ql φ + w * φ p) → FrA z b d σ σ' → Q σ') : pX8_add σ (z + 23) (nI p) (lN w) Q := by
  obtain ⟨t1, t2, t3, t4, t5⟩ := S_tag h hc
  have cb := hc.b
  have hi : vp_in (nI p) (gN σ (z + b)) := by rw [t3.2]; exact vp_in_nI hp (by omega)
  have cp : (nI p).toNatClampNeg = p := nI_clamp (by omega)
  have gb := lst_bd ht.2.2.2.2.2 hp
  have h5 := ht.2.2.2.2.2
  have hm := lst_le h5
  obtain ⟨p1, p3, n5, w1, w2, -⟩ := ht
  have gl : ∀ p', p' < 481 → (upN g p w) p' = if p' = p then g p + w else g p' := fun p' _ => by
    show (if p' = p then g p' + w else g p') = _
    by_cases e : p' = p
    · rw [if_pos e, if_pos e, e]
    · rw [if_neg e, if_neg e]
  refine ⟨fun q => absurd q (nI_nlt (b := 0) (a := p) (by omega) (by omega)), fun _ => ⟨fun q => absurd ((le_c (a := 481) rfl (by omega) (by omega)).mp q) (by omega), fun _ => ⟨fun hw => ⟨t1, _, p1, t3.1, hi, ?_⟩, fun hw => ?_⟩⟩⟩
  · have w0 : 0 < w := (pk_lLT (a := 0) (by omega) (by omega)).mp hw
    rw [cp, w1 p hp]
    have z0 : lN (g p) = 0 ↔ g p = 0 := pk_lEQ (b := 0) (by omega) (by omega)
    refine ⟨fun e => ?_, fun e => ⟨hi, hi, ?_⟩⟩
    · obtain ⟨k1, k2, k3⟩ := lst_new h5 hp w0 (z0.mp e)
      rw [n5]
      refine ⟨fun q => absurd ((le_c (a := 481) rfl (by omega) (by omega)).mp q) (by omega), fun _ => ⟨_, p3, t5.1, by rw [t5.2]; exact vp_in_nI (by omega) (by omega), ?_⟩⟩
      rintro _ rfl _ rfl
      refine ⟨hi, hi, ?_⟩
      rintro _ rfl
      have n5' : gI (sI σ (z + d) (nI m).toNatClampNeg (nI p)) (z + 23) 5 = nI m := by rw [gI_sI_ne (by omega)]; exact n5
      rw [n5', nI_1, nI_clamp (show m < 2 ^ 31 by omega)]
      refine hQ _ _ _ _ ⟨p1, p3, gI_sI_eq, fun p' hp' => ?_, fun i hi => ?_, k2⟩ k3 ((FrA.sI.tr frA_5).tr .sL)
      · rw [gl p' hp']
        by_cases e2 : p' = p
        · rw [if_pos e2, e2]
          show up2 _ _ _ _ _ _ = _
          rw [up2_eq]
          show gL σ (z + b) p + _ = _
          rw [w1 p hp, lN_add]
        · rw [if_neg e2]
          show up2 _ _ _ _ _ _ = _
          rw [up2_nk e2]
          exact w1 p' hp'
      · show gI (sI (sI σ (z + d) m (nI p)) (z + 23) 5 (nI (m + 1))) (z + d) i = nI (apN ql m p i)
        rw [gI_sI_ne (by omega)]
        unfold apN
        by_cases e2 : i = m
        · rw [if_pos e2, e2, gI_sI_eq]
        · rw [if_neg e2, gI_sI_nk e2]
          exact w2 i (by omega)
    · obtain ⟨k2, k3⟩ := lst_old (w := w) h5 hp (fun q => e (z0.mpr q))
      rintro _ rfl
      refine hQ _ _ _ _ ⟨p1, p3, n5, fun p' hp' => ?_, w2, k2⟩ k3 .sL
      rw [gl p' hp']
      by_cases e2 : p' = p
      · rw [if_pos e2, e2, gL_sL_eq, lN_add]
      · rw [if_neg e2, gL_sL_nk e2]
        exact w1 p' hp'
  · have w0 : w = 0 := by
      rcases Nat.eq_zero_or_pos w with q | q
      · exact q
      · exact absurd ((pk_lLT (a := 0) (by omega) (by omega)).mpr q) hw
    refine hQ _ _ _ _ ⟨p1, p3, n5, w1, w2, h5⟩ (fun φ => by rw [w0, Nat.zero_mul, Nat.add_zero]) .rf
theorem S_turn (h : RC z σ A) {a b c d m : Nat} {g ql : Nat → Nat} (hc : cfg a b c d) (hd : TDw z σ a c) (ht : TMo z σ b d g m ql) {Q : Me → Prop} (hQ : ∀ σ', cfg b a d c → TDy z σ' b d g m ql → TMo z σ' a c (fun _ => 0) 0 ql → RC z σ' A → gz σ' = gz σ → (∀ q, (q < z + 23 ∨ z + 27 < q) → sameC σ σ' q) → Q σ') : pX8_turnToTomorrow σ (z + 23) Q := by
  obtain ⟨t1, t2, t3, t4, t5⟩ := S_tag h hc
  have cb := hc.b
  obtain ⟨p0, p2, k, hk, n4, l1, l2⟩ := hd
  obtain ⟨p1, p3, n5, w1, w2, w3⟩ := ht
  refine ⟨fun n σ1 w => ∃ i, i ≤ k ∧ w = nI i ∧ n = k - i ∧ gz σ1 = gz σ ∧ gT σ1 = gT σ ∧ gN σ1 = gN σ ∧ gI σ1 = gI σ ∧ gP σ1 = gP σ ∧ (∀ q j, q ≠ z + a → gL σ1 q j = gL σ q j) ∧ ∀ p, p < 481 → gL σ1 (z + a) p = 0 ∨ (gL σ1 (z + a) p = gL σ (z + a) p ∧ ∀ j, j < i → gI σ (z + c) j ≠ nI p), ?_, k, 0, by omega, rfl, rfl, rfl, rfl, rfl, rfl, rfl, fun _ _ _ => rfl, fun p hp => .inr ⟨rfl, fun j hj => by omega⟩⟩
  rintro n σ1 w ⟨i, hi, rfl, rfl, e1, e2, e3, e4, e5, e6, e7⟩
  rw [e2, e4, e5]
  refine ⟨t1, ?_⟩
  rw [n4]
  refine ⟨fun q => ?_, fun q => ?_⟩
  · have hik : k ≤ i := (nI_leI (by omega) (by omega)).mp q
    refine ⟨_, p0, _, p1, ?_⟩
    rintro _ rfl _ rfl
    refine ⟨z + c, ?_, z + d, ?_, ?_⟩
    · show up2 (up2 _ _ _ _) _ _ _ _ _ = _
      rw [up2_nk (by decide), up2_nk (by decide)]
      show gP σ1 _ _ = _
      rw [e5]
      exact p2
    · show up2 (up2 _ _ _ _) _ _ _ _ _ = _
      rw [up2_nk (by decide), up2_nk (by decide)]
      show gP σ1 _ _ = _
      rw [e5]
      exact p3
    · rintro _ rfl _ rfl _ rfl _ rfl
      have g5 : gI (sP (sP (sP (sP σ1 (z + 23) 0 (some (z + b))) (z + 23) 1 (some (z + a))) (z + 23) 2 (some (z + d))) (z + 23) 3 (some (z + c))) (z + 23) 5 = nI m := by
        show gI σ1 _ _ = _
        rw [e4]
        exact n5
      rw [g5]
      generalize hτ : sI (sI (sP (sP (sP (sP σ1 (z + 23) 0 (some (z + b))) (z + 23) 1 (some (z + a))) (z + 23) 2 (some (z + d))) (z + 23) 3 (some (z + c))) (z + 23) 4 (nI m)) (z + 23) 5 0 = τ
      have τP : ∀ j, gP τ (z + 23) j = if j = 3 then some (z + c) else if j = 2 then some (z + d) else if j = 1 then some (z + a) else if j = 0 then some (z + b) else gP σ (z + 23) j := fun j => by
        rw [← hτ]
        show up2 (up2 (up2 (up2 (gP σ1) _ _ _) _ _ _) _ _ _) _ _ _ _ _ = _
        rw [e5]
        by_cases c3 : j = 3
        · subst c3; rw [up2_eq]; rfl
        · rw [up2_nk c3, if_neg c3]
          by_cases c2 : j = 2
          · subst c2; rw [up2_eq]; rfl
          · rw [up2_nk c2, if_neg c2]
            by_cases c1 : j = 1
            · subst c1; rw [up2_eq]; rfl
            · rw [up2_nk c1, if_neg c1]
              by_cases c0 : j = 0
              · subst c0; rw [up2_eq]; rfl
              · rw [up2_nk c0, if_neg c0]
      have τPn : ∀ q j, q ≠ z + 23 → gP τ q j = gP σ q j := fun q j hq => by
        rw [← hτ]
        show up2 (up2 (up2 (up2 (gP σ1) _ _ _) _ _ _) _ _ _) _ _ _ _ _ = _
        rw [up2_ne hq, up2_ne hq, up2_ne hq, up2_ne hq, e5]
      have τI : ∀ q j, q ≠ z + 23 → gI τ q j = gI σ q j := fun q j hq => by
        rw [← hτ, gI_sI_ne hq, gI_sI_ne hq]
        show gI σ1 _ _ = _
        rw [e4]
      have τ4 : gI τ (z + 23) 4 = nI m := by rw [← hτ, gI_sI_nk (by decide), gI_sI_eq]
      have τ5 : gI τ (z + 23) 5 = 0 := by rw [← hτ, gI_sI_eq]
      have τL : ∀ q j, gL τ q j = gL σ1 q j := fun q j => by rw [← hτ]; rfl
      have τT : gT τ = gT σ := by rw [← hτ]; exact e2
      have τN : gN τ = gN σ := by rw [← hτ]; exact e3
      have τz : gz τ = gz σ := by rw [← hτ]; exact e1
      have τs : ∀ q, (q < z + 23 ∨ z + 27 < q) → sameC σ τ q := fun q hq => ⟨by rw [τT], by rw [τN], fun j => τI q j (by omega), fun j => by rw [τL, e6 q j (by omega)], fun j => τPn q j (by omega)⟩
      refine hQ τ (hc.elim (fun x => .inr ⟨x.2.1, x.1, x.2.2.2, x.2.2.1⟩) (fun x => .inl ⟨x.2.1, x.1, x.2.2.2, x.2.2.1⟩)) ⟨τP 0, τP 2, τ4, fun p hp => by rw [τL, e6 _ _ (by omega)]; exact w1 p hp, fun j hj => by rw [τI _ _ (by omega)]; exact w2 j hj, w3⟩ ⟨τP 1, τP 3, τ5, fun p hp => ?_, fun j hj => by omega, lst_0 _ _⟩ ?_ τz τs
      · rw [τL]
        rcases e7 p hp with x | ⟨x1, x2⟩
        · exact x
        · rw [x1]
          by_cases y : gL σ (z + a) p = 0
          · exact y
          · obtain ⟨j, hj, ej⟩ := l2 p hp y
            exact absurd ej (x2 j (by omega))
      · have n23 : ∀ q ∈ rfX, q.1 ≠ 23 := by decide
        refine ⟨h.1.same (fun o _ => by rw [τT]) (fun o _ => by rw [τN]) (fun q hq => τPn _ _ (by have := n23 q hq; omega)) (by rw [τz]; exact Nat.le_refl _), fun q hq => ?_⟩
        have x := ce_b q hq
        rw [τI _ _ (by omega)]
        exact h.2 q hq
  · have hik : ¬ k ≤ i := fun c => q ((nI_leI (by omega) (by omega)).mpr c)
    obtain ⟨p, hp, ep⟩ := l1 i (by omega)
    refine e_pl (by omega) ⟨fun q => absurd q (by decide), fun _ => ⟨by rw [e2]; exact t1, z + c, by rw [e5]; exact p2, by rw [e2]; exact t4.1, by rw [e3, t4.2]; exact vp_in_nI (by omega) (by omega), ?_⟩⟩
    rw [nI_clamp (show i < 2 ^ 31 by omega), e4, ep]
    refine e_pl hp ⟨fun q => absurd q (by decide), fun _ => ⟨by rw [e2]; exact t1, z + a, by rw [e5]; exact p0, by rw [e2]; exact t2.1, by rw [e3, t2.2]; exact vp_in_nI (by omega) (by omega), ?_⟩⟩
    rintro _ rfl _ rfl
    rw [nI_clamp (show p < 2 ^ 31 by omega)]
    refine ⟨k - (i + 1), by omega, i + 1, by omega, sc1 i, rfl, e1, e2, e3, e4, e5, fun q j hq => by rw [gL_sL_ne hq]; exact e6 q j hq, fun p' hp' => ?_⟩
    by_cases y : p' = p
    · left
      rw [y, gL_sL_eq]
    · rw [gL_sL_nk y]
      rcases e7 p' hp' with x | ⟨x1, x2⟩
      · exact .inl x
      · refine .inr ⟨x1, fun j hj => ?_⟩
        by_cases c : j = i
        · rw [c, ep]
          exact fun e => y ((nI_eq (by omega) (by omega)).mp e).symm
        · exact x2 j (by omega)
end SP
