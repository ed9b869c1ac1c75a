/-! The best that can be done: the reference. -/
def FL (m : Nat) (σ σ' : Me) : Prop := gL σ' = gL σ ∧ (∀ q j, (q ≠ m ∨ j < 24 ∨ (29 < j ∧ j ≠ 47)) → gI σ' q j = gI σ q j) ∧ FrW m σ σ'
theorem FL.tr {m : Nat} {σ σ' σ'' : Me} (h : FL m σ σ') (h' : FL m σ' σ'') : FL m σ σ'' := ⟨h'.1.trans h.1, fun q j hq => (h'.2.1 q j hq).trans (h.2.1 q j hq), h.2.2.tr h'.2.2⟩
theorem FL.st {m T : Nat} {σ σ' : Me} (h : FL m σ σ') (ht : stT m T σ) : stT m T σ' := ht.fr (h.2.1 m 38 (by omega)) (fun j => h.2.1 _ j (by omega))
set_option maxHeartbeats 1000000 in
theorem M_least {z N T : Nat} {σ : Me} {A : Ab} (h : RM (z + 36) N σ A) (ht : stT (z + 36) T σ) (hN : T ≤ 2000 * N) (hW : WF A) {b : Nat} (hb : b < 4) {t s : Nat} (h5 : t ≤ 5) (hs : VM A s) {U : Nat → Nat} (hUb : ∀ q, U q ≤ 3100 * t * 63 ^ t) (hU : ∀ q, q < 17000 → VB A q → gL σ (z + 36 + 20) q = lN (U (eta A q))) {Q : Int64 → Me → Prop} (hQ : ∀ σ', FL (z + 36) σ σ' → gI σ' (z + 36) 47 = nI (mnA (FB A b U t (eta A s % 25) (eta A s / 25)) 12).2 → Q (lN (mnA (FB A b U t (eta A s % 25) (eta A s / 25)) 12).1) σ') : pX12_leastFrom σ (z + 36) (nI b) (sh (s / 625)) (nI (s / 25 % 25)) (nI (s % 25)) (lN (WN A b ^ t)) Q := by
  have e24 : eta A s % 25 ≤ 24 := by omega
  have fb : ∀ a, a ≤ 12 → FB A b U t (eta A s % 25) (eta A s / 25) a ≤ 1162937141087400 := fun a ha => b6 (t := t + 1) (FB_le hW hb e24 ha hUb (Nat.le_refl _)) (by omega)
  have mb : ∀ a, a ≤ 12 → (mnA (FB A b U t (eta A s % 25) (eta A s / 25)) a).1 ≤ 1162937141087400 := fun a ha => (mnA_le a (fun a' h' => fb a' (by omega))).1
  refine ⟨fun nn σ1 x7 x9 => ∃ a, a ≤ 13 ∧ x9 = nI a ∧ nn = 13 - a ∧ FL (z + 36) σ σ1 ∧ ((a = 0 ∧ x7 = -1) ∨ ∃ a', a = a' + 1 ∧ x7 = lN (mnA (FB A b U t (eta A s % 25) (eta A s / 25)) a').1 ∧ gI σ1 (z + 36) 47 = nI (mnA (FB A b U t (eta A s % 25) (eta A s / 25)) a').2), ?_, 13, 0, by omega, rfl, rfl, ⟨rfl, fun _ _ _ => rfl, .rf⟩, Or.inl ⟨rfl, rfl⟩⟩
  rintro nn σ1 x7 x9 ⟨a, ha, rfl, rfl, g1, g2⟩
  refine ⟨fun q => ?_, fun q => ?_⟩
  · have : 12 < a := (nI_ltI (a := 12) (by omega) (by omega)).mp q
    rcases g2 with ⟨e, -⟩ | ⟨a', e, e7, e47⟩
    · omega
    · have : a' = 12 := by omega
      subst this
      rw [e7]
      exact hQ σ1 g1 e47
  · have ha2 : a ≤ 12 := by
      have : ¬ 12 < a := fun y => q ((nI_ltI (a := 12) (by omega) (by omega)).mpr y)
      omega
    refine ⟨fun nn σ2 x10 x12 => ∃ e, e ≤ 7 ∧ x12 = nI e ∧ nn = 7 - e ∧ FL (z + 36) σ σ2 ∧ x10 = lN (sB A b U t s a e) ∧ gI σ2 (z + 36) 47 = gI σ1 (z + 36) 47, ?_, 7, 0, by omega, rfl, rfl, g1, rfl, rfl⟩
    rintro nn σ2 x10 x12 ⟨e, he, rfl, rfl, k1, rfl, k3⟩
    have hR : RM (z + 36) N σ2 A := h.frW k1.2.2 (k1.st ht) hN
    refine ⟨fun q2 => ?_, fun q2 => ?_⟩
    · have : e = 7 := by
        have := (nI_leI (a := 7) (by omega) (by omega)).mp q2
        omega
      subst this
      rw [sB_7 hW b U t hs ha2]
      have fa := fb a ha2
      have put : ∀ σ3, σ3 = sI σ2 (z + 36) 47 (nI a) → FL (z + 36) σ σ3 ∧ gI σ3 (z + 36) 47 = nI a := by
        rintro σ3 rfl
        refine ⟨k1.tr ⟨rfl, fun q j hq => ?_, frW_0 (by omega)⟩, gI_sI_eq⟩
        by_cases c : q = z + 36
        · exact gI_sI_nk (by omega)
        · exact gI_sI_ne c
      rcases g2 with ⟨e0, rfl⟩ | ⟨a', e0, rfl, e47⟩
      · refine ⟨fun _ => ⟨hR.1.1, ?_⟩, fun q3 => absurd (by decide) q3⟩
        intro σ3 e3
        rintro _ rfl
        obtain ⟨p1, p2⟩ := put σ3 e3
        subst e0
        exact ⟨13 - 1, by omega, 0 + 1, by omega, rfl, rfl, p1, Or.inr ⟨0, rfl, rfl, p2⟩⟩
      · have ma := mb a' (by omega)
        subst e0
        refine ⟨fun q3 => ?_, fun _ => ⟨fun q4 => ?_, fun q4 => ⟨hR.1.1, ?_⟩⟩⟩
        · have := (pk_lLT (b := 0) (by omega) (by omega)).mp q3
          omega
        · have q5 := (pk_lLE (by omega) (by omega)).mp q4
          rintro _ rfl
          refine ⟨13 - (a' + 1 + 1), by omega, a' + 1 + 1, by omega, sc1 _, rfl, k1, Or.inr ⟨a' + 1, rfl, ?_, ?_⟩⟩
          · rw [mnA_s, if_neg (by omega)]
          · rw [mnA_s, if_neg (by omega), k3]
            exact e47
        · have q5 : ¬ (mnA (FB A b U t (eta A s % 25) (eta A s / 25)) a').1 ≤ FB A b U t (eta A s % 25) (eta A s / 25) (a' + 1) := fun y => q4 ((pk_lLE (by omega) (by omega)).mpr y)
          intro σ3 e3
          rintro _ rfl
          obtain ⟨p1, p2⟩ := put σ3 e3
          refine ⟨13 - (a' + 1 + 1), by omega, a' + 1 + 1, by omega, sc1 _, rfl, p1, Or.inr ⟨a' + 1, rfl, ?_, ?_⟩⟩
          · rw [mnA_s, if_pos (by omega)]
          · rw [mnA_s, if_pos (by omega)]
            exact p2
    · have he7 : e < 7 := by
        have : ¬ 7 ≤ e := fun x => q2 ((nI_leI (a := 7) (by omega) (by omega)).mpr x)
        omega
      have r5 := hR.1.row (5, 3, 20, 28) (by decide)
      have we := wN_eq hW hb he7
      rw [ix7]
      refine ⟨hR.1.1, z + 36 + 3, r5.1, r5.2.1, by rw [r5.2.2]; exact show vp_in (nI (7 * b + e)) 28 from vp_in_nI (by omega) (by omega), ?_⟩
      intro x13 e13
      have e13' : x13 = nI (wN A b e) := by
        rw [e13, nI_clamp (by omega), hR.ar (5, 3, 28) (by decide) (show 7 * b + e < 28 by omega)]
        exact we.1
      clear e13
      subst e13'
      have sb1 : sB A b U t s a (e + 1) = sB A b U t s a e + wN A b e * ((opN A a + evN A (xM A (fun _ => a) s) e) * WN A b ^ t + U (eta A (nM A (fun _ => a) s e))) := rfl
      refine ⟨fun q3 => ?_, fun q3 => ?_⟩
      · have w0 : wN A b e = 0 := by
          have := (nI_leI (b := 0) (by omega) (by omega)).mp q3
          omega
        rintro _ rfl
        exact ⟨7 - (e + 1), by omega, e + 1, by omega, sc1 e, rfl, k1, by rw [sb1, w0, Nat.zero_mul, Nat.add_zero], k3⟩
      · refine M_dayR hR hW (cm := cmM A (fun _ => a) s) (n1 := n1M A (fun _ => a) s) (n2 := n2M A (fun _ => a) s) (x := xM A (fun _ => a) s) hs.1 hs.2.1 hs.2.2.1 ha2 he7 rfl rfl rfl rfl (fun σ3 y1 y2 y3 y4 y5 y6 y7 y8 => ?_)
        have f3 : FL (z + 36) σ σ3 := k1.tr ⟨y1.1, fun q j hq => y1.2 q j (by omega), y2⟩
        have hR3 : RM (z + 36) N σ3 A := h.frW f3.2.2 (f3.st ht) hN
        have r45 := hR3.1.row (45, 20, 21, 17000) (by decide)
        have en := eta_n hW hs ha2 e
        have hx24 : xM A (fun _ => a) s ≤ 24 := by
          have := hW.mo
          unfold xM
          omega
        have cb : opN A a + evN A (xM A (fun _ => a) s) e < 2 ^ 31 := by have := op_le hW ha2; have := ev_le hW hx24 he7; omega
        refine ⟨hR3.1.1, z + 36 + 20, r45.1, ?_⟩
        show gT σ3 (z + 36 + 20) = 21 ∧ _
        rw [y3, y4, y5, st_of]
        have hin : vp_in (nI (nM A (fun _ => a) s e)) 17000 := vp_in_nI en.2.1 (by omega)
        refine ⟨r45.2.1, by rw [r45.2.2]; exact hin, ?_⟩
        have eL : gL σ3 (z + 36 + 20) (nI (625 * lfN A (xM A (fun _ => a) s) e + 25 * n1M A (fun _ => a) s + n2M A (fun _ => a) s)).toNatClampNeg = lN (U (eta A (nM A (fun _ => a) s e))) := by
          have e0 : (nI (nM A (fun _ => a) s e)).toNatClampNeg = nM A (fun _ => a) s e := nI_clamp (by have := en.2.1; omega)
          show gL σ3 (z + 36 + 20) (nI (nM A (fun _ => a) s e)).toNatClampNeg = _
          rw [e0, f3.1]
          exact hU _ en.2.1 en.1
        rw [eL, y6, nI_l cb, nI_l (show wN A b e < 2 ^ 31 by omega), lN_mul, lN_add, lN_mul, lN_add]
        rintro _ rfl _ rfl
        exact ⟨7 - (e + 1), by omega, e + 1, by omega, sc1 e, rfl, f3, by rw [sb1], by rw [y1.2 _ 47 (by omega), k3]⟩
