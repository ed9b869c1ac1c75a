/-! What spoils: the class. -/
def YK (z : Nat) (σ : Me) (A : Ab) (nw : Int32) (ag s : Nat) : Prop := RC z σ A ∧ gI σ (z + 34) 2 = nI s ∧ gI σ (z + 34) 3 = nI ag ∧ gI σ (z + 34) 4 = nw ∧ plX z σ
theorem YK.same {z : Nat} {σ σ' : Me} {A : Ab} {nw : Int32} {ag s : Nat} (h : YK z σ A nw ag s) (hc : RC z σ' A) (h1 : ∀ j, gI σ' (z + 34) j = gI σ (z + 34) j) (h2 : sameC σ σ' (z + 31)) : YK z σ' A nw ag s := ⟨hc, by rw [h1]; exact h.2.1, by rw [h1]; exact h.2.2.1, by rw [h1]; exact h.2.2.2.1, h.2.2.2.2.same h2⟩
def VX (ag s p : Nat) : Prop := p % 13 + p / 13 ≤ s ∧ (ag ≤ 1 → p % 13 = 0) ∧ (ag ≤ 2 → p / 13 = 0)
theorem nG_v (nw : Int32) {ag s p : Nat} (hs : s ≤ 12) (h : VX ag s p) (d : Nat) : VX ag s (nG nw ag s (p % 13) (p / 13) d) := by
  have l := lG_le nw (d := d) h.1
  have h1 := h.1
  have b1 : (if ag ≤ 1 then 0 else lG nw s (p % 13) (p / 13) d 0) ≤ s - p % 13 - p / 13 := by split <;> omega
  have b2 : (if ag ≤ 2 then 0 else lG nw s (p % 13) (p / 13) d 1) ≤ p % 13 := by split <;> omega
  have d1 : nG nw ag s (p % 13) (p / 13) d % 13 = (if ag ≤ 1 then 0 else lG nw s (p % 13) (p / 13) d 0) := by unfold nG; omega
  have d2 : nG nw ag s (p % 13) (p / 13) d / 13 = (if ag ≤ 2 then 0 else lG nw s (p % 13) (p / 13) d 1) := by unfold nG; omega
  exact ⟨by omega, fun c => by rw [d1, if_pos c], fun c => by rw [d2, if_pos c]⟩
theorem PGn_1 (A : Ab) (b : Nat) (nw : Int32) (ag s p : Nat) : ∀ n, PGn A b nw ag s (fun _ => 1) p n = sumN (wN A b) n := fun n => sumN_cg n (fun e _ => Nat.mul_one _)
theorem in30 : vp_in (0 : Int32) 3 := vp_in_nI (show 0 < 3 by omega) (by omega)
theorem in31 : vp_in (1 : Int32) 3 := vp_in_nI (show 1 < 3 by omega) (by omega)
theorem in32 : vp_in (2 : Int32) 3 := vp_in_nI (show 2 < 3 by omega) (by omega)
section XS
variable {z : Nat} {σ : Me} {A : Ab}
theorem Y_tag (h : RC z σ A) : gT σ (z + 34) = 7 ∧ gP σ (z + 34) 0 = some (z + 23) ∧ gP σ (z + 34) 1 = some (z + 35) ∧ gT σ (z + 35) = 20 ∧ gN σ (z + 35) = 3 ∧ gT σ (z + 23) = 8 := ⟨(h.1.tg (34, 7, 0) (by decide)).1, h.1.rf (34, 0, 23) (by decide), h.1.rf (34, 1, 35) (by decide), (h.1.tg (35, 20, 3) (by decide)).1, (h.1.tg (35, 20, 3) (by decide)).2, (h.1.tg (23, 8, 0) (by decide)).1⟩
theorem C_give (h : RC z σ A) {nw : Int32} {ag d : Nat} {p : Nat → Nat} (h1 : 1 ≤ ag) (h3 : ag ≤ 3) (ha : gI σ (z + 34) 3 = nI ag) (hn : gI σ (z + 34) 4 = nw) (hd : d < 100) (hp : ∀ j, p j < 100) (hq : ∀ j, j < 3 → gI σ (z + 35) j = nI (p j)) {Q : Me → Prop} (hQ : ∀ σ', RC z σ' A → FrC z 35 35 σ σ' → (∀ j, j < 3 → gI σ' (z + 35) j = nI ((gs (eX nw ag) d p ag).2 j)) → Q σ') : pX7_give σ (z + 34) (nI d) Q := by
  refine ⟨fun nn σ1 x2 x3 => ∃ k, k ≤ ag ∧ x3 = nI k ∧ nn = ag - k ∧ x2 = nI (gs (eX nw ag) d p k).1 ∧ RC z σ1 A ∧ FrC z 35 35 σ σ1 ∧ ∀ j, j < 3 → gI σ1 (z + 35) j = nI ((gs (eX nw ag) d p k).2 j), ?_, ag, 0, by omega, rfl, rfl, rfl, h, .rf, hq⟩
  rintro nn σ1 x2 x3 ⟨k, hk, rfl, rfl, rfl, g1, g2, g3⟩
  obtain ⟨t1, t2, t3, t4, t5, t6⟩ := Y_tag g1
  have s34 := g2.2 (z + 34) (by omega)
  refine ⟨t1, ?_⟩
  rw [s34.2.2.1, s34.2.2.1, ha, hn]
  refine ⟨fun q => ?_, fun q => ?_⟩
  · have : k = ag := by
      have := (nI_leI (by omega) (by omega)).mp q
      omega
    subst this
    exact hQ σ1 g1 g2 g3
  · have hk2 : k < ag := by
      have : ¬ ag ≤ k := fun x => q ((nI_leI (by omega) (by omega)).mpr x)
      omega
    have le := gs_le (eX nw ag) d p k
    have ek3 : eX nw ag k < 3 := by unfold eX; split <;> omega
    have le2 := le.2 (eX nw ag k)
    have hpk := hp (eX nw ag k)
    intro v6 e6
    have e6' : v6 = nI (eX nw ag k) := by
      rw [e6]
      unfold eX
      by_cases c : nw = 0
      · rw [if_pos c, if_pos c, show (1 : Int32) = nI 1 by decide, nI_sb (by omega), nI_sb (by omega)]
      · rw [if_neg c, if_neg c]
    clear e6
    subst e6'
    have hin : vp_in (nI (eX nw ag k)) 3 := vp_in_nI ek3 (by omega)
    refine ⟨z + 35, t3, t4, by rw [t5]; exact hin, ?_⟩
    rw [nI_clamp (show eX nw ag k < 2 ^ 31 by omega), g3 _ ek3]
    intro x5 e5
    have e5' : x5 = nI (min (gs (eX nw ag) d p k).1 ((gs (eX nw ag) d p k).2 (eX nw ag k))) := by
      rw [e5]
      by_cases c : (gs (eX nw ag) d p k).2 (eX nw ag k) < (gs (eX nw ag) d p k).1
      · rw [if_pos (nI_lt c (by omega)), Nat.min_eq_right (by omega)]
      · rw [if_neg (fun q => c ((nI_ltI (by omega) (by omega)).mp q)), Nat.min_eq_left (by omega)]
    clear e5
    subst e5'
    refine ⟨by rw [t5]; exact hin, by rw [t5]; exact hin, ?_⟩
    rw [nI_sb (by omega), nI_sb (by omega)]
    rintro _ rfl _ rfl _ rfl
    refine ⟨ag - (k + 1), by omega, k + 1, by omega, sc1 k, rfl, ?_, g1.sI (o := 35) (by unfold scr; omega) _, g2.tr (.sI (by omega) (by omega) _), fun j hj => ?_⟩
    · show _ = nI ((gs (eX nw ag) d p k).1 - (gs (eX nw ag) d p k).2 (eX nw ag k))
      congr 1
      omega
    · show _ = nI (if j = eX nw ag k then (gs (eX nw ag) d p k).2 j - (gs (eX nw ag) d p k).1 else (gs (eX nw ag) d p k).2 j)
      by_cases c : j = eX nw ag k
      · rw [if_pos c, c, gI_sI_eq]
        congr 1
        omega
      · rw [if_neg c, gI_sI_nk c]
        exact g3 j hj
set_option maxHeartbeats 1000000 in
theorem C_passS (hW : WF A) {b : Nat} (hb : b < 4) {nw : Int32} {ag s c : Nat} (hs : s ≤ 12) (h1 : 1 ≤ ag) (h3 : ag ≤ 3) (h : YK z σ A nw ag s) (h5 : gL σ (z + 34) 5 = lN c) {ca cb cc cd k n : Nat} {f pl g ql : Nat → Nat} (hc : cfg ca cb cc cd) (hd : TDy z σ ca cc f k pl) (ht : TMo z σ cb cd g n ql) {p : Nat} (hp : p < 481) (hv : VX ag s p) (hB : ES g n ql (fun _ => 1) + f p * WN A b < 2 ^ 63) {Q : Me → Prop} (hQ : ∀ σ' g' n' ql', YK z σ' A nw ag s → gL σ' (z + 34) 5 = lN (c + f p * spG A b nw ag s p) → TDy z σ' ca cc f k pl → TMo z σ' cb cd g' n' ql' → (∀ φ, ES g' n' ql' φ = ES g n ql φ + f p * PG A b nw ag s φ p) → FrS z σ σ' → Q σ') : pX7_passFrom σ (z + 34) (nI p) (z + (15 + 2 * b)) Q := by
  have cbd := hc.b
  refine ⟨fun nn σ1 w => ∃ e g' n' ql', e ≤ 7 ∧ w = nI e ∧ nn = 7 - e ∧ YK z σ1 A nw ag s ∧ gL σ1 (z + 34) 5 = lN (c + f p * spn A b nw ag s p e) ∧ TDy z σ1 ca cc f k pl ∧ TMo z σ1 cb cd g' n' ql' ∧ (∀ φ, ES g' n' ql' φ = ES g n ql φ + f p * PGn A b nw ag s φ p e) ∧ FrS z σ σ1, ?_, 7, 0, g, n, ql, by omega, rfl, rfl, h, h5, hd, ht, fun φ => rfl, .rf⟩
  rintro nn σ1 w ⟨e, g', n', ql', he, rfl, rfl, w1, w2, w3, w4, w5, w6⟩
  refine ⟨fun q => ?_, fun q => ?_⟩
  · have : e = 7 := by
      have := (nI_leI (a := 7) (by omega) (by omega)).mp q
      omega
    subst this
    exact hQ σ1 g' n' ql' w1 w2 w3 w4 w5 w6
  · have he7 : e < 7 := by
      have : ¬ 7 ≤ e := fun x => q ((nI_leI (a := 7) (by omega) (by omega)).mpr x)
      omega
    have hC := w1.1
    obtain ⟨t1, t2, t3, t4, t5, t6⟩ := Y_tag hC
    have we := wN_eq hW hb he7
    have wle : wN A b e ≤ WN A b := sumN_ge (wN A b) 7 e he7
    have fle : f p * wN A b e ≤ f p * WN A b := Nat.mul_le_mul_left _ wle
    have ps1 : ∀ φ : Nat → Nat, PGn A b nw ag s φ p (e + 1) = PGn A b nw ag s φ p e + wN A b e * φ (nG nw ag s (p % 13) (p / 13) e) := fun φ => rfl
    have sp1 : spn A b nw ag s p (e + 1) = spn A b nw ag s p e + wN A b e * lG nw s (p % 13) (p / 13) e (ag - 1) := rfl
    refine ⟨t1, z + 23, t2, t6, S_weightAt hC hc w3 hp ⟨(C_book1 hC hb).1, C_weightOf hC hb he7 ?_⟩⟩
    rw [we.1, nI_l (by omega), lN_mul]
    rintro _ rfl
    refine ⟨fun q2 => ?_, fun q2 => ⟨t1, z + 35, t3, t4, by rw [t5]; exact in31, ?_⟩⟩
    · have w0 : f p * wN A b e = 0 := (pk_lEQ (b := 0) (by omega) (by omega)).mp q2
      rintro _ rfl
      refine ⟨7 - (e + 1), by omega, e + 1, g', n', ql', by omega, sc1 e, rfl, w1, ?_, w3, w4, fun φ => ?_, w6⟩
      · rw [w2, sp1, Nat.mul_add, ← Nat.mul_assoc, w0, Nat.zero_mul, Nat.add_zero]
      · rw [w5 φ, ps1, Nat.mul_add, ← Nat.mul_assoc (f p), w0, Nat.zero_mul, Nat.add_zero]
    · intro σ57 e57
      rw [show ((1 : Int32)).toNatClampNeg = 1 by decide, show (13 : Int32) = nI 13 by decide, pk_rem (by omega) (by omega) (by omega)] at e57
      refine ⟨by rw [e57, gN_sI, t5]; exact in32, ?_⟩
      intro σ59 e59
      rw [show ((2 : Int32)).toNatClampNeg = 2 by decide, show (13 : Int32) = nI 13 by decide, pk_div (by omega) (by omega) (by omega)] at e59
      have n59 : gN σ59 (z + 35) = 3 := by rw [e59, gN_sI, e57, gN_sI, t5]
      refine ⟨by rw [n59]; exact in31, by rw [n59]; exact in32, by rw [n59]; exact in30, ?_⟩
      intro σ63 e63
      rw [show ((0 : Int32)).toNatClampNeg = 0 by decide, show ((1 : Int32)).toNatClampNeg = 1 by decide, show ((2 : Int32)).toNatClampNeg = 2 by decide, show gI σ59 (z + 35) 2 = nI (p / 13) by rw [e59, gI_sI_eq], show gI σ59 (z + 35) 1 = nI (p % 13) by rw [e59, gI_sI_nk (by decide), e57, gI_sI_eq], show gI σ59 (z + 34) 2 = nI s by rw [e59, gI_sI_ne (by omega), e57, gI_sI_ne (by omega)]; exact w1.2.1, nI_sb (by have := hv.1; omega), nI_sb (by have := hv.1; omega)] at e63
      have f63 : FrC z 35 35 σ1 σ63 := by
        rw [e63, e59, e57]
        exact ((FrC.sI (by omega) (by omega) _).tr (.sI (by omega) (by omega) _)).tr (.sI (by omega) (by omega) _)
      have c63 : RC z σ63 A := by
        rw [e63, e59, e57]
        exact ((hC.sI (o := 35) (by unfold scr; omega) _).sI (o := 35) (by unfold scr; omega) _).sI (o := 35) (by unfold scr; omega) _
      have q63 : ∀ j, j < 3 → gI σ63 (z + 35) j = nI (p3 s (p % 13) (p / 13) j) := fun j hj => by
        have : j = 0 ∨ j = 1 ∨ j = 2 := by omega
        rcases this with rfl | rfl | rfl
        · rw [e63, gI_sI_eq]
          rfl
        · rw [e63, gI_sI_nk (by decide), e59, gI_sI_nk (by decide), e57, gI_sI_eq]
          rfl
        · rw [e63, gI_sI_nk (by decide), e59, gI_sI_eq]
          rfl
      have s63 := f63.2 (z + 34) (by omega)
      refine C_give (nw := nw) c63 h1 h3 (by rw [s63.2.2.1]; exact w1.2.2.1) (by rw [s63.2.2.1]; exact w1.2.2.2.1) (by omega) (fun j => by unfold p3; split <;> (try split) <;> (try split) <;> omega) q63 (fun σ65 c65 f65 q65 => ?_)
      have f65' : FrC z 35 35 σ1 σ65 := f63.tr f65
      obtain ⟨u1, u2, u3, u4, u5, u6⟩ := Y_tag c65
      have s65 := f65'.2 (z + 34) (by omega)
      have z0 : ∀ j, ag ≤ j → p3 s (p % 13) (p / 13) j = 0 := fun j hj => by
        unfold p3
        rw [if_neg (by omega)]
        split
        · exact hv.2.1 (by omega)
        · split
          · exact hv.2.2 (by omega)
          · rfl
      have q65' : ∀ j, j < 3 → gI σ65 (z + 35) j = nI (lG nw s (p % 13) (p / 13) e j) := fun j hj => by
        rw [q65 j hj, gs_eq nw h1 h3 z0 j hj]
        rfl
      have a3 : gI σ65 (z + 34) 3 = nI ag := by rw [s65.2.2.1]; exact w1.2.2.1
      have l40 : ∀ j, lG nw s (p % 13) (p / 13) e j ≤ 40 := fun j => lG_40 nw hs hp
      have ea : gI σ65 (z + 34) 3 - (1 : Int32) = nI (ag - 1) := by
        rw [a3, show (1 : Int32) = nI 1 by decide, nI_sb h1]
      refine ⟨u1, z + 35, u3, u4, by rw [ea, u5]; exact vp_in_nI (by omega) (by omega), ?_⟩
      rw [ea, nI_clamp (show ag - 1 < 2 ^ 31 by omega), q65' _ (by omega), nI_l (by have := l40 (ag - 1); omega), lN_mul, s65.2.2.2.1, w2, lN_add]
      intro σ70 e70
      have c70 : RC z σ70 A := by rw [e70]; exact c65
      have i70 : gI σ70 = gI σ65 := by rw [e70, gI_sL]
      have k70 : gL σ70 (z + 34) 5 = lN (c + f p * spn A b nw ag s p (e + 1)) := by
        rw [e70, gL_sL_eq, sp1, Nat.mul_add, Nat.mul_assoc, Nat.add_assoc]
      have f70 : FrC z 34 35 σ1 σ70 := by
        rw [e70]
        exact (f65'.up (by omega) (by omega)).tr (.sL (by omega) (by omega) _)
      obtain ⟨x1, x2, x3, x4, x5, x6⟩ := Y_tag c70
      have y70 : YK z σ70 A nw ag s := w1.same c70 (fun j => by rw [i70]; exact s65.2.2.1 j) (f70.2 _ (by omega))
      have d70 := w3.same (by omega) (by omega) (fun x _ _ => f70.2 (z + x) (by omega))
      have m70 := w4.same (by omega) (by omega) (fun x _ _ => f70.2 (z + x) (by omega))
      have fin : pX8_add σ70 (z + 23) (nI (nG nw ag s (p % 13) (p / 13) e)) (lN (f p * wN A b e)) (fun σ85 => ∀ x3 : Int32, x3 = nI e + 1 → ∃ m2 : Nat, m2 < 7 - e ∧ ∃ e1 g' n' ql', e1 ≤ 7 ∧ x3 = nI e1 ∧ m2 = 7 - e1 ∧ YK z σ85 A nw ag s ∧ gL σ85 (z + 34) 5 = lN (c + f p * spn A b nw ag s p e1) ∧ TDy z σ85 ca cc f k pl ∧ TMo z σ85 cb cd g' n' ql' ∧ (∀ φ, ES g' n' ql' φ = ES g n ql φ + f p * PGn A b nw ag s φ p e1) ∧ FrS z σ σ85) := by
        refine S_add c70 hc m70 (nG_lt nw hs) ?_ (fun σ2 g2 n2 ql2 v1 v2 v3 => ?_)
        · rw [w5, PGn_1]
          have a1 : sumN (wN A b) (e + 1) ≤ WN A b := sumN_pre (wN A b) 7 (e + 1) (by omega)
          have a2 : f p * sumN (wN A b) (e + 1) ≤ f p * WN A b := Nat.mul_le_mul_left _ a1
          have a3 : f p * sumN (wN A b) (e + 1) = f p * sumN (wN A b) e + f p * wN A b e := by
            rw [← Nat.mul_add]
            rfl
          omega
        · rintro _ rfl
          have sA : ∀ q, (q < z + 23 ∨ z + 27 < q) → sameC σ70 σ2 q := fun q hq => v3.same cbd.1 cbd.2.1 hq
          refine ⟨7 - (e + 1), by omega, e + 1, g2, n2, ql2, by omega, sc1 e, rfl, y70.same (c70.frA v3 cbd.1 cbd.2.1) (fun j => (sA _ (by omega)).2.2.1 j) (sA _ (by omega)), by rw [(sA _ (by omega)).2.2.2.1]; exact k70, d70.frA hc v3, v1, fun φ => ?_, (w6.tr (f70.S (fun o h1 h2 => by unfold scr; omega))).tr (v3.S cbd.1 cbd.2.1)⟩
          rw [v2 φ, w5 φ, ps1, Nat.mul_add, Nat.mul_assoc, Nat.add_assoc]
      have eN : nI (if ag ≤ 2 then 0 else lG nw s (p % 13) (p / 13) e 1) * (13 : Int32) + nI (if ag ≤ 1 then 0 else lG nw s (p % 13) (p / 13) e 0) = nI (nG nw ag s (p % 13) (p / 13) e) := by
        rw [show (13 : Int32) = nI 13 by decide, pk_mul, nI_add]
        rfl
      refine ⟨fun σ73 v => σ73 = σ70 ∧ v = nI (if ag ≤ 1 then 0 else lG nw s (p % 13) (p / 13) e 0), ?_, fun q3 => ⟨rfl, ?_⟩, fun q3 => ⟨by rw [e70, gN_sL, u5]; exact in30, rfl, ?_⟩⟩
      · rintro σ73 v ⟨es, rfl⟩
        rw [es]
        refine ⟨x1, fun σ80 v => σ80 = σ70 ∧ v = nI (if ag ≤ 2 then 0 else lG nw s (p % 13) (p / 13) e 1), ?_, fun q3 => ⟨rfl, ?_⟩, fun q3 => ⟨z + 35, x3, x4, by rw [x5]; exact in31, rfl, ?_⟩⟩
        · rintro σ80 v ⟨es2, rfl⟩
          rw [es2, eN]
          exact ⟨x1, z + 23, x2, x6, fin⟩
        · rw [y70.2.2.1] at q3
          rw [if_pos ((nI_leI (b := 2) (by omega) (by omega)).mp q3)]
          rfl
        · rw [y70.2.2.1] at q3
          rw [if_neg (fun y => q3 (nI_le (b := 2) y (by omega))), show ((1 : Int32)).toNatClampNeg = 1 by decide, i70]
          exact q65' 1 (by omega)
      · rw [y70.2.2.1] at q3
        rw [if_pos ((nI_leI (b := 1) (by omega) (by omega)).mp q3)]
        rfl
      · rw [y70.2.2.1] at q3
        rw [if_neg (fun y => q3 (nI_le (b := 1) y (by omega))), show ((0 : Int32)).toNatClampNeg = 0 by decide, i70]
        exact q65' 0 (by omega)
end XS
