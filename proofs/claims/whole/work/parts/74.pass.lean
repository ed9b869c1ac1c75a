section PF
variable {z : Nat} {σ : Me} {A : Ab}
theorem C_hand (h : RC z σ A) {X : Nat} (hX : X ≤ 24) {Q : Int32 → Me → Prop} (hQ : Q 1 σ) : pX6_isHand σ (sh X) Q := by
  rintro v rfl
  rw [if_neg (show ¬ sh X < -12 by rw [sh_12]; exact fun q => by have := (sh_lt (by omega) (by omega)).mp q; omega), if_neg (show ¬ (12 : Int32) < sh X by rw [show (12 : Int32) = sh 24 by decide]; exact fun q => by have := (sh_lt (by omega) (by omega)).mp q; omega)]
  exact ⟨.inr rfl, hQ⟩
theorem C_from (h : RC z σ A) (hW : WF A) {b X : Nat} (hP : PR z σ A b 25) (hX : X ≤ 24) : (∀ Q : Int32 → Me → Prop, Q (nI (pcN A b X 7)) σ → pX6_priceFrom σ (z + 9) (sh X) Q) ∧ (∀ Q : Int32 → Me → Prop, Q (nI (mtN A b X 7)) σ → pX6_metFrom σ (z + 9) (sh X) Q) ∧ (∀ Q : Int32 → Me → Prop, Q (nI (ihN A b X 7)) σ → pX6_inHandFrom σ (z + 9) (sh X) Q) := by
  have t := (C_shop h hW).1
  have t10 := h.1.tg (10, 20, 25) (by decide)
  have t11 := h.1.tg (11, 20, 25) (by decide)
  have t12 := h.1.tg (12, 20, 25) (by decide)
  have vi : vp_in (nI X) 25 := vp_in_nI (by omega) (by omega)
  have ci : (nI X).toNatClampNeg = X := nI_clamp (by omega)
  obtain ⟨e1, e2, e3⟩ := hP X (by omega)
  refine ⟨fun Q hQ => C_hand h hX ⟨fun q => absurd q (by decide), fun _ => ⟨t, _, h.1.rf (9, 7, 10) (by decide), t10.1, by rw [sh_back, t10.2]; exact vi, ?_⟩⟩, fun Q hQ => C_hand h hX ⟨fun q => absurd q (by decide), fun _ => ⟨t, _, h.1.rf (9, 8, 11) (by decide), t11.1, by rw [sh_back, t11.2]; exact vi, ?_⟩⟩, fun Q hQ => C_hand h hX ⟨fun q => absurd q (by decide), fun _ => ⟨t, _, h.1.rf (9, 9, 12) (by decide), t12.1, by rw [sh_back, t12.2]; exact vi, ?_⟩⟩⟩
  · rw [sh_back, ci]
    exact e1 ▸ hQ
  · rw [sh_back, ci]
    exact e2 ▸ hQ
  · rw [sh_back, ci]
    exact e3 ▸ hQ
theorem C_orderAt (h : RC z σ A) {o : Nat → Nat} (hO : ∀ i, i < 49 → gI σ (z + 29) i = nI (o i)) {i : Nat} (hi : i < 49) {Q : Int32 → Me → Prop} (hQ : Q (nI (o i)) (sI σ (z + 30) i 1)) : pX10_orderAt σ (z + 28) (sh i) Q := by
  have t28 := h.1.tg (28, 10, 0) (by decide)
  have t29 := h.1.tg (29, 20, 49) (by decide)
  have t30 := h.1.tg (30, 22, 49) (by decide)
  have vi : vp_in (nI i) 49 := vp_in_nI hi (by omega)
  have ci : (nI i).toNatClampNeg = i := nI_clamp (by omega)
  have hp : inr (sh i) (-12) 36 := by
    rw [sh_12, show (36 : Int32) = sh 48 by decide]
    exact ⟨(sh_le (by omega) (by omega)).mpr (by omega), (sh_le (by omega) (by omega)).mpr (by omega)⟩
  refine e_isPosition (fun _ => ⟨fun q => absurd q (by decide), fun _ => ⟨t28.1, _, h.1.rf (28, 3, 30) (by decide), t30.1, by rw [sh_back, t30.2]; exact vi, ?_⟩⟩) (fun q => absurd hp q)
  rintro _ rfl
  rw [sh_back, ci]
  refine ⟨_, h.1.rf (28, 2, 29) (by decide), t29.1, by rw [gN_sI, t29.2]; exact vi, ?_⟩
  rw [gI_sI_ne (show z + (28, 2, 29).2.2 ≠ z + (28, 3, 30).2.2 by show z + 29 ≠ z + 30; omega), show gI σ (z + (28, 2, 29).2.2) i = nI (o i) from hO i hi]
  exact hQ
theorem C_pass (hW : WF A) {b : Nat} (hb : b < 4) {o : Nat → Nat} (ho : ∀ i, i < 49 → o i ≤ 12) {u : Int32} (h : WK z σ A b o u) {s m e : Nat} (ha : WA z σ s m e) {ca cb cc cd k n : Nat} {f pl g ql : Nat → Nat} (hc : cfg ca cb cc cd) (hd : TDy z σ ca cc f k pl) (ht : TMo z σ cb cd g n ql) {p : Nat} (hp : p < 481) (hB : ES g n ql (fun _ => 1) + f p * WN A b < 2 ^ 63) {Q : Me → Prop} (hQ : ∀ σ' g' n' ql', WK z σ' A b o u → WA z σ' (s + f p * prN A b o p) (m + f p * maN A b o p) (e + f p * iaN A b o p) → TDy z σ' ca cc f k pl → TMo z σ' cb cd g' n' ql' → (∀ φ, ES g' n' ql' φ = ES g n ql φ + f p * PN A b o u φ p) → FrS z σ σ' → (gI σ' (z + 30) (posN p) = 1 ∧ ∀ i, i ≠ posN p → gI σ' (z + 30) i = gI σ (z + 30) i) → Q σ') : pX10_passFrom σ (z + 28) (nI p) (z + (15 + 2 * b)) (sW A b 7) Q := by
  obtain ⟨h1, h2, h3, h4, h5⟩ := h
  have cbd := hc.b
  have t28 := h1.1.tg (28, 10, 0) (by decide)
  have ts := (C_shop h1 hW).1
  have e18 := (C_shop h1 hW).2.2.1
  have e37 : (37 : Int32) = nI 37 := rfl
  have hpos := pos_lt hp
  have hoP := ho _ hpos
  have hX := xS_le hW o p
  have hWl := WN_le hW hb
  rintro _ rfl _ rfl
  rw [e37, pk_rem (by omega) (by omega) (by omega), pk_div (by omega) (by omega) (by omega), sh_of, sh_add]
  show gT σ (z + 28) = 10 ∧ pX10_orderAt σ (z + 28) (sh (posN p)) _
  refine ⟨t28.1, C_orderAt h1 h3 hpos ⟨t28.1, z + 9, h1.1.rf (28, 0, 9) (by decide), ts, ?_⟩⟩
  rintro _ rfl
  have h1a : RC z (sI σ (z + 30) (posN p) 1) A := h1.sI (o := 30) (by unfold scr; omega) _
  have f1a : FrS z σ (sI σ (z + 30) (posN p) 1) := .sI (by unfold scr; omega) _
  have s1a : ∀ x, 10 ≤ x → x ≤ 29 → sameC σ (sI σ (z + 30) (posN p) 1) (z + x) := fun x _ _ => .sI (by omega)
  have hda := hd.same (by omega) (by omega) (fun x q1 q2 => s1a x (by omega) (by omega))
  have hta := ht.same (by omega) (by omega) (fun x q1 q2 => s1a x (by omega) (by omega))
  have hPa : PR z (sI σ (z + 30) (posN p) 1) A b 25 := fun i hi => by
    rw [(s1a 10 (by omega) (by omega)).2.2.1, (s1a 11 (by omega) (by omega)).2.2.1, (s1a 12 (by omega) (by omega)).2.2.1]
    exact h2 i hi
  have e18a : gI (sI σ (z + 30) (posN p) 1) (z + 9) 1 = A.1 18 0 := (C_shop h1a hW).2.2.1
  have g5 : gL (sI σ (z + 30) (posN p) 1) (z + 28) 5 = lN s := ha.1
  have g6 : gL (sI σ (z + 30) (posN p) 1) (z + 28) 6 = lN m := ha.2.1
  have g7 : gL (sI σ (z + 30) (posN p) 1) (z + 28) 7 = lN e := ha.2.2
  have r30 : gI (sI σ (z + 30) (posN p) 1) (z + 30) (posN p) = 1 ∧ ∀ i, i ≠ posN p → gI (sI σ (z + 30) (posN p) 1) (z + 30) i = gI σ (z + 30) i := ⟨gI_sI_eq, fun i hi => gI_sI_nk hi⟩
  have hO : ∀ i, i < 49 → gI (sI σ (z + 30) (posN p) 1) (z + 29) i = nI (o i) := fun i hi => by rw [(s1a 29 (by omega) (by omega)).2.2.1]; exact h3 i hi
  have h4a : gI (sI σ (z + 30) (posN p) 1) (z + 28) 4 = u := by rw [(s1a 28 (by omega) (by omega)).2.2.1]; exact h4
  have h5a : plX z (sI σ (z + 30) (posN p) 1) := h5.same (.sI (by omega))
  generalize sI σ (z + 30) (posN p) 1 = τ at *
  have t28 := h1a.1.tg (28, 10, 0) (by decide)
  have ts := (C_shop h1a hW).1
  have r28 : gP τ (z + 28) 0 = some (z + 9) := h1a.1.rf (28, 0, 9) (by decide)
  have r281 : gP τ (z + 28) 1 = some (z + 23) := h1a.1.rf (28, 1, 23) (by decide)
  have t23 : gT τ (z + 23) = 8 := (S_tag h1a hc).1
  have ev9 : (if gI τ (z + 9) 1 = 0 then nI (o (posN p)) else (0 : Int32)) = nI (if A.1 18 0 = 0 then o (posN p) else 0) := by
    rw [e18a]
    split <;> rfl
  rw [ev9]
  have hov : (if A.1 18 0 = 0 then o (posN p) else 0) ≤ 12 := by split <;> omega
  refine C_filled h1a hW (by omega) (by omega) ?_
  have exS : min (p % 37 + if A.1 18 0 = 0 then o (posN p) else 0) (moN A + 12) = xS A o p := by
    unfold xS
    split
    · rfl
    · rw [Nat.add_zero]
  rw [exS]
  refine ⟨t28.1, _, r281, t23, S_weightAt h1a hc hda hp ⟨t28.1, _, r28, ts, C_orderPrice h1a hW hoP ⟨t28.1, _, r28, ts, (C_from h1a hW hPa hX).1 _ ⟨t28.1, ?_⟩⟩⟩⟩
  rintro _ rfl
  have b1 := op_le hW hoP
  have b2 := pc_le hW hb hX
  have b3 := mt_le hW hb (X := xS A o p)
  have b4 := ih_le hW hb (X := xS A o p)
  have b5 : WN A b * opN A (o (posN p)) ≤ 63 * 1300 := Nat.mul_le_mul hWl b1
  have epr : (sW A b 7 * nI (opN A (o (posN p))) + nI (pcN A b (xS A o p) 7)).toInt64 = lN (prN A b o p) := by
    rw [sW_eq hW hb 7 (by omega), pk_mul, nI_add, nI_l (by show WN A b * _ + _ < _; omega)]
    rfl
  rw [g5, epr, lN_mul, lN_add]
  refine ⟨_, r28, ts, (C_from (A := A) (b := b) (σ := sL τ (z + 28) 5 _) (h1a.sL _) hW hPa hX).2.1 _ ⟨t28.1, ?_⟩⟩
  rintro _ rfl
  rw [gL_sL_nk (show 6 ≠ 5 by decide), g6, nI_l (by omega), lN_mul, lN_add]
  refine ⟨_, r28, ts, (C_from (A := A) (b := b) (σ := sL (sL τ (z + 28) 5 _) (z + 28) 6 _) ((h1a.sL _).sL _) hW hPa hX).2.2 _ ⟨t28.1, ?_⟩⟩
  rintro _ rfl
  rw [gL_sL_nk (show 7 ≠ 6 by decide), gL_sL_nk (show 7 ≠ 5 by decide), g7, nI_l (by omega), lN_mul, lN_add]
  refine ⟨_, r28, ts, ?_⟩
  have hE : WA z (sL (sL (sL τ (z + 28) 5 (lN (s + f p * prN A b o p))) (z + 28) 6 (lN (m + f p * mtN A b (xS A o p) 7))) (z + 28) 7 (lN (e + f p * ihN A b (xS A o p) 7))) (s + f p * prN A b o p) (m + f p * maN A b o p) (e + f p * iaN A b o p) := ⟨by rw [gL_sL_nk (by decide), gL_sL_nk (by decide), gL_sL_eq], by rw [gL_sL_nk (by decide), gL_sL_eq]; rfl, by rw [gL_sL_eq]; rfl⟩
  have hs2 : ∀ x, x ≠ z + 28 → sameC τ (sL (sL (sL τ (z + 28) 5 (lN (s + f p * prN A b o p))) (z + 28) 6 (lN (m + f p * mtN A b (xS A o p) 7))) (z + 28) 7 (lN (e + f p * ihN A b (xS A o p) 7))) x := fun x hx => .tr (.tr (.sL hx) (.sL hx)) (.sL hx)
  have hI2 : gI (sL (sL (sL τ (z + 28) 5 (lN (s + f p * prN A b o p))) (z + 28) 6 (lN (m + f p * mtN A b (xS A o p) 7))) (z + 28) 7 (lN (e + f p * ihN A b (xS A o p) 7))) = gI τ := rfl
  have hC2 : RC z (sL (sL (sL τ (z + 28) 5 (lN (s + f p * prN A b o p))) (z + 28) 6 (lN (m + f p * mtN A b (xS A o p) 7))) (z + 28) 7 (lN (e + f p * ihN A b (xS A o p) 7))) A := h1a
  have f2 : FrS z τ (sL (sL (sL τ (z + 28) 5 (lN (s + f p * prN A b o p))) (z + 28) 6 (lN (m + f p * mtN A b (xS A o p) 7))) (z + 28) 7 (lN (e + f p * ihN A b (xS A o p) 7))) := ((FrS.sL (by unfold scr; omega) _).tr (.sL (by unfold scr; omega) _)).tr (.sL (by unfold scr; omega) _)
  generalize sL (sL (sL τ (z + 28) 5 (lN (s + f p * prN A b o p))) (z + 28) 6 (lN (m + f p * mtN A b (xS A o p) 7))) (z + 28) 7 (lN (e + f p * ihN A b (xS A o p) 7)) = ρ at *
  have hd2 := hda.same (by omega) (by omega) (fun x _ _ => hs2 (z + x) (by omega))
  have ht2 := hta.same (by omega) (by omega) (fun x _ _ => hs2 (z + x) (by omega))
  have hK2 : WK z ρ A b o u := ⟨hC2, fun i hi => by rw [hI2]; exact hPa i hi, fun i hi => by rw [hI2]; exact hO i hi, by rw [hI2]; exact h4a, h5a.same (hs2 _ (by omega))⟩
  rw [show gI ρ (z + 9) 1 = A.1 18 0 by rw [hI2]; exact e18a, show gI ρ (z + 28) 4 = u by rw [hI2]; exact h4a]
  rintro _ rfl _ rfl _ rfl
  have ecm : (if A.1 18 0 = 2 then nI (p / 37) else if A.1 18 0 = 1 then nI (o (posN p)) else (0 : Int32)) = nI (cmN A o p) := by
    unfold cmN
    split
    · rfl
    · split <;> rfl
  have enc : (if A.1 18 0 = 2 then nI (o (posN p)) else (0 : Int32)) = nI (ncN A o p) := by
    unfold ncN
    split <;> rfl
  have emd : (if u = 0 then (6 : Int32) else if (6 : Int32) < (if sh (xS A o p) < 0 then (0 : Int32) else sh (xS A o p)) then 6 else (if sh (xS A o p) < 0 then (0 : Int32) else sh (xS A o p))) = nI (mdN A o u p) := by
    unfold mdN
    rw [sh_max0 (by omega)]
    split
    · rfl
    · by_cases c : 6 < xS A o p - 12
      · rw [if_pos (show (6 : Int32) < nI (xS A o p - 12) from (lt_c (a := 6) rfl (by omega) (by omega)).mpr c), Nat.min_eq_left (by omega)]
        rfl
      · rw [if_neg (show ¬ (6 : Int32) < nI (xS A o p - 12) from fun q => c ((lt_c (a := 6) rfl (by omega) (by omega)).mp q)), Nat.min_eq_right (by omega)]
  rw [ecm, enc, emd]
  have hmd := md_le A o u p
  refine ⟨fun n2 σ2 w => ∃ d g' n' ql', d ≤ mdN A o u p + 1 ∧ w = nI d ∧ n2 = mdN A o u p + 1 - d ∧ TMo z σ2 cb cd g' n' ql' ∧ (∀ φ, ES g' n' ql' φ = ES g n ql φ + f p * sumN (fun x => wN A b x * φ (nxN A o p x)) d) ∧ FrA z cb cd ρ σ2, ?_, mdN A o u p + 1, 0, g, n, ql, by omega, rfl, rfl, ht2, fun φ => rfl, .rf⟩
  rintro n2 σ2 w ⟨d, g', n', ql', hd9, rfl, rfl, k1, k2, k3⟩
  have hK3 := hK2.frA k3 cbd.1 cbd.2.1
  have hC3 := hK3.1
  refine ⟨fun q => ?_, fun q => ?_⟩
  · have : mdN A o u p < d := (nI_ltI (by omega) (by omega)).mp q
    have ed : d = mdN A o u p + 1 := by omega
    subst ed
    refine hQ σ2 g' n' ql' hK3 (hE.same (fun j => k3.2.2.2.2.2 _ _ (by omega))) (hd2.frA hc k3) k1 k2 ((f1a.tr f2).tr (k3.S cbd.1 cbd.2.1)) ?_
    have x30 : ∀ i, gI σ2 (z + 30) i = gI τ (z + 30) i := fun i => by rw [k3.2.2.2.2.1 _ _ (by omega) (by omega), hI2]
    exact ⟨by rw [x30]; exact r30.1, fun i hi => by rw [x30]; exact r30.2 i hi⟩
  · have hdm : ¬ mdN A o u p < d := fun x => q ((nI_ltI (by omega) (by omega)).mpr x)
    have ts3 := (C_shop hC3 hW).1
    have t283 := (hC3.1.tg (28, 10, 0) (by decide)).1
    refine ⟨t283, _, hC3.1.rf (28, 0, 9) (by decide), ts3, C_leftOf hC3 hW (by omega) (by omega) ⟨t283, _, hC3.1.rf (28, 1, 23) (by decide), ?_⟩⟩
    obtain ⟨n1, n2, n3⟩ := nx_lt hW ho hp (e := d)
    have epl : nI (ncN A o p) * 37 + (sh (lfN A (xS A o p) d) + nI (cmN A o p)) - (-12) = nI (nxN A o p d) := by
      rw [e37, pk_mul, sh_add]
      unfold sh nxN
      rw [iI_12, iI_n, iI_n, iI_add, iI_sub]
      congr 1
      omega
    have wv := wN_eq hW hb (show d < 7 by omega)
    show gT σ2 (z + (15 + 2 * b)) = 1 ∧ _
    rw [epl]
    refine ⟨(C_book1 hC3 hb).1, C_weightOf hC3 hb (by omega) ⟨(S_tag hC3 hc).1, ?_⟩⟩
    rw [wv.1, nI_l (by omega), lN_mul]
    have pre : sumN (wN A b) (d + 1) ≤ WN A b := sumN_pre (wN A b) 7 (d + 1) (by omega)
    have pre2 : f p * sumN (wN A b) (d + 1) ≤ f p * WN A b := Nat.mul_le_mul_left _ pre
    have e1 : ES g' n' ql' (fun _ => 1) = ES g n ql (fun _ => 1) + f p * sumN (wN A b) d := by
      rw [k2 (fun _ => 1), sumN_cg d (fun i _ => Nat.mul_one (wN A b i))]
    have e2 : f p * sumN (wN A b) (d + 1) = f p * sumN (wN A b) d + f p * wN A b d := Nat.mul_add _ _ _
    refine S_add hC3 hc k1 n3 (by omega) (fun σ4 g4 n4 ql4 m1 m2 m3 => ?_)
    rintro _ rfl
    refine ⟨mdN A o u p + 1 - (d + 1), by omega, d + 1, g4, n4, ql4, by omega, sc1 d, rfl, m1, fun φ => ?_, k3.tr m3⟩
    rw [m2 φ, k2 φ]
    show _ = _ + f p * (sumN (fun x => wN A b x * φ (nxN A o p x)) d + wN A b d * φ (nxN A o p d))
    rw [Nat.mul_add, Nat.mul_assoc]
    omega
end PF
