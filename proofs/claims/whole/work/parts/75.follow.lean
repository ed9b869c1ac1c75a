/-! A rule is followed: a day, all days. -/
def ind (i p : Nat) : Nat := if posN p = i then 1 else 0
theorem ES_le {f pl φ : Nat → Nat} {c : Nat} : ∀ k, (∀ i, i < k → φ (pl i) ≤ c) → ES f k pl φ ≤ ES f k pl (fun _ => 1) * c
  | 0, _ => by unfold ES sumN; omega
  | k + 1, h => by
    have h1 := ES_le k (fun i hi => h i (by omega)) (f := f)
    show ES f k pl φ + f (pl k) * φ (pl k) ≤ (ES f k pl (fun _ => 1) + f (pl k) * 1) * c
    have h2 : f (pl k) * φ (pl k) ≤ f (pl k) * c := Nat.mul_le_mul_left _ (h k (by omega))
    rw [Nat.add_mul, Nat.mul_one]
    omega
theorem PN_le {A : Ab} (hW : WF A) {b : Nat} (hb : b < 4) {o : Nat → Nat} (ho : ∀ i, i < 49 → o i ≤ 12) (u : Int32) {φ : Nat → Nat} {c : Nat} (h : ∀ p, p < 481 → φ p ≤ c) {p : Nat} (hp : p < 481) : PN A b o u φ p ≤ WN A b * c := by
  have h1 : PN A b o u φ p ≤ sumN (fun e => c * wN A b e) (mdN A o u p + 1) := sumN_mono _ (fun e _ => by
    rw [Nat.mul_comm c]
    exact Nat.mul_le_mul_left _ (h _ (nx_lt hW ho hp).2.2))
  rw [sumN_mul] at h1
  have h2 : sumN (wN A b) (mdN A o u p + 1) ≤ WN A b := sumN_pre (wN A b) 7 _ (by have := md_le A o u p; omega)
  have h3 : c * sumN (wN A b) (mdN A o u p + 1) ≤ c * WN A b := Nat.mul_le_mul_left _ h2
  rw [Nat.mul_comm (WN A b)]
  omega
theorem pw_le {A : Ab} (hW : WF A) {b : Nat} (hb : b < 4) {o : Nat → Nat} (ho : ∀ i, i < 49 → o i ≤ 12) (u : Int32) : ∀ t {φ : Nat → Nat} {c : Nat}, (∀ p, p < 481 → φ p ≤ c) → ∀ p, p < 481 → pw (PN A b o u) t φ p ≤ c * 63 ^ t
  | 0, φ, c, h, p, hp => by
    show φ p ≤ c * 1
    have := h p hp
    omega
  | t + 1, φ, c, h, p, hp => by
    have h1 := pw_le hW hb ho u t (φ := PN A b o u φ) (c := c * 63) (fun p hp => by
      have a := PN_le hW hb ho u h hp
      have w := WN_le hW hb
      have m : WN A b * c ≤ 63 * c := Nat.mul_le_mul_right _ w
      rw [Nat.mul_comm c]
      omega) p hp
    show pw (PN A b o u) t (PN A b o u φ) p ≤ c * 63 ^ (t + 1)
    rw [Nat.pow_succ, Nat.mul_comm (63 ^ t), ← Nat.mul_assoc]
    exact h1
theorem ac_le {A : Ab} (hW : WF A) {b : Nat} (hb : b < 4) {o : Nat → Nat} (ho : ∀ i, i < 49 → o i ≤ 12) (u : Int32) {ψ : Nat → Nat} {c : Nat} (h : ∀ p, p < 481 → ψ p ≤ c) {p : Nat} (hp : p < 481) : ∀ t, ac (PN A b o u) (WN A b) ψ p t ≤ c * t * 63 ^ t
  | 0 => by unfold ac; omega
  | t + 1 => by
    have h1 := ac_le hW hb ho u h hp t
    have h2 := pw_le hW hb ho u t h p hp
    have w := WN_le hW hb
    show ac (PN A b o u) (WN A b) ψ p t * WN A b + pw (PN A b o u) t ψ p ≤ c * (t + 1) * 63 ^ (t + 1)
    have h3 : ac (PN A b o u) (WN A b) ψ p t * WN A b ≤ c * t * 63 ^ t * 63 := Nat.mul_le_mul h1 w
    have e1 : c * (t + 1) * 63 ^ (t + 1) = c * t * 63 ^ t * 63 + c * 63 ^ t * 63 := by
      rw [Nat.pow_succ, Nat.mul_add, Nat.mul_one, Nat.add_mul, ← Nat.mul_assoc, ← Nat.mul_assoc]
    omega
theorem pr_le {A : Ab} (hW : WF A) {b : Nat} (hb : b < 4) {o : Nat → Nat} (ho : ∀ i, i < 49 → o i ≤ 12) {p : Nat} (hp : p < 481) : prN A b o p ≤ 195300 := by
  have h1 : WN A b * opN A (o (posN p)) ≤ 63 * 1300 := Nat.mul_le_mul (WN_le hW hb) (op_le hW (ho _ (pos_lt hp)))
  have h2 := pc_le hW hb (xS_le hW o p)
  unfold prN
  omega
theorem ac6 {c t a : Nat} (h : a ≤ c * t * 63 ^ t) (hc : c ≤ 195300) (ht : t ≤ 6) : a ≤ 195300 * 6 * 62523502209 := by
  have h1 : c * t * 63 ^ t ≤ 195300 * 6 * 63 ^ 6 := Nat.mul_le_mul (Nat.mul_le_mul hc ht) (Nat.pow_le_pow_right (by omega) ht)
  omega
section FO
variable {z : Nat} {σ : Me} {A : Ab}
theorem C_day (hW : WF A) {b : Nat} (hb : b < 4) {o : Nat → Nat} (ho : ∀ i, i < 49 → o i ≤ 12) {u : Int32} (h : WK z σ A b o u) {s m e : Nat} (ha : WA z σ s m e) {ca cb cc cd k : Nat} {f pl ql0 : Nat → Nat} (hc : cfg ca cb cc cd) (hd : TDy z σ ca cc f k pl) (ht : TMo z σ cb cd (fun _ => 0) 0 ql0) (hB : ES f k pl (fun _ => 1) * WN A b < 2 ^ 63) {Q : Me → Prop} (hQ : ∀ σ' g n ql, cfg cb ca cd cc → WK z σ' A b o u → WA z σ' (s * WN A b + ES f k pl (prN A b o)) (m * WN A b + ES f k pl (maN A b o)) (e * WN A b + ES f k pl (iaN A b o)) → TDy z σ' cb cd g n ql → TMo z σ' ca cc (fun _ => 0) 0 ql → (∀ φ, ES g n ql φ = ES f k pl (PN A b o u φ)) → FrS z σ σ' → (∀ i, gI σ' (z + 30) i = 0 → gI σ (z + 30) i = 0 ∧ ES f k pl (ind i) = 0) → Q σ') : pX10_passDay σ (z + 28) (z + (15 + 2 * b)) Q := by
  have cbd := hc.b
  have hWl := WN_le hW hb
  have hC := h.1
  have eW : (sW A b 7).toInt64 = lN (WN A b) := by
    rw [sW_eq hW hb 7 (by omega)]
    exact nI_l (by unfold WN at hWl; omega)
  have hkl := lst_le hd.2.2.2.2.2
  refine ⟨(C_book1 hC hb).1, C_all hC hb ⟨(hC.1.tg (28, 10, 0) (by decide)).1, ?_⟩⟩
  rintro _ rfl _ rfl _ rfl
  rw [eW, ha.1, gL_sL_nk (show 6 ≠ 5 by decide), ha.2.1, gL_sL_nk (show 7 ≠ 6 by decide), gL_sL_nk (show 7 ≠ 5 by decide), ha.2.2, lN_mul, lN_mul, lN_mul]
  have a1 : WA z (sL (sL (sL σ (z + 28) 5 (lN (s * WN A b))) (z + 28) 6 (lN (m * WN A b))) (z + 28) 7 (lN (e * WN A b))) (s * WN A b) (m * WN A b) (e * WN A b) := ⟨by rw [gL_sL_nk (by decide), gL_sL_nk (by decide), gL_sL_eq], by rw [gL_sL_nk (by decide), gL_sL_eq], by rw [gL_sL_eq]⟩
  have s1 : ∀ x, x ≠ z + 28 → sameC σ (sL (sL (sL σ (z + 28) 5 (lN (s * WN A b))) (z + 28) 6 (lN (m * WN A b))) (z + 28) 7 (lN (e * WN A b))) x := fun x hx => .tr (.tr (.sL hx) (.sL hx)) (.sL hx)
  have k1 : WK z (sL (sL (sL σ (z + 28) 5 (lN (s * WN A b))) (z + 28) 6 (lN (m * WN A b))) (z + 28) 7 (lN (e * WN A b))) A b o u := ⟨hC, h.2.1, h.2.2.1, h.2.2.2.1, h.2.2.2.2.same (s1 _ (by omega))⟩
  have f1 : FrS z σ (sL (sL (sL σ (z + 28) 5 (lN (s * WN A b))) (z + 28) 6 (lN (m * WN A b))) (z + 28) 7 (lN (e * WN A b))) := ((FrS.sL (by unfold scr; omega) _).tr (.sL (by unfold scr; omega) _)).tr (.sL (by unfold scr; omega) _)
  generalize sL (sL (sL σ (z + 28) 5 (lN (s * WN A b))) (z + 28) 6 (lN (m * WN A b))) (z + 28) 7 (lN (e * WN A b)) = τ at *
  have d1 := hd.same (by omega) (by omega) (fun x _ _ => s1 (z + x) (by omega))
  have t1 := ht.same (by omega) (by omega) (fun x _ _ => s1 (z + x) (by omega))
  refine ⟨fun nn σ1 w => ∃ j g n ql, j ≤ k ∧ w = nI j ∧ nn = k - j ∧ WK z σ1 A b o u ∧ WA z σ1 (s * WN A b + ES f j pl (prN A b o)) (m * WN A b + ES f j pl (maN A b o)) (e * WN A b + ES f j pl (iaN A b o)) ∧ TDy z σ1 ca cc f k pl ∧ TMo z σ1 cb cd g n ql ∧ (∀ φ, ES g n ql φ = ES f j pl (PN A b o u φ)) ∧ FrS z σ σ1 ∧ (∀ i, gI σ1 (z + 30) i = 0 → gI σ (z + 30) i = 0 ∧ ∀ x, x < j → posN (pl x) ≠ i), ?_, k, 0, (fun _ => 0), 0, ql0, by omega, rfl, rfl, k1, a1, d1, t1, fun φ => rfl, f1, fun i hi => ⟨by rw [← (s1 (z + 30) (by omega)).2.2.1]; exact hi, fun x hx => by omega⟩⟩
  rintro nn σ1 w ⟨j, g, n, ql, hj, rfl, rfl, g1, g2, g3, g4, g5, g6, g7⟩
  have hC1 := g1.1
  have t28 := (hC1.1.tg (28, 10, 0) (by decide)).1
  have t23 := (S_tag hC1 hc).1
  have r281 : gP σ1 (z + 28) 1 = some (z + 23) := hC1.1.rf (28, 1, 23) (by decide)
  refine ⟨t28, _, r281, t23, t23, ?_⟩
  rw [g3.2.2.1]
  refine ⟨fun q => ⟨t28, _, r281, t23, ?_⟩, fun q => ⟨t28, _, r281, t23, ?_⟩⟩
  · have : k ≤ j := (nI_leI (by omega) (by omega)).mp q
    have ej : j = k := by omega
    subst ej
    refine S_turn hC1 hc g3.w g4 (fun σ' x1 x2 x3 x4 x5 x6 => ?_)
    refine hQ σ' g n ql x1 (g1.same x4 (fun q h1 h2 j => (x6 _ (by omega)).2.2.1 j) (fun j => (x6 _ (by omega)).2.2.1 j) ((x6 _ (by omega)).2.2.1 4) (x6 _ (by omega))) (g2.same (fun j => (x6 _ (by omega)).2.2.2.1 j)) x2 x3 g5 (g6.tr (FrC.S (lo := 23) (hi := 27) ⟨x5, x6⟩ (fun q h1 h2 => by unfold scr; omega))) (fun i hi => ?_)
    rw [(x6 (z + 30) (by omega)).2.2.1] at hi
    refine ⟨(g7 i hi).1, ?_⟩
    unfold ES
    rw [sumN_cg (g := fun _ => 0) j (fun x hx => ?_), sumN_zero]
    show f (pl x) * (if posN (pl x) = i then 1 else 0) = 0
    rw [if_neg ((g7 i hi).2 x hx), Nat.mul_zero]
  · have hj2 : ¬ k ≤ j := fun x => q ((nI_leI (by omega) (by omega)).mpr x)
    have hpl := (g3.2.2.2.2.2.1 j (by omega)).1
    refine S_placeAt hC1 hc g3 (by omega) ⟨t28, C_pass hW hb ho g1 g2 hc g3 g4 hpl ?_ (fun σ2 g' n' ql' y1 y2 y3 y4 y5 y6 y7 => ?_)⟩
    · rw [g5]
      have e1 : ES f j pl (PN A b o u (fun _ => 1)) ≤ ES f j pl (fun _ => 1) * WN A b := ES_le j (fun i hi => by
        have := PN_le hW hb ho u (φ := fun _ => 1) (c := 1) (fun _ _ => Nat.le_refl _) (g3.2.2.2.2.2.1 i (by omega)).1
        omega)
      have e2 : ES f (j + 1) pl (fun _ => 1) ≤ ES f k pl (fun _ => 1) := sumN_pre _ k (j + 1) (by omega)
      have e3 : ES f (j + 1) pl (fun _ => 1) = ES f j pl (fun _ => 1) + f (pl j) * 1 := rfl
      have e4 : ES f (j + 1) pl (fun _ => 1) * WN A b ≤ ES f k pl (fun _ => 1) * WN A b := Nat.mul_le_mul_right _ e2
      rw [e3, Nat.add_mul, Nat.mul_one] at e4
      omega
    · rintro _ rfl
      refine ⟨k - (j + 1), by omega, j + 1, g', n', ql', by omega, sc1 j, rfl, y1, ?_, y3, y4, fun φ => ?_, g6.tr y6, fun i hi => ?_⟩
      · have x1 : ∀ ψ, ES f (j + 1) pl ψ = ES f j pl ψ + f (pl j) * ψ (pl j) := fun _ => rfl
        rw [x1, x1, x1, ← Nat.add_assoc, ← Nat.add_assoc, ← Nat.add_assoc]
        exact y2
      · rw [y5 φ, g5 φ]
        rfl
      · by_cases c : i = posN (pl j)
        · rw [c, y7.1] at hi
          exact absurd hi (by decide)
        · rw [y7.2 i c] at hi
          refine ⟨(g7 i hi).1, fun x hx => ?_⟩
          by_cases c2 : x = j
          · rw [c2]
            exact fun q => c q.symm
          · exact (g7 i hi).2 x (by omega)
theorem C_start (h : RC z σ A) (hs : spX z σ) {p : Nat} (hp : p < 481) {Q : Me → Prop} (hQ : ∀ σ' ca cb cc cd f k pl, cfg ca cb cc cd → TDy z σ' ca cc f k pl → TMo z σ' cb cd (fun _ => 0) 0 pl → (∀ φ, ES f k pl φ = φ p) → RC z σ' A → FrC z 23 27 σ σ' → Q σ') : pX8_startAt σ (z + 23) (nI p) Q := by
  obtain ⟨a, b, c, d, hc, h1, h2⟩ := hs.un
  have cbd := hc.b
  have t23 := (S_tag h hc).1
  refine ⟨t23, S_add (w := 1) h hc h2 hp (by show 0 + 1 < _; omega) (fun σ1 g m ql y1 y2 y3 => ?_)⟩
  have h3 := h.frA y3 cbd.1 cbd.2.1
  refine ⟨(S_tag h3 hc).1, S_turn h3 hc (h1.frA hc y3) y1 (fun σ2 x1 x2 x3 x4 x5 x6 => ?_)⟩
  refine hQ σ2 b a d c g m ql x1 x2 x3 (fun φ => ?_) x4 ((y3.C cbd.1 cbd.2.1).tr ⟨x5, x6⟩)
  rw [y2 φ]
  show 0 + 1 * φ p = φ p
  omega
theorem C_begin {b : Nat} {o : Nat → Nat} {u : Int32} (h : WK z σ A b o u) (hs : spX z σ) {p : Nat} (hp : p < 481) {Q : Me → Prop} (hQ : ∀ σ' ca cb cc cd f k pl, cfg ca cb cc cd → WK z σ' A b o u → WA z σ' 0 0 0 → TDy z σ' ca cc f k pl → TMo z σ' cb cd (fun _ => 0) 0 pl → (∀ φ, ES f k pl φ = φ p) → FrS z σ σ' → Q σ') : pX10_begin σ (z + 28) (sh p) Q := by
  have hC := h.1
  refine ⟨(hC.1.tg (28, 10, 0) (by decide)).1, ?_⟩
  rintro _ rfl _ rfl _ rfl
  have a1 : WA z (sL (sL (sL σ (z + 28) 5 0) (z + 28) 6 0) (z + 28) 7 0) 0 0 0 := ⟨by rw [gL_sL_nk (by decide), gL_sL_nk (by decide), gL_sL_eq]; rfl, by rw [gL_sL_nk (by decide), gL_sL_eq]; rfl, by rw [gL_sL_eq]; rfl⟩
  have s1 : ∀ x, x ≠ z + 28 → sameC σ (sL (sL (sL σ (z + 28) 5 0) (z + 28) 6 0) (z + 28) 7 0) x := fun x hx => .tr (.tr (.sL hx) (.sL hx)) (.sL hx)
  have k1 : WK z (sL (sL (sL σ (z + 28) 5 0) (z + 28) 6 0) (z + 28) 7 0) A b o u := ⟨hC, h.2.1, h.2.2.1, h.2.2.2.1, h.2.2.2.2.same (s1 _ (by omega))⟩
  have f1 : FrS z σ (sL (sL (sL σ (z + 28) 5 0) (z + 28) 6 0) (z + 28) 7 0) := ((FrS.sL (by unfold scr; omega) _).tr (.sL (by unfold scr; omega) _)).tr (.sL (by unfold scr; omega) _)
  generalize sL (sL (sL σ (z + 28) 5 0) (z + 28) 6 0) (z + 28) 7 0 = τ at *
  have hs1 : spX z τ := hs.same (fun x _ _ => s1 (z + x) (by omega))
  refine ⟨fun nn σ1 w => ∃ j, j ≤ 49 ∧ w = nI j ∧ nn = 49 - j ∧ RC z σ1 A ∧ gz σ1 = gz τ ∧ ∀ x, x ≠ z + 30 → sameC τ σ1 x, ?_, 49, 0, by omega, rfl, rfl, k1.1, rfl, fun x _ => .rf⟩
  rintro nn σ1 w ⟨j, hj, rfl, rfl, g1, g2, g3⟩
  have t28 := (g1.1.tg (28, 10, 0) (by decide)).1
  have t30 := g1.1.tg (30, 22, 49) (by decide)
  refine ⟨t28, _, g1.1.rf (28, 3, 30) (by decide), t30.1, ?_⟩
  rw [t30.2]
  refine ⟨fun q => ⟨_, g1.1.rf (28, 1, 23) (by decide), ?_⟩, fun q => ⟨?_, ?_⟩⟩
  · have ep : (0 : Int32) * 37 + sh p - (-12) = nI p := by
      rw [show (0 : Int32) * 37 = nI 0 by decide, iI_n 0, show iI ((0 : Nat) : Int) + sh p = sh p by unfold sh; rw [iI_add]; congr 1; omega, sh_back]
    show gT σ1 (z + 23) = 8 ∧ _
    rw [ep]
    refine ⟨(g1.1.tg (23, 8, 0) (by decide)).1, C_start g1 (hs1.same (fun x _ _ => g3 (z + x) (by omega))) hp (fun σ2 ca cb cc cd f k pl y1 y2 y3 y4 y5 y6 => ?_)⟩
    have s2 : ∀ x, (x < z + 23 ∨ z + 27 < x) → x ≠ z + 30 → sameC τ σ2 x := fun x h1 h2 => (g3 x h2).tr (y6.2 x h1)
    have f2 : FrS z τ σ2 := ⟨y6.1.trans g2, fun q hq => by
      refine s2 q ?_ ?_
      · by_cases c : q < z + 23 ∨ z + 27 < q
        · exact c
        · exact absurd (show scr (q - z) by unfold scr; omega) (hq (q - z) (by omega))
      · exact fun c => hq 30 c (by unfold scr; omega)⟩
    refine hQ σ2 ca cb cc cd f k pl y1 (k1.same y5 (fun q h1 h2 j => (s2 _ (by omega) (by omega)).2.2.1 j) (fun j => (s2 _ (by omega) (by omega)).2.2.1 j) ((s2 _ (by omega) (by omega)).2.2.1 4) (s2 _ (by omega) (by omega))) (a1.same (fun j => (s2 _ (by omega) (by omega)).2.2.2.1 j)) y2 y3 y4 (f1.tr f2)
  · have : ¬ 49 ≤ j := fun x => q ((nI_leI (by show 49 < _; omega) (by omega)).mpr x)
    exact vp_in_nI (show j < 49 by omega) (by show 49 < _; omega)
  · have : ¬ 49 ≤ j := fun x => q ((nI_leI (by show 49 < _; omega) (by omega)).mpr x)
    rintro _ rfl _ rfl
    exact ⟨49 - (j + 1), by omega, j + 1, by omega, sc1 j, rfl, g1.sI (o := 30) (by unfold scr; omega) _, g2, fun x hx => (g3 x hx).tr (.sI hx)⟩
end FO
