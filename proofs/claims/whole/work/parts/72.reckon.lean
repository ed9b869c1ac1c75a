/-! A day in the shop, by numbers that are told from -12 on. -/
def moN (A : Ab) : Nat := ix (A.1 17 0)
def flN (A : Ab) : Nat := if A.1 19 0 = 0 then 12 else 0
def lfN (A : Ab) (X d : Nat) : Nat := max (X - d) (flN A)
def cK (A : Ab) : Nat := ix (A.1 20 0)
def cC (A : Ab) : Nat := ix (A.1 21 0)
def cH (A : Ab) : Nat := ix (A.1 22 0)
def cB (A : Ab) : Nat := ix (A.1 23 0)
def evN (A : Ab) (X d : Nat) : Nat := cH A * (lfN A X d - 12) + cB A * (d - min d (X - 12))
def pcN (A : Ab) (b X k : Nat) : Nat := sumN (fun d => wN A b d * evN A X d) k
def mtN (A : Ab) (b X k : Nat) : Nat := sumN (fun d => wN A b d * min d (X - 12)) k
def ihN (A : Ab) (b X k : Nat) : Nat := sumN (fun d => if lfN A X d ≤ 12 then 0 else wN A b d) k
def opN (A : Ab) (o : Nat) : Nat := if o = 0 then 0 else cK A + cC A * o
theorem nI_sb {a b : Nat} (h : b ≤ a) : nI a - nI b = nI (a - b) := by
  rw [iI_n, iI_n, iI_n, iI_sub]
  congr 1
  omega
theorem WF.c100 {A : Ab} (hW : WF A) {f : Nat} (hf : f = 20 ∨ f = 21 ∨ f = 22 ∨ f = 23) : A.1 f 0 = nI (ix (A.1 f 0)) ∧ ix (A.1 f 0) ≤ 100 := by
  obtain ⟨k, hk, e⟩ := hW.2.2.2.2.2.2.2.2.1 f hf
  have : ix (A.1 f 0) = k := by rw [e]; exact ixn (by omega)
  rw [this]
  exact ⟨e, hk⟩
theorem WF.mo {A : Ab} (hW : WF A) : A.1 17 0 = nI (moN A) ∧ 1 ≤ moN A ∧ moN A ≤ 12 := by
  obtain ⟨k, h1, h2, e⟩ := hW.2.2.2.2.2.1
  have : moN A = k := by unfold moN; rw [e]; exact ixn (by omega)
  rw [this]
  exact ⟨e, h1, h2⟩
theorem fl_12 (A : Ab) : flN A = 12 ∨ flN A = 0 := by unfold flN; split <;> omega
theorem fl_sh (A : Ab) : (if A.1 19 0 = 0 then (0 : Int32) else -12) = sh (flN A) := by
  unfold flN
  by_cases h : A.1 19 0 = 0
  · rw [if_pos h, if_pos h]
    exact sh_0
  · rw [if_neg h, if_neg h]
    exact sh_12
theorem lf_sh {A : Ab} {X d : Nat} (hX : X < 100) (hd : d < 100) : (if sh X - nI d < sh (flN A) then sh (flN A) else sh X - nI d) = sh (lfN A X d) := by
  have hf := fl_12 A
  unfold lfN
  have e : sh X - nI d = iI ((X : Int) - 12 - d) := by unfold sh; rw [iI_n, iI_sub]
  rw [e]
  unfold sh
  by_cases h : (X : Int) - 12 - d < (flN A : Int) - 12
  · rw [if_pos ((iI_lt (by omega) (by omega) (by omega) (by omega)).mpr h)]
    congr 1
    omega
  · rw [if_neg (fun q => h ((iI_lt (by omega) (by omega) (by omega) (by omega)).mp q))]
    congr 1
    omega
/-- cells from lo to hi alone have changed -/
def FrC (z lo hi : Nat) (σ σ' : Me) : Prop := gz σ' = gz σ ∧ ∀ q, (q < z + lo ∨ z + hi < q) → sameC σ σ' q
theorem FrC.rf {z lo hi : Nat} {σ : Me} : FrC z lo hi σ σ := ⟨rfl, fun _ _ => .rf⟩
theorem FrC.tr {z lo hi : Nat} {σ σ' σ'' : Me} (h : FrC z lo hi σ σ') (h' : FrC z lo hi σ' σ'') : FrC z lo hi σ σ'' := ⟨h'.1.trans h.1, fun q hq => (h.2 q hq).tr (h'.2 q hq)⟩
theorem FrC.up {z lo hi lo' hi' : Nat} {σ σ' : Me} (h : FrC z lo hi σ σ') (h1 : lo' ≤ lo) (h2 : hi ≤ hi') : FrC z lo' hi' σ σ' := ⟨h.1, fun q hq => h.2 q (by omega)⟩
theorem FrC.sI {z lo hi : Nat} {σ : Me} {o j : Nat} (h1 : lo ≤ o) (h2 : o ≤ hi) (v : Int32) : FrC z lo hi σ (sI σ (z + o) j v) := ⟨rfl, fun q hq => .sI (by omega)⟩
theorem FrC.sL {z lo hi : Nat} {σ : Me} {o j : Nat} (h1 : lo ≤ o) (h2 : o ≤ hi) (v : Int64) : FrC z lo hi σ (sL σ (z + o) j v) := ⟨rfl, fun q hq => .sL (by omega)⟩
theorem FrC.S {z lo hi : Nat} {σ σ' : Me} (h : FrC z lo hi σ σ') (hs : ∀ o, lo ≤ o → o ≤ hi → scr o) : FrS z σ σ' := ⟨h.1, fun q hq => by
  by_cases e : q < z + lo ∨ z + hi < q
  · exact h.2 q e
  · exact absurd (hs (q - z) (by omega) (by omega)) (hq (q - z) (by omega))⟩
theorem FrA.C {z b d : Nat} {σ σ' : Me} (h : FrA z b d σ σ') (hb : 24 ≤ b ∧ b ≤ 27) (hd : 24 ≤ d ∧ d ≤ 27) : FrC z 23 27 σ σ' := ⟨h.1, fun q hq => h.same hb hd hq⟩
section RK
variable {z : Nat} {σ : Me} {A : Ab}
theorem C_tag (h : RC z σ A) : gT σ z = 11 := (h.1.tg (0, 11, 0) (by decide)).1
theorem C_shop (h : RC z σ A) (hW : WF A) : gT σ (z + 9) = 6 ∧ gI σ (z + 9) 0 = nI (moN A) ∧ gI σ (z + 9) 1 = A.1 18 0 ∧ gI σ (z + 9) 2 = A.1 19 0 ∧ gI σ (z + 9) 3 = nI (cK A) ∧ gI σ (z + 9) 4 = nI (cC A) ∧ gI σ (z + 9) 5 = nI (cH A) ∧ gI σ (z + 9) 6 = nI (cB A) :=
  ⟨(h.1.tg (9, 6, 0) (by decide)).1, (h.ce (17, 0, 9, 0) (by decide)).trans hW.mo.1, h.ce (18, 0, 9, 1) (by decide), h.ce (19, 0, 9, 2) (by decide), (h.ce (20, 0, 9, 3) (by decide)).trans (hW.c100 (f := 20) (by decide)).1, (h.ce (21, 0, 9, 4) (by decide)).trans (hW.c100 (f := 21) (by decide)).1, (h.ce (22, 0, 9, 5) (by decide)).trans (hW.c100 (f := 22) (by decide)).1, (h.ce (23, 0, 9, 6) (by decide)).trans (hW.c100 (f := 23) (by decide)).1⟩
theorem C_leftOf (h : RC z σ A) (hW : WF A) {X d : Nat} (hX : X < 100) (hd : d < 100) {Q : Int32 → Me → Prop} (hQ : Q (sh (lfN A X d)) σ) : pX6_leftOf σ (z + 9) (sh X) (nI d) Q := by
  obtain ⟨t, s0, s1, s2, -⟩ := C_shop h hW
  refine ⟨t, ?_⟩
  rintro _ rfl
  rw [s2, fl_sh, lf_sh hX hd]
  exact hQ
theorem C_floor (h : RC z σ A) (hW : WF A) {Q : Int32 → Me → Prop} (hQ : Q (sh (flN A)) σ) : pX6_floor σ (z + 9) Q := by
  obtain ⟨t, s0, s1, s2, -⟩ := C_shop h hW
  refine ⟨t, ?_⟩
  rintro _ rfl
  rw [s2, fl_sh]
  exact hQ
theorem C_filled (h : RC z σ A) (hW : WF A) {s o : Nat} (hs : s < 100) (ho : o < 100) {Q : Int32 → Me → Prop} (hQ : Q (sh (min (s + o) (moN A + 12))) σ) : pX6_filled σ (z + 9) (sh s) (nI o) Q := by
  obtain ⟨t, s0, s1, s2, -⟩ := C_shop h hW
  have m := hW.mo
  refine ⟨t, ?_⟩
  rw [s0, sh_add, sh_n]
  by_cases c : moN A + 12 < s + o
  · rw [if_pos ((sh_lt (by omega) (by omega)).mpr c)]
    rw [Nat.min_eq_right (by omega)] at hQ
    exact hQ
  · rw [if_neg (fun q => c ((sh_lt (by omega) (by omega)).mp q))]
    rw [Nat.min_eq_left (by omega)] at hQ
    exact hQ
theorem C_orderPrice (h : RC z σ A) (hW : WF A) {o : Nat} (ho : o ≤ 12) {Q : Int32 → Me → Prop} (hQ : Q (nI (opN A o)) σ) : pX6_orderPrice σ (z + 9) (nI o) Q := by
  obtain ⟨t, s0, s1, s2, s3, s4, -⟩ := C_shop h hW
  refine ⟨t, ?_⟩
  rintro _ rfl
  unfold opN at hQ
  by_cases e : o = 0
  · rw [if_pos (show nI o ≤ 0 by rw [e]; decide)]
    rw [if_pos e] at hQ
    exact hQ
  · rw [if_neg (show ¬ nI o ≤ (0 : Int32) from fun q => e (by have := (nI_leI (b := 0) (by omega) (by omega)).mp q; omega)), s3, s4, pk_mul, nI_add]
    rw [if_neg e] at hQ
    exact hQ
theorem C_dem (h : RC z σ A) (hW : WF A) {i d w x y v : Nat} (hi : i < 25) (hd : d < 7) (h1 : gI σ (z + 10) i = nI x) (h2 : gI σ (z + 11) i = nI y) (h3 : gI σ (z + 12) i = nI v) {Q : Me → Prop} (hQ : ∀ σ', RC z σ' A → FrC z 10 12 σ σ' → gI σ' (z + 10) i = nI (x + w * evN A i d) → gI σ' (z + 11) i = nI (y + w * min d (i - 12)) → gI σ' (z + 12) i = nI (v + if lfN A i d ≤ 12 then 0 else w) → (∀ o j, j ≠ i → gI σ' (z + o) j = gI σ (z + o) j) → Q σ') : pX6_reckonDemand σ (z + 9) (nI i) (nI d) (nI w) Q := by
  obtain ⟨t, s0, s1, s2, s3, s4, s5, s6⟩ := C_shop h hW
  have t10 := h.1.tg (10, 20, 25) (by decide)
  have t11 := h.1.tg (11, 20, 25) (by decide)
  have t12 := h.1.tg (12, 20, 25) (by decide)
  have r10 := h.1.rf (9, 7, 10) (by decide)
  have r11 := h.1.rf (9, 8, 11) (by decide)
  have r12 := h.1.rf (9, 9, 12) (by decide)
  have vi : vp_in (nI i) 25 := vp_in_nI hi (by omega)
  have ci : (nI i).toNatClampNeg = i := nI_clamp (by omega)
  have hf := fl_12 A
  rintro _ rfl _ rfl
  rw [sh_of, sh_max0 (by omega)]
  have eg : (if nI (i - 12) < nI d then nI (i - 12) else nI d) = nI (min d (i - 12)) := by
    by_cases c : i - 12 < d
    · rw [if_pos (nI_lt c (by omega)), Nat.min_eq_right (by omega)]
    · rw [if_neg (nI_nlt (by omega) (by omega)), Nat.min_eq_left (by omega)]
  rw [eg]
  refine ⟨t, C_leftOf h hW (by omega) (by omega) ?_⟩
  rintro _ rfl
  have hl : lfN A i d < 100 := by unfold lfN; omega
  rw [sh_max0 (by omega)]
  refine ⟨t, _, r10, t10.1, by rw [t10.2]; exact vi, by rw [t10.2]; exact vi, ?_⟩
  rintro _ rfl
  rw [ci, s5, s6, show gI σ (z + (9, 7, 10).2.2) i = nI x from h1, nI_sb (by omega), pk_mul, pk_mul, nI_add, pk_mul, nI_add]
  refine ⟨_, r11, t11.1, by rw [gN_sI, t11.2]; exact vi, by rw [gN_sI, t11.2]; exact vi, ?_⟩
  rintro _ rfl
  rw [gI_sI_ne (show z + (9, 8, 11).2.2 ≠ z + (9, 7, 10).2.2 by show z + 11 ≠ z + 10; omega), show gI σ (z + (9, 8, 11).2.2) i = nI y from h2, pk_mul, nI_add]
  refine ⟨_, r12, t12.1, by rw [gN_sI, gN_sI, t12.2]; exact vi, ?_⟩
  rintro _ rfl
  refine ⟨by rw [gN_sI, gN_sI, t12.2]; exact vi, ?_⟩
  rintro _ rfl
  rw [gI_sI_ne (show z + (9, 9, 12).2.2 ≠ z + (9, 8, 11).2.2 by show z + 12 ≠ z + 11; omega), gI_sI_ne (show z + (9, 9, 12).2.2 ≠ z + (9, 7, 10).2.2 by show z + 12 ≠ z + 10; omega), show gI σ (z + (9, 9, 12).2.2) i = nI v from h3]
  have ev : (if nI (lfN A i d - 12) ≤ 0 then (0 : Int32) else nI w) = nI (if lfN A i d ≤ 12 then 0 else w) := by
    by_cases c : lfN A i d ≤ 12
    · rw [if_pos (show nI (lfN A i d - 12) ≤ 0 by rw [show lfN A i d - 12 = 0 by omega]; decide), if_pos c]
      rfl
    · rw [if_neg (show ¬ nI (lfN A i d - 12) ≤ (0 : Int32) from fun q => by have := (nI_leI (b := 0) (by omega) (by omega)).mp q; omega), if_neg c]
  rw [ev, nI_add]
  show Q (sI (sI (sI σ (z + 10) i _) (z + 11) i _) (z + 12) i _)
  refine hQ _ (((h.sI (o := 10) (by unfold scr; omega) _).sI (o := 11) (by unfold scr; omega) _).sI (o := 12) (by unfold scr; omega) _) (((FrC.sI (by omega) (by omega) _).tr (.sI (by omega) (by omega) _)).tr (.sI (by omega) (by omega) _)) ?_ ?_ gI_sI_eq (fun o j hj => by rw [gI_sI_nk hj, gI_sI_nk hj, gI_sI_nk hj])
  · rw [gI_sI_ne (by omega), gI_sI_ne (by omega), gI_sI_eq]
    rfl
  · rw [gI_sI_ne (by omega), gI_sI_eq]
/-- the three rows of the shop are reckoned -/
def PR (z : Nat) (σ : Me) (A : Ab) (b n : Nat) : Prop := ∀ i, i < n → gI σ (z + 10) i = nI (pcN A b i 7) ∧ gI σ (z + 11) i = nI (mtN A b i 7) ∧ gI σ (z + 12) i = nI (ihN A b i 7)
theorem C_reckon (h : RC z σ A) (hW : WF A) {b : Nat} (hb : b < 4) {Q : Me → Prop} (hQ : ∀ σ', RC z σ' A → FrC z 10 12 σ σ' → PR z σ' A b 25 → Q σ') : pX6_reckon σ (z + 9) (z + (15 + 2 * b)) Q := by
  refine ⟨fun n σ1 w => ∃ i, i ≤ 25 ∧ w = nI i ∧ n = 25 - i ∧ RC z σ1 A ∧ FrC z 10 12 σ σ1 ∧ PR z σ1 A b i, ?_, 25, 0, by omega, rfl, rfl, h, .rf, fun i hi => by omega⟩
  rintro n σ1 w ⟨i, hi, rfl, rfl, g1, g2, g3⟩
  refine ⟨fun q => ?_, fun q => ?_⟩
  · have : 25 ≤ i := (le_c (a := 25) rfl (by omega) (by omega)).mp q
    rw [show i = 25 by omega] at g3
    exact hQ σ1 g1 g2 g3
  · have hi2 : ¬ 25 ≤ i := fun c => q ((le_c (a := 25) rfl (by omega) (by omega)).mpr c)
    have t := (C_shop g1 hW).1
    have vi : vp_in (nI i) 25 := vp_in_nI (by omega) (by omega)
    have ci : (nI i).toNatClampNeg = i := nI_clamp (by omega)
    have t10 := g1.1.tg (10, 20, 25) (by decide)
    have t11 := g1.1.tg (11, 20, 25) (by decide)
    have t12 := g1.1.tg (12, 20, 25) (by decide)
    refine ⟨t, _, g1.1.rf (9, 7, 10) (by decide), t10.1, by rw [t10.2]; exact vi, ?_⟩
    rintro _ rfl
    refine ⟨_, g1.1.rf (9, 8, 11) (by decide), t11.1, by rw [gN_sI, t11.2]; exact vi, ?_⟩
    rintro _ rfl
    refine ⟨_, g1.1.rf (9, 9, 12) (by decide), t12.1, by rw [gN_sI, gN_sI, t12.2]; exact vi, ?_⟩
    rintro _ rfl
    rw [ci]
    show ∃ I31 : Nat → Me → Int32 → Prop, _ ∧ ∃ n31, I31 n31 (sI (sI (sI σ1 (z + 10) i 0) (z + 11) i 0) (z + 12) i 0) 0
    have h1 : RC z (sI (sI (sI σ1 (z + 10) i 0) (z + 11) i 0) (z + 12) i 0) A := ((g1.sI (o := 10) (by unfold scr; omega) _).sI (o := 11) (by unfold scr; omega) _).sI (o := 12) (by unfold scr; omega) _
    have f1 : FrC z 10 12 σ1 (sI (sI (sI σ1 (z + 10) i 0) (z + 11) i 0) (z + 12) i 0) := ((FrC.sI (by omega) (by omega) _).tr (.sI (by omega) (by omega) _)).tr (.sI (by omega) (by omega) _)
    have o1 : ∀ o j, j ≠ i → gI (sI (sI (sI σ1 (z + 10) i 0) (z + 11) i 0) (z + 12) i 0) (z + o) j = gI σ1 (z + o) j := fun o j hj => by rw [gI_sI_nk hj, gI_sI_nk hj, gI_sI_nk hj]
    have e1 : gI (sI (sI (sI σ1 (z + 10) i 0) (z + 11) i 0) (z + 12) i 0) (z + 10) i = nI 0 := by rw [gI_sI_ne (by omega), gI_sI_ne (by omega), gI_sI_eq]; rfl
    have e2 : gI (sI (sI (sI σ1 (z + 10) i 0) (z + 11) i 0) (z + 12) i 0) (z + 11) i = nI 0 := by rw [gI_sI_ne (by omega), gI_sI_eq]; rfl
    have e3 : gI (sI (sI (sI σ1 (z + 10) i 0) (z + 11) i 0) (z + 12) i 0) (z + 12) i = nI 0 := by rw [gI_sI_eq]; rfl
    generalize sI (sI (sI σ1 (z + 10) i 0) (z + 11) i 0) (z + 12) i 0 = τ at *
    refine ⟨fun n σ2 w => ∃ d, d ≤ 7 ∧ w = nI d ∧ n = 7 - d ∧ RC z σ2 A ∧ FrC z 10 12 σ1 σ2 ∧ (∀ o j, j ≠ i → gI σ2 (z + o) j = gI σ1 (z + o) j) ∧ gI σ2 (z + 10) i = nI (pcN A b i d) ∧ gI σ2 (z + 11) i = nI (mtN A b i d) ∧ gI σ2 (z + 12) i = nI (ihN A b i d), ?_, 7, 0, by omega, rfl, rfl, h1, f1, o1, e1, e2, e3⟩
    rintro n σ2 w ⟨d, hd, rfl, rfl, k1, k2, k3, k4, k5, k6⟩
    refine ⟨fun q2 => ?_, fun q2 => ⟨(C_book1 k1 hb).1, ?_⟩⟩
    · have : 7 ≤ d := (le_c (a := 7) rfl (by omega) (by omega)).mp q2
      have ed : d = 7 := by omega
      subst ed
      rintro _ rfl
      refine ⟨25 - (i + 1), by omega, i + 1, by omega, sc1 i, rfl, k1, g2.tr k2, fun j hj => ?_⟩
      by_cases e : j = i
      · rw [e]
        exact ⟨k4, k5, k6⟩
      · rw [k3 10 j e, k3 11 j e, k3 12 j e]
        exact g3 j (by omega)
    · have hd2 : ¬ 7 ≤ d := fun c => q2 ((le_c (a := 7) rfl (by omega) (by omega)).mpr c)
      have w := wN_eq hW hb (show d < 7 by omega)
      refine C_weightOf k1 hb (by omega) ⟨(C_shop k1 hW).1, ?_⟩
      rw [w.1]
      refine C_dem k1 hW (by omega) (by omega) k4 k5 k6 (fun σ3 m1 m2 m3 m4 m5 m6 => ?_)
      rintro _ rfl
      exact ⟨7 - (d + 1), by omega, d + 1, by omega, sc1 d, rfl, m1, k2.tr m2, fun o j hj => (m6 o j hj).trans (k3 o j hj), m3, m4, m5⟩
end RK
