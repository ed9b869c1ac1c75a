/-! The reference's day. -/
def leN (A : Ab) : Nat := ix (A.1 18 0)
theorem WF.le {A : Ab} (hW : WF A) : A.1 18 0 = nI (leN A) ∧ leN A ≤ 2 := by
  obtain ⟨k, h1, h2⟩ := hW.2.2.2.2.2.2.1
  have e : leN A = k := by unfold leN; rw [h2]; exact ixn (by omega)
  rw [e]
  exact ⟨h2, h1⟩
theorem WF.l3 {A : Ab} (hW : WF A) : A.1 18 0 = 0 ∨ A.1 18 0 = 1 ∨ A.1 18 0 = 2 := by
  obtain ⟨h1, h2⟩ := hW.le
  rw [h1]
  have : leN A = 0 ∨ leN A = 1 ∨ leN A = 2 := by omega
  rcases this with e | e | e <;> rw [e]
  · exact Or.inl rfl
  · exact Or.inr (Or.inl rfl)
  · exact Or.inr (Or.inr rfl)
theorem sh_max1 {a : Nat} (ha : a < 2 ^ 30) : (if sh a ≤ 0 then (0 : Int32) else sh a) = nI (a - 12) := by
  rw [sh_0]
  by_cases h : sh a ≤ sh 12
  · rw [if_pos h]
    have := (sh_le ha (by omega)).mp h
    rw [show a - 12 = 0 by omega]
    decide
  · rw [if_neg h]
    have : ¬ a ≤ 12 := fun q => h ((sh_le ha (by omega)).mpr q)
    rw [sh_n, show a - 12 + 12 = a by omega]
theorem lf_sh1 {A : Ab} {X d : Nat} (hX : X < 100) (hd : d < 100) : (if sh (flN A) ≤ sh X - nI d then sh X - nI d else sh (flN A)) = sh (lfN A X d) := by
  rw [← lf_sh hX hd]
  by_cases c : sh X - nI d < sh (flN A)
  · rw [if_pos c, if_neg (fun q => ?_)]
    have a := Int32.lt_iff_toInt_lt.mp c
    have b := Int32.le_iff_toInt_le.mp q
    omega
  · rw [if_neg c, if_pos]
    refine Int32.le_iff_toInt_le.mpr ?_
    have : ¬ (sh X - nI d).toInt < (sh (flN A)).toInt := fun q => c (Int32.lt_iff_toInt_lt.mpr q)
    omega
theorem sh_12n (h : Nat) : sh h + 12 = nI h := by
  rw [show (12 : Int32) = nI 12 by decide, sh_add, ← sh_n]
/-- only what a day tells has changed -/
def FD (m : Nat) (σ σ' : Me) : Prop := (gL σ' = gL σ) ∧ (∀ q j, (q ≠ m ∨ j < 24 ∨ 29 < j) → gI σ' q j = gI σ q j)
theorem lf_le (A : Ab) (hW : WF A) {X d : Nat} (hX : X ≤ moN A + 12) : lfN A X d ≤ moN A + 12 := by
  have := fl_12 A
  have := hW.mo
  unfold lfN
  omega
theorem M_dayR {m N : Nat} {σ : Me} {A : Ab} (h : RM m N σ A) (hW : WF A) {X one two o d cm n1 n2 x : Nat} (hX : X ≤ 24) (h1 : one ≤ 12) (h2 : two ≤ 12) (ho : o ≤ 12) (hd : d < 7) (ec : cm = if A.1 18 0 = 0 then o else one) (e1 : n1 = if A.1 18 0 = 0 then 0 else if A.1 18 0 = 1 then o else two) (e2 : n2 = if A.1 18 0 = 2 then o else 0) (ex : x = min (X + cm) (moN A + 12)) {Q : Me → Prop} (hQ : ∀ σ', FD m σ σ' → FrW m σ σ' → gI σ' m 24 = sh (lfN A x d) → gI σ' m 25 = nI n1 → gI σ' m 26 = nI n2 → gI σ' m 27 = nI (opN A o + evN A x d) → gI σ' m 28 = nI (min d (x - 12)) → gI σ' m 29 = nI (d - min d (x - 12)) → Q σ') : pX12_day σ m (sh X) (nI one) (nI two) (nI o) (nI d) Q := by
  have q17 : gI σ m 17 = nI (moN A) := (h.sc 17 (by decide)).trans hW.mo.1
  have q18 := h.sc 18 (by decide)
  have q19 := h.sc 19 (by decide)
  have q20 : gI σ m 20 = nI (cK A) := (h.sc 20 (by decide)).trans (hW.c100 (f := 20) (by decide)).1
  have q21 : gI σ m 21 = nI (cC A) := (h.sc 21 (by decide)).trans (hW.c100 (f := 21) (by decide)).1
  have q22 : gI σ m 22 = nI (cH A) := (h.sc 22 (by decide)).trans (hW.c100 (f := 22) (by decide)).1
  have q23 : gI σ m 23 = nI (cB A) := (h.sc 23 (by decide)).trans (hW.c100 (f := 23) (by decide)).1
  have mo := hW.mo
  have cm12 : cm ≤ 12 := by rw [ec]; split <;> omega
  refine ⟨h.1.1, ?_⟩
  intro v2 e2' v4 e4 σ6 e6 v7 e7 σ9 e9 v10 e10 v12 e12 v14 e14 σ16 e16 σ17 e17 x7 e18 v19 e19 v21 e21 σ23 e23 v24 e24 v26 e26 σ28 e28
  have a2 : v2 = nI cm := by rw [e2', q18, ec]; split <;> rfl
  have a4 : v4 = nI n1 := by
    rw [e4, q18, e1]
    split
    · rfl
    · split <;> rfl
  have a7 : v7 = nI n2 := by
    rw [e7, e6, gI_sI_nk (by decide), q18, e2]
    split <;> rfl
  have a10 : v10 = sh x := by
    rw [e10, e9, e6, gI_sI_nk (by decide), gI_sI_nk (by decide), q17, a2, sh_add, sh_n, ex]
    by_cases c : X + cm ≤ moN A + 12
    · rw [if_pos ((sh_le (by omega) (by omega)).mpr c), Nat.min_eq_left c]
    · rw [if_neg (fun q => c ((sh_le (by omega) (by omega)).mp q)), Nat.min_eq_right (by omega)]
  have hx : x ≤ 24 := by omega
  have a12 : v12 = nI (x - 12) := by rw [e12, a10]; exact sh_max1 (by omega)
  have a14 : v14 = nI (min d (x - 12)) := by
    rw [e14, a12]
    by_cases c : x - 12 ≤ d
    · rw [if_pos (nI_le c (by omega)), Nat.min_eq_right c]
    · rw [if_neg (fun q => c ((nI_leI (by omega) (by omega)).mp q)), Nat.min_eq_left (by omega)]
  have b17 : gI σ17 m 29 = nI (d - min d (x - 12)) := by
    rw [e17, gI_sI_eq, e16, gI_sI_eq, a14]
    exact nI_sb (by omega)
  have a21 : v21 = sh (lfN A x d) := by
    rw [e21, e19, e18, a10, e17, e16, e9, e6, gI_sI_nk (by decide), gI_sI_nk (by decide), gI_sI_nk (by decide), gI_sI_nk (by decide), q19, fl_sh]
    exact lf_sh1 (by omega) (by omega)
  have hlf : lfN A x d ≤ 24 := by have := lf_le A hW (X := x) (d := d) (by omega); omega
  have a24 : v24 + nI (cC A) * nI o = nI (opN A o) := by
    rw [e24, e23, e17, e16, e9, e6, gI_sI_nk (by decide), gI_sI_nk (by decide), gI_sI_nk (by decide), gI_sI_nk (by decide), gI_sI_nk (by decide), q20]
    unfold opN
    by_cases c : o = 0
    · rw [if_pos c, c, if_pos (show nI 0 ≤ 0 by decide), pk_mul, Nat.mul_zero]
      decide
    · rw [if_neg c, if_neg (show ¬ nI o ≤ (0 : Int32) from fun q => c (by have := (nI_leI (b := 0) (by omega) (by omega)).mp q; omega)), pk_mul, nI_add]
  have a26 : v26 = nI (lfN A x d - 12) := by
    rw [e26, e23, gI_sI_eq, a21]
    exact sh_max1 (by omega)
  have b28 : gI σ28 m 27 = nI (opN A o + evN A x d) := by
    rw [e28, gI_sI_eq, a26, e23, gI_sI_nk (by decide), gI_sI_nk (by decide), gI_sI_nk (by decide), gI_sI_nk (by decide), b17, e17, e16, e9, e6, gI_sI_nk (by decide), gI_sI_nk (by decide), gI_sI_nk (by decide), gI_sI_nk (by decide), gI_sI_nk (by decide), gI_sI_nk (by decide), gI_sI_nk (by decide), gI_sI_nk (by decide), gI_sI_nk (by decide), gI_sI_nk (by decide), gI_sI_nk (by decide), gI_sI_nk (by decide), q21, q22, q23, a24, pk_mul, pk_mul, nI_add, nI_add, Nat.add_assoc]
    rfl
  have b24 : gI σ28 m 24 = sh (lfN A x d) := by rw [e28, gI_sI_nk (by decide), e23, gI_sI_eq, a21]
  have b25 : gI σ28 m 25 = nI n1 := by rw [e28, gI_sI_nk (by decide), e23, gI_sI_nk (by decide), e17, gI_sI_nk (by decide), e16, gI_sI_nk (by decide), e9, gI_sI_nk (by decide), e6, gI_sI_eq, a4]
  have b26 : gI σ28 m 26 = nI n2 := by rw [e28, gI_sI_nk (by decide), e23, gI_sI_nk (by decide), e17, gI_sI_nk (by decide), e16, gI_sI_nk (by decide), e9, gI_sI_eq, a7]
  have b28' : gI σ28 m 28 = nI (min d (x - 12)) := by rw [e28, gI_sI_nk (by decide), e23, gI_sI_nk (by decide), e17, gI_sI_nk (by decide), e16, gI_sI_eq, a14]
  have b29 : gI σ28 m 29 = nI (d - min d (x - 12)) := by rw [e28, gI_sI_nk (by decide), e23, gI_sI_nk (by decide), b17]
  have fW : FrW m σ σ28 := by
    rw [e28, e23, e17, e16, e9, e6]
    exact (((((frW_0 (by omega)).tr (frW_0 (by omega))).tr (frW_0 (by omega))).tr (frW_0 (by omega))).tr (frW_0 (by omega))).tr (frW_0 (by omega))
  have fD : FD m σ σ28 := by
    refine ⟨?_, fun q j hq => ?_⟩
    · rw [e28, e23, e17, e16, e9, e6, gL_sI, gL_sI, gL_sI, gL_sI, gL_sI, gL_sI]
    · rw [e28, e23, e17, e16, e9, e6]
      by_cases c : q = m
      · rw [gI_sI_nk (by omega), gI_sI_nk (by omega), gI_sI_nk (by omega), gI_sI_nk (by omega), gI_sI_nk (by omega), gI_sI_nk (by omega)]
      · rw [gI_sI_ne c, gI_sI_ne c, gI_sI_ne c, gI_sI_ne c, gI_sI_ne c, gI_sI_ne c]
  exact hQ σ28 fD fW b24 b25 b26 b28 b28' b29
/-! A state of the reference and the class's place. -/
def piN (s : Nat) : Nat := s / 625 + s / 25 % 25 + 37 * (s % 25)
def VM (A : Ab) (s : Nat) : Prop := s / 625 ≤ 24 ∧ s / 25 % 25 ≤ 12 ∧ s % 25 ≤ 12 ∧ (A.1 18 0 = 0 → s / 25 % 25 = 0 ∧ s % 25 = 0) ∧ (A.1 18 0 = 1 → s % 25 = 0)
def psM (s : Nat) : Nat := s / 625 + s / 25 % 25 + s % 25
def n1M (A : Ab) (o : Nat → Nat) (s : Nat) : Nat := if A.1 18 0 = 0 then 0 else if A.1 18 0 = 1 then o (psM s) else s % 25
def n2M (A : Ab) (o : Nat → Nat) (s : Nat) : Nat := if A.1 18 0 = 2 then o (psM s) else 0
def cmM (A : Ab) (o : Nat → Nat) (s : Nat) : Nat := if A.1 18 0 = 0 then o (psM s) else s / 25 % 25
def xM (A : Ab) (o : Nat → Nat) (s : Nat) : Nat := min (s / 625 + cmM A o s) (moN A + 12)
def nM (A : Ab) (o : Nat → Nat) (s d : Nat) : Nat := 625 * lfN A (xM A o s) d + 25 * n1M A o s + n2M A o s
theorem pi_pos {A : Ab} {s : Nat} (h : VM A s) : posN (piN s) = psM s ∧ piN s % 37 = s / 625 + s / 25 % 25 ∧ piN s / 37 = s % 25 ∧ piN s < 481 ∧ psM s < 49 := by
  obtain ⟨h1, h2, h3, -⟩ := h
  unfold posN piN psM
  generalize s / 625 = a at *
  generalize s / 25 % 25 = b at *
  generalize s % 25 = c at *
  omega
theorem pi_x {A : Ab} (hW : WF A) {s : Nat} (h : VM A s) (o : Nat → Nat) : xS A o (piN s) = xM A o s := by
  obtain ⟨e1, e2, e3, -⟩ := pi_pos h
  unfold xS xM cmM
  rw [e1, e2]
  by_cases c : A.1 18 0 = 0
  · rw [if_pos c, if_pos c, (h.2.2.2.1 c).1, Nat.add_zero]
  · rw [if_neg c, if_neg c]
theorem nM_v {A : Ab} (hW : WF A) {s : Nat} (h : VM A s) {o : Nat → Nat} (ho : ∀ i, i < 49 → o i ≤ 12) (d : Nat) : VM A (nM A o s d) ∧ nM A o s d < 17000 ∧ piN (nM A o s d) = nxN A o (piN s) d := by
  obtain ⟨e1, e2, e3, e4, e5⟩ := pi_pos h
  have o1 := ho _ e5
  have h3 := h.2.2.1
  have b1 : n1M A o s ≤ 12 := by
    unfold n1M
    split
    · omega
    · split <;> omega
  have b2 : n2M A o s ≤ 12 := by unfold n2M; split <;> omega
  have b3 : lfN A (xM A o s) d ≤ 24 := by
    have := lf_le A hW (X := xM A o s) (d := d) (by unfold xM; omega)
    have := hW.mo
    omega
  have d1 : nM A o s d / 625 = lfN A (xM A o s) d := by unfold nM; omega
  have d2 : nM A o s d / 25 % 25 = n1M A o s := by unfold nM; omega
  have d3 : nM A o s d % 25 = n2M A o s := by unfold nM; omega
  refine ⟨⟨by omega, by omega, by omega, fun c => ?_, fun c => ?_⟩, by unfold nM; omega, ?_⟩
  · rw [d2, d3]
    unfold n1M n2M
    rw [if_pos c, if_neg (by rw [c]; decide)]
    exact ⟨rfl, rfl⟩
  · rw [d3]
    unfold n2M
    rw [if_neg (by rw [c]; decide)]
  · have e0 : piN (nM A o s d) = nM A o s d / 625 + nM A o s d / 25 % 25 + 37 * (nM A o s d % 25) := rfl
    rw [e0, d1, d2, d3]
    unfold nxN
    rw [pi_x hW h]
    unfold ncN cmN n1M n2M
    rw [e1, e3]
    rcases hW.l3 with c | c | c
    · rw [c, if_pos rfl, if_neg (by decide), if_neg (by decide), if_neg (by decide)]
      omega
    · rw [c, if_neg (by decide), if_pos rfl, if_neg (by decide), if_neg (by decide), if_pos rfl]
      omega
    · rw [c, if_neg (by decide), if_neg (by decide), if_pos rfl, if_pos rfl]
      omega
