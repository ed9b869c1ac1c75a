/-! A rule is followed: one place of the spread. -/
def posN (p : Nat) : Nat := p % 37 + p / 37
def xS (A : Ab) (o : Nat → Nat) (p : Nat) : Nat := if A.1 18 0 = 0 then min (p % 37 + o (posN p)) (moN A + 12) else min (p % 37) (moN A + 12)
def cmN (A : Ab) (o : Nat → Nat) (p : Nat) : Nat := if A.1 18 0 = 2 then p / 37 else if A.1 18 0 = 1 then o (posN p) else 0
def ncN (A : Ab) (o : Nat → Nat) (p : Nat) : Nat := if A.1 18 0 = 2 then o (posN p) else 0
def nxN (A : Ab) (o : Nat → Nat) (p e : Nat) : Nat := ncN A o p * 37 + (lfN A (xS A o p) e + cmN A o p)
def mdN (A : Ab) (o : Nat → Nat) (u : Int32) (p : Nat) : Nat := if u = 0 then 6 else min 6 (xS A o p - 12)
def PN (A : Ab) (b : Nat) (o : Nat → Nat) (u : Int32) (φ : Nat → Nat) (p : Nat) : Nat := sumN (fun e => wN A b e * φ (nxN A o p e)) (mdN A o u p + 1)
def prN (A : Ab) (b : Nat) (o : Nat → Nat) (p : Nat) : Nat := WN A b * opN A (o (posN p)) + pcN A b (xS A o p) 7
def maN (A : Ab) (b : Nat) (o : Nat → Nat) (p : Nat) : Nat := mtN A b (xS A o p) 7
def iaN (A : Ab) (b : Nat) (o : Nat → Nat) (p : Nat) : Nat := ihN A b (xS A o p) 7
theorem cut12_n (v : Int32) : ∃ k, k ≤ 12 ∧ cut12 v = nI k := by
  unfold cut12
  by_cases h1 : (0 : Int32) ≤ v
  · rw [if_pos h1]
    by_cases h2 : v ≤ 12
    · rw [if_pos h2]
      obtain ⟨j, hj, e⟩ := inr_ix (n := 12) ⟨h1, h2⟩ (by omega)
      exact ⟨j, hj, e⟩
    · rw [if_neg h2]
      exact ⟨12, by omega, rfl⟩
  · rw [if_neg h1]
    exact ⟨0, by omega, rfl⟩
/-- what a rule sends for, by the position from -12 on -/
def oR (A : Ab) (r i : Nat) : Nat := ix (ordV A r (sh i))
theorem oR_eq (A : Ab) (r i : Nat) : ordV A r (sh i) = nI (oR A r i) ∧ oR A r i ≤ 12 := by
  obtain ⟨k, hk, e⟩ := cut12_n (wntV A r (sh i))
  have e2 : ordV A r (sh i) = nI k := by rw [ordV_eq]; exact e
  have : oR A r i = k := by unfold oR; rw [e2]; exact ixn (by omega)
  rw [this]
  exact ⟨e2, hk⟩
theorem TDy.same {z a c : Nat} {σ σ' : Me} {f pl : Nat → Nat} {k : Nat} (h : TDy z σ a c f k pl) (ha : 23 ≤ a ∧ a ≤ 27) (hc : 23 ≤ c ∧ c ≤ 27) (hs : ∀ o, 23 ≤ o → o ≤ 27 → sameC σ σ' (z + o)) : TDy z σ' a c f k pl := by
  obtain ⟨h1, h2, h3, h4, h5, h6⟩ := h
  have s0 := hs 23 (by omega) (by omega)
  have s1 := hs a ha.1 ha.2
  have s2 := hs c hc.1 hc.2
  exact ⟨by rw [s0.2.2.2.2]; exact h1, by rw [s0.2.2.2.2]; exact h2, by rw [s0.2.2.1]; exact h3, fun p hp => by rw [s1.2.2.2.1]; exact h4 p hp, fun i hi => by rw [s2.2.2.1]; exact h5 i hi, h6⟩
theorem TMo.same {z a c : Nat} {σ σ' : Me} {f pl : Nat → Nat} {k : Nat} (h : TMo z σ a c f k pl) (ha : 23 ≤ a ∧ a ≤ 27) (hc : 23 ≤ c ∧ c ≤ 27) (hs : ∀ o, 23 ≤ o → o ≤ 27 → sameC σ σ' (z + o)) : TMo z σ' a c f k pl := by
  obtain ⟨h1, h2, h3, h4, h5, h6⟩ := h
  have s0 := hs 23 (by omega) (by omega)
  have s1 := hs a ha.1 ha.2
  have s2 := hs c hc.1 hc.2
  exact ⟨by rw [s0.2.2.2.2]; exact h1, by rw [s0.2.2.2.2]; exact h2, by rw [s0.2.2.1]; exact h3, fun p hp => by rw [s1.2.2.2.1]; exact h4 p hp, fun i hi => by rw [s2.2.2.1]; exact h5 i hi, h6⟩
theorem TDw.same {z a c : Nat} {σ σ' : Me} (h : TDw z σ a c) (ha : 23 ≤ a ∧ a ≤ 27) (hc : 23 ≤ c ∧ c ≤ 27) (hs : ∀ o, 23 ≤ o → o ≤ 27 → sameC σ σ' (z + o)) : TDw z σ' a c := by
  obtain ⟨h1, h2, k, hk, h3, h4, h5⟩ := h
  have s0 := hs 23 (by omega) (by omega)
  have s1 := hs a ha.1 ha.2
  have s2 := hs c hc.1 hc.2
  refine ⟨by rw [s0.2.2.2.2]; exact h1, by rw [s0.2.2.2.2]; exact h2, k, hk, by rw [s0.2.2.1]; exact h3, fun i hi => by rw [s2.2.2.1]; exact h4 i hi, fun p hp e => ?_⟩
  rw [s1.2.2.2.1] at e
  obtain ⟨i, hi, ei⟩ := h5 p hp e
  exact ⟨i, hi, by rw [s2.2.2.1]; exact ei⟩
/-- the walk at work: the shop's rows reckoned, the orders known -/
def WK (z : Nat) (σ : Me) (A : Ab) (b : Nat) (o : Nat → Nat) (u : Int32) : Prop := RC z σ A ∧ PR z σ A b 25 ∧ (∀ i, i < 49 → gI σ (z + 29) i = nI (o i)) ∧ gI σ (z + 28) 4 = u ∧ plX z σ
def WA (z : Nat) (σ : Me) (s m e : Nat) : Prop := gL σ (z + 28) 5 = lN s ∧ gL σ (z + 28) 6 = lN m ∧ gL σ (z + 28) 7 = lN e
theorem WK.same {z : Nat} {σ σ' : Me} {A : Ab} {b : Nat} {o : Nat → Nat} {u : Int32} (h : WK z σ A b o u) (hc : RC z σ' A) (h1 : ∀ o, 10 ≤ o → o ≤ 12 → ∀ j, gI σ' (z + o) j = gI σ (z + o) j) (h2 : ∀ j, gI σ' (z + 29) j = gI σ (z + 29) j) (h3 : gI σ' (z + 28) 4 = gI σ (z + 28) 4) (h4 : sameC σ σ' (z + 31)) : WK z σ' A b o u :=
  ⟨hc, fun i hi => by rw [h1 10 (by omega) (by omega), h1 11 (by omega) (by omega), h1 12 (by omega) (by omega)]; exact h.2.1 i hi, fun i hi => by rw [h2]; exact h.2.2.1 i hi, h3.trans h.2.2.2.1, h.2.2.2.2.same h4⟩
theorem WK.frA {z a c : Nat} {σ σ' : Me} {A : Ab} {b : Nat} {o : Nat → Nat} {u : Int32} (h : WK z σ A b o u) (hf : FrA z a c σ σ') (ha : 24 ≤ a ∧ a ≤ 27) (hc : 24 ≤ c ∧ c ≤ 27) : WK z σ' A b o u :=
  h.same (h.1.frA hf ha hc) (fun o h1 h2 j => (hf.same ha hc (by omega)).2.2.1 j) (fun j => (hf.same ha hc (by omega)).2.2.1 j) ((hf.same ha hc (by omega)).2.2.1 4) (hf.same ha hc (by omega))
theorem WA.same {z : Nat} {σ σ' : Me} {s m e : Nat} (h : WA z σ s m e) (h1 : ∀ j, gL σ' (z + 28) j = gL σ (z + 28) j) : WA z σ' s m e := ⟨by rw [h1]; exact h.1, by rw [h1]; exact h.2.1, by rw [h1]; exact h.2.2⟩
theorem op_le {A : Ab} (hW : WF A) {o : Nat} (ho : o ≤ 12) : opN A o ≤ 1300 := by
  have h1 : cK A ≤ 100 := (hW.c100 (f := 20) (by decide)).2
  have h2 : cC A ≤ 100 := (hW.c100 (f := 21) (by decide)).2
  have h3 : cC A * o ≤ 100 * 12 := Nat.mul_le_mul h2 ho
  unfold opN
  split <;> omega
theorem ev_le {A : Ab} (hW : WF A) {X e : Nat} (hX : X ≤ 24) (he : e < 7) : evN A X e ≤ 1800 := by
  have h1 : cH A ≤ 100 := (hW.c100 (f := 22) (by decide)).2
  have h2 : cB A ≤ 100 := (hW.c100 (f := 23) (by decide)).2
  have hf := fl_12 A
  have h3 : cH A * (lfN A X e - 12) ≤ 100 * 12 := Nat.mul_le_mul h1 (by unfold lfN; omega)
  have h4 : cB A * (e - min e (X - 12)) ≤ 100 * 6 := Nat.mul_le_mul h2 (by omega)
  unfold evN
  omega
theorem pc_le {A : Ab} (hW : WF A) {b X : Nat} (hb : b < 4) (hX : X ≤ 24) : pcN A b X 7 ≤ 113400 := sumN_le (c := 16200) 7 (fun e he => by
  have h1 := (wN_eq hW hb he).2
  have h2 : wN A b e * evN A X e ≤ 9 * 1800 := Nat.mul_le_mul h1 (ev_le hW hX he)
  omega)
theorem mt_le {A : Ab} (hW : WF A) {b X : Nat} (hb : b < 4) : mtN A b X 7 ≤ 378 := sumN_le (c := 54) 7 (fun e he => by
  have h1 := (wN_eq hW hb he).2
  have h2 : wN A b e * min e (X - 12) ≤ 9 * 6 := Nat.mul_le_mul h1 (by omega)
  omega)
theorem ih_le {A : Ab} (hW : WF A) {b X : Nat} (hb : b < 4) : ihN A b X 7 ≤ 63 := sumN_le (c := 9) 7 (fun e he => by
  have h1 := (wN_eq hW hb he).2
  show (if lfN A X e ≤ 12 then 0 else wN A b e) ≤ 9
  split <;> omega)
theorem xS_le {A : Ab} (hW : WF A) (o : Nat → Nat) (p : Nat) : xS A o p ≤ 24 := by
  have m := hW.mo
  unfold xS
  split <;> omega
theorem pos_lt {p : Nat} (hp : p < 481) : posN p < 49 := by unfold posN; omega
theorem nx_lt {A : Ab} (hW : WF A) {o : Nat → Nat} (ho : ∀ i, i < 49 → o i ≤ 12) {p e : Nat} (hp : p < 481) : lfN A (xS A o p) e + cmN A o p < 37 ∧ ncN A o p ≤ 12 ∧ nxN A o p e < 481 := by
  have h1 := xS_le hW o p
  have h2 := fl_12 A
  have h3 : lfN A (xS A o p) e ≤ 24 := by unfold lfN; omega
  have h4 := ho _ (pos_lt hp)
  have h5 : cmN A o p ≤ 12 := by
    unfold cmN
    split
    · omega
    · split <;> omega
  have h6 : ncN A o p ≤ 12 := by
    unfold ncN
    split <;> omega
  unfold nxN
  omega
theorem md_le (A : Ab) (o : Nat → Nat) (u : Int32) (p : Nat) : mdN A o u p ≤ 6 := by unfold mdN; split <;> omega
theorem sumN_pre (f : Nat → Nat) : ∀ n m, m ≤ n → sumN f m ≤ sumN f n
  | 0, m, h => by rw [show m = 0 by omega]; exact Nat.le_refl _
  | n + 1, m, h => by
    by_cases e : m = n + 1
    · rw [e]; exact Nat.le_refl _
    · have := sumN_pre f n m (by omega)
      show sumN f m ≤ sumN f n + f n
      omega
section WL
variable {z : Nat} {σ : Me} {A : Ab}
theorem C_useRule (h : RC z σ A) {q r : Nat} (ho : ruO z σ q A r) (hq : z + 59 ≤ q ∧ q < gz σ) {Q : Me → Prop} (hQ : ∀ σ', RC z σ' A → FrC z 29 29 σ σ' → (∀ i, i < 49 → gI σ' (z + 29) i = nI (oR A r i)) → Q σ') : pX10_useRule σ (z + 28) q Q := by
  refine ⟨fun n σ1 w => ∃ i, i ≤ 49 ∧ w = nI i ∧ n = 49 - i ∧ RC z σ1 A ∧ FrC z 29 29 σ σ1 ∧ ∀ j, j < i → gI σ1 (z + 29) j = nI (oR A r j), ?_, 49, 0, by omega, rfl, rfl, h, .rf, fun i hi => by omega⟩
  rintro n σ1 w ⟨i, hi, rfl, rfl, g1, g2, g3⟩
  have t28 := g1.1.tg (28, 10, 0) (by decide)
  have t29 := g1.1.tg (29, 20, 49) (by decide)
  refine ⟨t28.1, _, g1.1.rf (28, 2, 29) (by decide), t29.1, ?_⟩
  rw [t29.2]
  refine ⟨fun c => ?_, fun c => ?_⟩
  · have : 49 ≤ i := (nI_leI (by show 49 < _; omega) (by omega)).mp c
    rw [show i = 49 by omega] at g3
    exact hQ σ1 g1 g2 g3
  · have hi2 : ¬ 49 ≤ i := fun x => c ((nI_leI (by show 49 < _; omega) (by omega)).mpr x)
    have ho1 : ruO z σ1 q A r := ho.same hq (fun y h1 _ => g2.2 y (by omega)) (by rw [g2.1]; exact Nat.le_refl _)
    refine X_wants ho1 ?_
    show _ ∧ _
    rw [cut12_eq, sh_of, ← ordV_eq, (oR_eq A r i).1]
    refine ⟨t29.1, by rw [t29.2]; exact vp_in_nI (show i < 49 by omega) (by show 49 < _; omega), ?_⟩
    rintro _ rfl _ rfl
    rw [nI_clamp (show i < 2 ^ 31 by omega)]
    refine ⟨49 - (i + 1), by omega, i + 1, by omega, sc1 i, rfl, g1.sI (o := 29) (by unfold scr; omega) _, g2.tr (.sI (by show 29 ≤ 29; omega) (by show 29 ≤ 29; omega) _), fun j hj => ?_⟩
    show gI (sI σ1 (z + 29) i _) (z + 29) j = _
    by_cases e : j = i
    · rw [e, gI_sI_eq]
    · rw [gI_sI_nk e]
      exact g3 j (by omega)
end WL
