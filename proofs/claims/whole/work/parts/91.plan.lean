/-! The best that can be done: numbers. -/
def mnA (f : Nat → Nat) : Nat → Nat × Nat
  | 0 => (f 0, 0)
  | n + 1 => if f (n + 1) < (mnA f n).1 then (f (n + 1), n + 1) else mnA f n
theorem mnA_s (f : Nat → Nat) (n : Nat) : mnA f (n + 1) = if f (n + 1) < (mnA f n).1 then (f (n + 1), n + 1) else mnA f n := rfl
theorem mnA_0 {f : Nat → Nat} : ∀ n, (∀ a, a ≤ n → f 0 ≤ f a) → mnA f n = (f 0, 0)
  | 0, _ => rfl
  | n + 1, h => by
    rw [mnA_s, mnA_0 n (fun a ha => h a (by omega)), if_neg]
    have := h (n + 1) (Nat.le_refl _)
    show ¬ f (n + 1) < f 0
    omega
theorem mnA_le {f : Nat → Nat} {B : Nat} : ∀ n, (∀ a, a ≤ n → f a ≤ B) → (mnA f n).1 ≤ B ∧ (mnA f n).2 ≤ n
  | 0, h => ⟨h 0 (Nat.le_refl _), Nat.le_refl _⟩
  | n + 1, h => by
    rw [mnA_s]
    split
    · exact ⟨h _ (Nat.le_refl _), Nat.le_refl _⟩
    · have := mnA_le n (fun a ha => h a (by omega))
      exact ⟨this.1, by omega⟩
theorem mnA_cg {f g : Nat → Nat} : ∀ n, (∀ a, a ≤ n → f a = g a) → mnA f n = mnA g n
  | 0, h => by
    show (f 0, 0) = (g 0, 0)
    rw [h 0 (Nat.le_refl _)]
  | n + 1, h => by
    rw [mnA_s, mnA_s, mnA_cg n (fun a ha => h a (by omega)), h (n + 1) (Nat.le_refl _)]
def xB (A : Ab) (h a : Nat) : Nat := if A.1 18 0 = 0 then min (h + a) (moN A + 12) else h
def caB (A : Ab) (c a : Nat) : Nat := if A.1 18 0 = 2 then c else if A.1 18 0 = 1 then a else 0
def ncB (A : Ab) (a : Nat) : Nat := if A.1 18 0 = 2 then a else 0
def nB (A : Ab) (h c a d : Nat) : Nat := ncB A a * 25 + min (lfN A (xB A h a) d + caB A c a) (moN A + 12)
/-- what a day and all later ones cost, where t days are later -/
def FB (A : Ab) (b : Nat) (U : Nat → Nat) (t h c a : Nat) : Nat := opN A a * WN A b ^ (t + 1) + pcN A b (xB A h a) 7 * WN A b ^ t + sumN (fun d => wN A b d * U (nB A h c a d)) 7
def usB (A : Ab) (t : Nat) : Nat := if leN A < t + 1 then 12 else 0
def UB (A : Ab) (b : Nat) : Nat → Nat → Nat
  | 0 => fun _ => 0
  | t + 1 => fun q => (mnA (FB A b (UB A b t) t (q % 25) (q / 25)) (usB A t)).1
theorem UB_s (A : Ab) (b t q : Nat) : UB A b (t + 1) q = (mnA (FB A b (UB A b t) t (q % 25) (q / 25)) (usB A t)).1 := by rw [UB]
theorem UB_0 (A : Ab) (b q : Nat) : UB A b 0 q = 0 := by rw [UB]
theorem xB_le {A : Ab} (hW : WF A) {h : Nat} (hh : h ≤ 24) (a : Nat) : xB A h a ≤ 24 := by
  have := hW.mo
  unfold xB
  split <;> omega
theorem nB_m {A : Ab} (hW : WF A) (h c a d : Nat) : nB A h c a d % 25 = min (lfN A (xB A h a) d + caB A c a) (moN A + 12) ∧ nB A h c a d / 25 = ncB A a := by
  have := hW.mo
  unfold nB
  omega
theorem FB_le {A : Ab} (hW : WF A) {b : Nat} (hb : b < 4) {U : Nat → Nat} {t h c a B : Nat} (hh : h ≤ 24) (ha : a ≤ 12) (hU : ∀ q, U q ≤ B) (hB : B ≤ 3100 * t * 63 ^ t) : FB A b U t h c a ≤ 3100 * (t + 1) * 63 ^ (t + 1) := by
  have w := WN_le hW hb
  have p1 : WN A b ^ t ≤ 63 ^ t := Nat.pow_le_pow_left w t
  have p2 : WN A b ^ (t + 1) ≤ 63 ^ (t + 1) := Nat.pow_le_pow_left w (t + 1)
  have h1 : opN A a * WN A b ^ (t + 1) ≤ 1300 * 63 ^ (t + 1) := Nat.mul_le_mul (op_le hW ha) p2
  have h2 : pcN A b (xB A h a) 7 * WN A b ^ t ≤ 113400 * 63 ^ t := Nat.mul_le_mul (pc_le hW hb (xB_le hW hh a)) p1
  have h3 : sumN (fun d => wN A b d * U (nB A h c a d)) 7 ≤ sumN (fun d => B * wN A b d) 7 := sumN_mono _ (fun d _ => by
    rw [Nat.mul_comm B]
    exact Nat.mul_le_mul_left _ (hU _))
  rw [sumN_mul] at h3
  have h4 : B * sumN (wN A b) 7 ≤ 3100 * t * 63 ^ t * 63 := Nat.mul_le_mul hB w
  have e1 : 3100 * (t + 1) * 63 ^ (t + 1) = 3100 * t * 63 ^ t * 63 + 3100 * 63 ^ (t + 1) := by
    rw [Nat.mul_add, Nat.add_mul, Nat.mul_one, Nat.pow_succ, ← Nat.mul_assoc]
  have e2 : (63 : Nat) ^ (t + 1) = 63 ^ t * 63 := Nat.pow_succ _ _
  unfold FB
  omega
theorem usB_le (A : Ab) (t : Nat) : usB A t ≤ 12 := by unfold usB; split <;> omega
theorem UB_le {A : Ab} (hW : WF A) {b : Nat} (hb : b < 4) : ∀ t q, UB A b t q ≤ 3100 * t * 63 ^ t
  | 0, q => by rw [UB_0]; omega
  | t + 1, q => by
    rw [UB_s]
    exact (mnA_le _ (fun a ha => FB_le hW hb (by omega) (by have := usB_le A t; omega) (UB_le hW hb t) (Nat.le_refl _))).1
theorem b6 {t v : Nat} (h : v ≤ 3100 * t * 63 ^ t) (ht : t ≤ 6) : v ≤ 1162937141087400 := by
  have h1 : 3100 * t * 63 ^ t ≤ 3100 * 6 * 63 ^ 6 := Nat.mul_le_mul (Nat.mul_le_mul_left _ ht) (Nat.pow_le_pow_right (by omega) ht)
  omega
theorem WF.lei {A : Ab} (hW : WF A) : (A.1 18 0 = 0 ↔ leN A = 0) ∧ (A.1 18 0 = 1 ↔ leN A = 1) ∧ (A.1 18 0 = 2 ↔ leN A = 2) := by
  obtain ⟨h1, h2⟩ := hW.le
  rw [h1]
  have : leN A = 0 ∨ leN A = 1 ∨ leN A = 2 := by omega
  rcases this with e | e | e <;> rw [e] <;> decide
/-- an order that comes behind the last day only costs -/
theorem useless {A : Ab} (hW : WF A) (b : Nat) {t h c : Nat} (ht : t + 1 ≤ leN A) (a : Nat) : FB A b (UB A b t) t h c 0 ≤ FB A b (UB A b t) t h c a := by
  obtain ⟨l0, l1, l2⟩ := hW.lei
  have h2 := hW.le.2
  have n0 : ¬ A.1 18 0 = 0 := fun e => by have := l0.mp e; omega
  have ex : ∀ a, xB A h a = h := fun a => by unfold xB; rw [if_neg n0]
  have e0 : opN A 0 = 0 := rfl
  have eS : sumN (fun d => wN A b d * UB A b t (nB A h c 0 d)) 7 = sumN (fun d => wN A b d * UB A b t (nB A h c a d)) 7 := by
    refine sumN_cg _ (fun d _ => ?_)
    congr 1
    have : t = 0 ∨ t = 1 := by omega
    rcases this with e | e
    · rw [e, UB_0, UB_0]
    · have le2 : leN A = 2 := by omega
      have c2 := l2.mpr le2
      have us : usB A 0 = 0 := by unfold usB; rw [if_neg (by omega)]
      have key : ∀ q, UB A b 1 q = pcN A b (q % 25) 7 * WN A b ^ 0 := fun q => by
        rw [UB_s, us]
        show FB A b (UB A b 0) 0 (q % 25) (q / 25) 0 = _
        unfold FB
        rw [e0, Nat.zero_mul, Nat.zero_add, sumN_cg (g := fun _ => 0) 7 (fun d _ => by rw [UB_0, Nat.mul_zero]), sumN_zero, Nat.add_zero]
        unfold xB
        rw [if_neg n0]
      rw [e, key, key, (nB_m hW h c 0 d).1, (nB_m hW h c a d).1, ex, ex]
      unfold caB
      rw [if_pos c2, if_pos c2]
  unfold FB
  rw [eS, ex, ex, e0, Nat.zero_mul]
  omega
theorem mn_useful {A : Ab} (hW : WF A) (b t h c : Nat) : mnA (FB A b (UB A b t) t h c) 12 = mnA (FB A b (UB A b t) t h c) (usB A t) := by
  unfold usB
  by_cases e : leN A < t + 1
  · rw [if_pos e]
  · rw [if_neg e, mnA_0 12 (fun a _ => useless hW b (by omega) a)]
    rfl
/-! A state of the reference, a place of the class. -/
def eta (A : Ab) (s : Nat) : Nat := s % 25 * 25 + min (s / 625 + s / 25 % 25) (moN A + 12)
def VB (A : Ab) (s : Nat) : Prop := VM A s ∧ flN A ≤ s / 625 ∧ s / 625 ≤ moN A + 12
theorem eta_m {A : Ab} (hW : WF A) (s : Nat) : eta A s % 25 = min (s / 625 + s / 25 % 25) (moN A + 12) ∧ eta A s / 25 = s % 25 := by
  have := hW.mo
  unfold eta
  omega
theorem eta_x {A : Ab} (hW : WF A) {s : Nat} (h : VM A s) (a : Nat) : xB A (eta A s % 25) a = xM A (fun _ => a) s := by
  rw [(eta_m hW s).1]
  unfold xB xM cmM
  by_cases c : A.1 18 0 = 0
  · rw [if_pos c, if_pos c, (h.2.2.2.1 c).1]
    show min (min (s / 625 + 0) (moN A + 12) + a) (moN A + 12) = min (s / 625 + a) (moN A + 12)
    omega
  · rw [if_neg c, if_neg c]
theorem eta_n {A : Ab} (hW : WF A) {s a : Nat} (h : VM A s) (ha : a ≤ 12) (d : Nat) : VB A (nM A (fun _ => a) s d) ∧ nM A (fun _ => a) s d < 17000 ∧ eta A (nM A (fun _ => a) s d) = nB A (eta A s % 25) (eta A s / 25) a d := by
  have nv := nM_v hW h (o := fun _ => a) (fun _ _ => ha) d
  have h3 := h.2.2.1
  have b1 : n1M A (fun _ => a) s ≤ 12 := by
    unfold n1M
    split
    · omega
    · split <;> omega
  have b2 : n2M A (fun _ => a) s ≤ 12 := by unfold n2M; split <;> omega
  have hl : lfN A (xM A (fun _ => a) s) d ≤ moN A + 12 := lf_le A hW (by unfold xM; omega)
  have hf : flN A ≤ lfN A (xM A (fun _ => a) s) d := by unfold lfN; omega
  have d1 : nM A (fun _ => a) s d / 625 = lfN A (xM A (fun _ => a) s) d := by unfold nM; omega
  have d2 : nM A (fun _ => a) s d / 25 % 25 = n1M A (fun _ => a) s := by unfold nM; omega
  have d3 : nM A (fun _ => a) s d % 25 = n2M A (fun _ => a) s := by unfold nM; omega
  refine ⟨⟨nv.1, by omega, by omega⟩, nv.2.1, ?_⟩
  have e0 : eta A (nM A (fun _ => a) s d) = nM A (fun _ => a) s d % 25 * 25 + min (nM A (fun _ => a) s d / 625 + nM A (fun _ => a) s d / 25 % 25) (moN A + 12) := rfl
  rw [e0, d1, d2, d3]
  unfold nB
  rw [eta_x hW h, (eta_m hW s).2]
  unfold ncB caB n1M n2M
  rcases hW.l3 with c | c | c
  · rw [c, if_pos rfl, if_neg (by decide), if_neg (by decide), if_neg (by decide)]
  · rw [c, if_neg (by decide), if_pos rfl, if_neg (by decide), if_neg (by decide), if_pos rfl]
  · rw [c, if_neg (show ¬ (2 : Int32) = 0 by decide), if_neg (show ¬ (2 : Int32) = 1 by decide)]
    simp only [if_true]
/-- the reference's sum -/
def sB (A : Ab) (b : Nat) (U : Nat → Nat) (t s a n : Nat) : Nat := sumN (fun d => wN A b d * ((opN A a + evN A (xM A (fun _ => a) s) d) * WN A b ^ t + U (eta A (nM A (fun _ => a) s d)))) n
theorem sB_7 {A : Ab} (hW : WF A) (b : Nat) (U : Nat → Nat) (t : Nat) {s a : Nat} (h : VM A s) (ha : a ≤ 12) : sB A b U t s a 7 = FB A b U t (eta A s % 25) (eta A s / 25) a := by
  unfold sB FB
  rw [eta_x hW h, sumN_cg (g := fun d => (WN A b ^ t * opN A a * wN A b d + WN A b ^ t * (wN A b d * evN A (xM A (fun _ => a) s) d)) + wN A b d * U (nB A (eta A s % 25) (eta A s / 25) a d)) 7 (fun d _ => ?_), sumN_add, sumN_add, sumN_mul, sumN_mul]
  · congr 1
    congr 1
    · show WN A b ^ t * opN A a * WN A b = _
      rw [Nat.pow_succ, Nat.mul_comm (WN A b ^ t) (opN A a), Nat.mul_assoc]
    · show WN A b ^ t * pcN A b _ 7 = _
      exact Nat.mul_comm _ _
  · rw [(eta_n hW h ha d).2.2, Nat.mul_add, Nat.add_mul, Nat.mul_add]
    congr 1
    congr 1
    · rw [Nat.mul_comm (opN A a), Nat.mul_comm (wN A b d)]
    · rw [Nat.mul_comm (evN A _ d), Nat.mul_comm (wN A b d), Nat.mul_assoc, Nat.mul_comm (evN A _ d)]
