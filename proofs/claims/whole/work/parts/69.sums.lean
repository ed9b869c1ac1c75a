/-! Sums over listed places. -/
theorem sumN_add (f g : Nat → Nat) : ∀ n, sumN (fun i => f i + g i) n = sumN f n + sumN g n
  | 0 => rfl
  | n + 1 => by
    show sumN (fun i => f i + g i) n + (f n + g n) = sumN f n + f n + (sumN g n + g n)
    rw [sumN_add f g n]
    omega
theorem sumN_mul (f : Nat → Nat) (c : Nat) : ∀ n, sumN (fun i => c * f i) n = c * sumN f n
  | 0 => rfl
  | n + 1 => by
    show sumN (fun i => c * f i) n + c * f n = c * (sumN f n + f n)
    rw [sumN_mul f c n, Nat.mul_add]
theorem sumN_upd (f : Nat → Nat) (j c : Nat) : ∀ n, sumN (fun i => if i = j then f i + c else f i) n = sumN f n + (if j < n then c else 0)
  | 0 => by rw [if_neg (by omega)]; rfl
  | n + 1 => by
    show sumN (fun i => if i = j then f i + c else f i) n + (if n = j then f n + c else f n) = sumN f n + f n + (if j < n + 1 then c else 0)
    rw [sumN_upd f j c n]
    by_cases h : n = j
    · rw [if_pos h, if_neg (by omega), if_pos (by omega)]
      omega
    · rw [if_neg h]
      by_cases h2 : j < n
      · rw [if_pos h2, if_pos (by omega)]
        omega
      · rw [if_neg h2, if_neg (by omega)]
        omega
theorem sumN_ge (f : Nat → Nat) : ∀ n i, i < n → f i ≤ sumN f n
  | 0, i, h => by omega
  | n + 1, i, h => by
    show f i ≤ sumN f n + f n
    by_cases e : i = n
    · rw [e]
      omega
    · have := sumN_ge f n i (by omega)
      omega
theorem sumN_mono {f g : Nat → Nat} : ∀ n, (∀ i, i < n → f i ≤ g i) → sumN f n ≤ sumN g n
  | 0, _ => Nat.le_refl _
  | n + 1, h => by
    show sumN f n + f n ≤ sumN g n + g n
    have h1 := sumN_mono n (fun i hi => h i (by omega))
    have h2 := h n (by omega)
    omega
theorem sumN_zero : ∀ n, sumN (fun _ => 0) n = 0
  | 0 => rfl
  | n + 1 => by show sumN (fun _ => 0) n + 0 = 0; rw [sumN_zero n]
theorem pigeon : ∀ (N k : Nat) (pl : Nat → Nat), (∀ i, i < k → pl i < N) → (∀ i, i < k → ∀ j, j < k → pl i = pl j → i = j) → k ≤ N
  | 0, k, pl, h, _ => by
    rcases Nat.eq_zero_or_pos k with q | q
    · omega
    · have := h 0 q
      omega
  | N + 1, k, pl, h, hi => by
    rcases Nat.eq_zero_or_pos k with q | q
    · omega
    · by_cases e : ∃ i0, i0 < k ∧ pl i0 = N
      · obtain ⟨i0, h0, e0⟩ := e
        have := pigeon N (k - 1) (fun i => if i = i0 then pl (k - 1) else pl i) (fun i hk => by
          show (if i = i0 then pl (k - 1) else pl i) < N
          by_cases c : i = i0
          · rw [if_pos c]
            have a := h (k - 1) (by omega)
            have b : pl (k - 1) ≠ N := fun x => by
              have := hi (k - 1) (by omega) i0 h0 (by rw [x, e0])
              omega
            omega
          · rw [if_neg c]
            have a := h i (by omega)
            have b : pl i ≠ N := fun x => c (hi i (by omega) i0 h0 (by rw [x, e0]))
            omega) (fun i h1 j h2 => by
          show (if i = i0 then pl (k - 1) else pl i) = (if j = i0 then pl (k - 1) else pl j) → i = j
          by_cases c : i = i0
          · by_cases d : j = i0
            · intro _
              omega
            · rw [if_pos c, if_neg d]
              intro x
              have := hi (k - 1) (by omega) j (by omega) x
              omega
          · by_cases d : j = i0
            · rw [if_neg c, if_pos d]
              intro x
              have := hi i (by omega) (k - 1) (by omega) x
              omega
            · rw [if_neg c, if_neg d]
              exact hi i (by omega) j (by omega))
        omega
      · have := pigeon N k pl (fun i hk => by
          have a := h i hk
          have b : pl i ≠ N := fun x => e ⟨i, hk, x⟩
          omega) hi
        omega
/-- the weights f lie at the listed places -/
def lstd (f : Nat → Nat) (N k : Nat) (pl : Nat → Nat) : Prop := (∀ i, i < k → pl i < N ∧ f (pl i) ≠ 0) ∧ (∀ i, i < k → ∀ j, j < k → pl i = pl j → i = j) ∧ (∀ p, p < N → f p ≠ 0 → ∃ i, i < k ∧ pl i = p)
def ES (f : Nat → Nat) (k : Nat) (pl : Nat → Nat) (φ : Nat → Nat) : Nat := sumN (fun i => f (pl i) * φ (pl i)) k
def upN (f : Nat → Nat) (p w : Nat) : Nat → Nat := fun x => if x = p then f x + w else f x
def apN (pl : Nat → Nat) (k p : Nat) : Nat → Nat := fun i => if i = k then p else pl i
theorem lst_le {f : Nat → Nat} {N k : Nat} {pl : Nat → Nat} (h : lstd f N k pl) : k ≤ N := pigeon N k pl (fun i hi => (h.1 i hi).1) h.2.1
theorem lst_bd {f : Nat → Nat} {N k : Nat} {pl : Nat → Nat} (h : lstd f N k pl) {p : Nat} (hp : p < N) : f p ≤ ES f k pl (fun _ => 1) := by
  by_cases e : f p = 0
  · omega
  · obtain ⟨i, hi, rfl⟩ := h.2.2 p hp e
    exact Nat.le_trans (Nat.le_of_eq (Nat.mul_one _).symm) (sumN_ge (fun i => f (pl i) * 1) k i hi)
theorem lst_new {f : Nat → Nat} {N k : Nat} {pl : Nat → Nat} (h : lstd f N k pl) {p w : Nat} (hp : p < N) (hw : 0 < w) (h0 : f p = 0) : k < N ∧ lstd (upN f p w) N (k + 1) (apN pl k p) ∧ ∀ φ, ES (upN f p w) (k + 1) (apN pl k p) φ = ES f k pl φ + w * φ p := by
  have np : ∀ i, i < k → pl i ≠ p := fun i hi e => (h.1 i hi).2 (by rw [e]; exact h0)
  have a1 : ∀ i, i < k → apN pl k p i = pl i := fun i hi => if_neg (by omega)
  have a2 : apN pl k p k = p := if_pos rfl
  have u1 : ∀ x, x ≠ p → upN f p w x = f x := fun x hx => if_neg hx
  have u2 : upN f p w p = w := by
    show (if p = p then f p + w else f p) = w
    rw [if_pos rfl, h0]
    omega
  have L : lstd (upN f p w) N (k + 1) (apN pl k p) := by
    refine ⟨fun i hi => ?_, fun i hi j hj e => ?_, fun x hx e => ?_⟩
    · by_cases c : i = k
      · rw [c, a2, u2]
        exact ⟨hp, by omega⟩
      · rw [a1 i (by omega), u1 _ (np i (by omega))]
        exact h.1 i (by omega)
    · by_cases c : i = k
      · by_cases d : j = k
        · omega
        · rw [c, a2, a1 j (by omega)] at e
          exact absurd e.symm (np j (by omega))
      · by_cases d : j = k
        · rw [d, a2, a1 i (by omega)] at e
          exact absurd e (np i (by omega))
        · rw [a1 i (by omega), a1 j (by omega)] at e
          exact h.2.1 i (by omega) j (by omega) e
    · by_cases c : x = p
      · exact ⟨k, by omega, by rw [a2, c]⟩
      · rw [u1 x c] at e
        obtain ⟨i, hi, ei⟩ := h.2.2 x hx e
        exact ⟨i, by omega, by rw [a1 i hi, ei]⟩
  refine ⟨lst_le L, L, fun φ => ?_⟩
  show sumN (fun i => upN f p w (apN pl k p i) * φ (apN pl k p i)) k + upN f p w (apN pl k p k) * φ (apN pl k p k) = _
  rw [a2, u2, sumN_cg k (fun i hi => by rw [a1 i hi, u1 _ (np i hi)])]
  rfl
theorem lst_old {f : Nat → Nat} {N k : Nat} {pl : Nat → Nat} (h : lstd f N k pl) {p w : Nat} (hp : p < N) (h0 : f p ≠ 0) : lstd (upN f p w) N k pl ∧ ∀ φ, ES (upN f p w) k pl φ = ES f k pl φ + w * φ p := by
  obtain ⟨i0, hi0, rfl⟩ := h.2.2 p hp h0
  have ge : ∀ x, f x ≤ upN f (pl i0) w x := fun x => by
    show f x ≤ (if x = pl i0 then f x + w else f x)
    split <;> omega
  refine ⟨⟨fun i hi => ⟨(h.1 i hi).1, ?_⟩, h.2.1, fun x hx e => ?_⟩, fun φ => ?_⟩
  · have a := (h.1 i hi).2
    have b := ge (pl i)
    omega
  · by_cases c : x = pl i0
    · exact ⟨i0, hi0, c.symm⟩
    · refine h.2.2 x hx ?_
      have : upN f (pl i0) w x = f x := if_neg c
      rw [this] at e
      exact e
  · unfold ES
    rw [sumN_cg (g := fun i => if i = i0 then f (pl i) * φ (pl i) + w * φ (pl i0) else f (pl i) * φ (pl i)) k (fun i hi => ?_), sumN_upd (fun i => f (pl i) * φ (pl i)), if_pos hi0]
    by_cases c : i = i0
    · subst c
      rw [if_pos rfl]
      show (if pl i = pl i then f (pl i) + w else f (pl i)) * φ (pl i) = _
      rw [if_pos rfl, Nat.add_mul]
    · rw [if_neg c]
      show (if pl i = pl i0 then f (pl i) + w else f (pl i)) * φ (pl i) = _
      rw [if_neg (fun e => c (h.2.1 i hi i0 hi0 e))]
/-- the weights after t days, as what they give to a function of the place -/
def pw (P : (Nat → Nat) → Nat → Nat) : Nat → (Nat → Nat) → Nat → Nat
  | 0, φ => φ
  | t + 1, φ => pw P t (P φ)
/-- what is added up over t days -/
def ac (P : (Nat → Nat) → Nat → Nat) (W : Nat) (ψ : Nat → Nat) (p0 : Nat) : Nat → Nat
  | 0 => 0
  | t + 1 => ac P W ψ p0 t * W + pw P t ψ p0
theorem pw_front (P : (Nat → Nat) → Nat → Nat) : ∀ t φ, pw P (t + 1) φ = P (pw P t φ)
  | 0, _ => rfl
  | t + 1, φ => by
    show pw P (t + 1) (P φ) = P (pw P t (P φ))
    exact pw_front P t (P φ)
