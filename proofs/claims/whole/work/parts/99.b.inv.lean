/-! What holds when both are made. -/
def A0 : Ab := (fun f _ => if f = 7 then -1 else if f = 17 then 12 else if f = 20 then 10 else if f = 21 then 1 else if f = 22 then 1 else if f = 23 then 5 else if f = 48 then -9 else if f = 49 then -9 else 0, 0, 1)
def rF : Me := mS 4
theorem A0_g : GA A0 := by
  refine ⟨⟨fun b _ => Or.inl rfl, fun j _ => ⟨0, by omega, rfl⟩, fun s _ => Or.inl rfl, fun j _ => ?_, ⟨0, by omega, rfl⟩, ⟨12, by omega, by omega, rfl⟩, ⟨0, by omega, rfl⟩, Or.inl rfl, fun f hf => ?_, ⟨0, by omega, rfl⟩, fun j _ => ⟨0, by omega, rfl⟩⟩, ⟨0, by omega, rfl, fun r hr => by omega⟩, fun r _ => Or.inl rfl⟩
  · show (0 : Int32).toInt8.toInt32 = 0
    decide
  · rcases hf with rfl | rfl | rfl | rfl
    · exact ⟨10, by omega, rfl⟩
    · exact ⟨1, by omega, rfl⟩
    · exact ⟨1, by omega, rfl⟩
    · exact ⟨5, by omega, rfl⟩
theorem f_tg : ∀ q ∈ tgX, gT rF q.1 = q.2.1 ∧ gN rF q.1 = q.2.2 := by decide +kernel
theorem f_rf : ∀ q ∈ rfX, gP rF q.1 q.2.1 = some q.2.2 := by decide +kernel
theorem f_ce : ∀ q ∈ ceX, gI rF q.2.2.1 q.2.2.2 = A0.1 q.1 q.2.1 := by decide +kernel
theorem f_8 : ∀ r, r < 12 → gP rF 8 r = none := by decide +kernel
theorem f_M : ∀ q ∈ rowsM, gP rF 36 q.1 = some (36 + q.2.1) ∧ gT rF (36 + q.2.1) = q.2.2.1 ∧ gN rF (36 + q.2.1) = q.2.2.2 := by decide +kernel
theorem f_sc : ∀ f ∈ scM, gI rF 36 f = A0.1 f 0 := by decide +kernel
theorem f_ar : ∀ q ∈ arM, ∀ j, j < q.2.2 → gI rF (36 + q.2.1) j = A0.1 q.1 j := by decide +kernel
theorem f_L (p : Nat) : gL rF 24 p = 0 ∧ gL rF 25 p = 0 := ⟨rfl, rfl⟩
theorem f_19 (j : Nat) : gI rF 55 j = 0 := rfl
theorem inv_0 (z : Nat) : Inv z 0 (lift z rF) := by
  have hz : gz (lift z rF) = z + 59 := by
    show z + rF.1 = _
    rw [show rF.1 = 59 by decide +kernel]
  have sh0 : shX z (lift z rF) := ⟨fun q hq => ⟨l_T (f_tg q hq).1, l_N (f_tg q hq).2⟩, fun q hq => l_P (f_rf q hq), by rw [hz]; exact Nat.le_refl _⟩
  refine ⟨A0, ⟨sh0, fun q hq => ?_, ⟨?_, ?_⟩, Or.inl ⟨?_, rfl, rfl⟩, fun r hr => ⟨fun c => ?_, fun _ => ?_⟩, ?_, Or.inl ⟨l_P (o := 31) (by decide +kernel), l_P (o := 31) (by decide +kernel)⟩⟩, ⟨⟨l_T (o := 36) (by decide +kernel), fun q hq => ?_⟩, fun f hf => ?_, fun q hq j hj => ?_, ?_, ?_, 0, ?_, by omega, fun j hj => ⟨0, ?_, by omega⟩⟩, A0_g⟩
  · rw [lG_I]
    exact f_ce q hq
  · exact (lG_L z rF 0 14).trans (by decide +kernel)
  · exact (lG_L z rF 0 15).trans (by decide +kernel)
  · exact (lG_I z rF 0 9).trans (by decide +kernel)
  · exact absurd c.1 (by show ¬ r < ix (0 : Int32); rw [show ix (0 : Int32) = 0 by decide]; omega)
  · rw [lG_P, f_8 r hr]
    rfl
  · refine ⟨24, 25, 26, 27, Or.inl ⟨rfl, rfl, rfl, rfl⟩, l_P (o := 23) (by decide +kernel), l_P (o := 23) (by decide +kernel), l_P (o := 23) (by decide +kernel), l_P (o := 23) (by decide +kernel), (lG_I z rF 23 5).trans (by decide +kernel), fun p hp => (lG_L z rF 25 p).trans (f_L p).2, 0, by omega, (lG_I z rF 23 4).trans (by decide +kernel), fun i hi => by omega, fun p hp q => ?_⟩
    exact absurd ((lG_L z rF 24 p).trans (f_L p).1) q
  · obtain ⟨a1, a2, a3⟩ := f_M q hq
    rw [Nat.add_assoc]
    exact ⟨l_P a1, l_T a2, l_N a3⟩
  · rw [lG_I]
    exact f_sc f hf
  · rw [Nat.add_assoc, lG_I]
    exact f_ar q hq j hj
  · exact (lG_L z rF 36 2).trans (by decide +kernel)
  · exact (lG_L z rF 36 3).trans (by decide +kernel)
  · exact (lG_I z rF 36 38).trans (by decide +kernel)
  · rw [Nat.add_assoc]
    exact (lG_I z rF 55 j).trans (f_19 j)
theorem start_all : Start Inv := by
  intro z
  rw [lift_0, lift_nw]
  show pX11_init (lift z r0) z _
  refine start_X z ?_
  refine l_obj (p := 36) (R' := m0) (by decide +kernel) rfl ?_
  exact start_M z ⟨rfl, inv_0 z⟩
