/-- n ints (or bytes) of the array a0, from sp on, come to those of a from dp on -/
def cp (σ : Me) (a0 sp a dp n : Nat) : Me := (σ.1, σ.2.1, σ.2.2.1, fun b j => if b = a ∧ dp ≤ j ∧ j < dp + n then σ.2.2.2.1 a0 (sp + (j - dp)) else σ.2.2.2.1 b j, σ.2.2.2.2.1, σ.2.2.2.2.2)
section MX
variable {p : Program} {l : Launch} {e : Env} {R : Room} {s : State} {m : MethodId} {args : Array Value} {below : List Frame} {meth : Method} {c : Code} {H : Heap} {locs : List Loc} {cells slots : Nat} {Q : State → Prop}
variable {cc : ByteArray} {pc nL : Nat} {ls : Array Slot} {rest : List Value} {D : va_G} {cA : Nat → ClassId} {a z0 c0 N index : Nat} {σ : Me} {own ref C : String} {T : u_T}
theorem m_aastRR (X : Cx p m c cc nL s args own D cA) (hw : wS D cA z0 s σ H locs) (hT : gT σ a = 25) {i : Int32} {v : Nat} (hv : gT σ v = 0 ∨ gT σ v = 2 ∨ gT σ v = 3 ∨ gT σ v = 9) (hin : vp_in i (gN σ a)) (hdg : decode cc pc = .ok (.aastore, 1))
    (kk : ∀ (H1 : Heap) (locs1 : List Loc), wS D cA z0 s (sP σ a i.toNatClampNeg (some v)) H1 locs1 → W p l e R s m args below meth c H1 locs1 cells slots Q (F0 m (pc + 1) ls rest)) : W p l e R s m args below meth c H locs cells slots Q (F0 m pc ls (.ref v :: .int i :: .ref a :: rest)) := by
  rcases hv with hv | hv | hv | hv
  · exact m_aastR X hw hT cl0 (List.mem_of_getElem? (i := 2) rfl) hv hin hdg kk
  · exact m_aastR X hw hT cl2 (List.mem_of_getElem? (i := 4) rfl) hv hin hdg kk
  · exact m_aastR X hw hT cl3 (List.mem_of_getElem? (i := 3) rfl) hv hin hdg kk
  · exact m_aastR X hw hT cl9 (List.mem_of_getElem? (i := 1) rfl) hv hin hdg kk
theorem m_instBase (X : Cx p m c cc nL s args own D cA) (hw : wS D cA z0 s σ H locs) (hv : gT σ a = 0 ∨ gT σ a = 2 ∨ gT σ a = 3 ∨ gT σ a = 9) (hlink : Cond.classLink own index "SendForMore$Base" ∈ gTab) (hdg : decode cc pc = .ok (.instanceof index, 3)) (kk : W p l e R s m args below meth c H locs cells slots Q (F0 m (pc + 3) ls (.int (if gT σ a = 0 ∨ gT σ a = 3 then 1 else 0) :: rest))) : W p l e R s m args below meth c H locs cells slots Q (F0 m pc ls (.ref a :: rest)) := by
  rcases hv with hv | hv | hv | hv
  · rw [if_pos (by omega)] at kk
    exact va_instS X.1.1 X.1.2.1 X.1.2.2.2.1 (X.1.2.2.2.2 _ hlink) (X.2.1.1 0 _ cl0.1).2 (m_recv X.2 hw cl0 hv) hdg kk
  · rw [if_neg (by omega)] at kk
    exact va_instNo (C := RX2) (nm := "SendForMore$Base") X.1.1 X.1.2.1 X.1.2.2.2.1 (X.1.2.2.2.2 _ hlink) (X.2.2.2.2.2.1 (RX2, "SendForMore$Base") (List.mem_of_getElem? (i := 0) rfl)) (m_recv X.2 hw cl2 hv) hdg kk
  · rw [if_pos (by omega)] at kk
    exact va_instY (C := RX3) X.1.1 X.1.2.1 X.1.2.2.2.1 (X.1.2.2.2.2 _ hlink) (X.2.2.2.2.1 _ (List.mem_of_getElem? (i := 0) rfl)) (m_recv X.2 hw cl3 hv) hdg kk
  · rw [if_neg (by omega)] at kk
    exact va_instNo (C := RX9) (nm := "SendForMore$Base") X.1.1 X.1.2.1 X.1.2.2.2.1 (X.1.2.2.2.2 _ hlink) (X.2.2.2.2.2.1 (RX9, "SendForMore$Base") (List.mem_of_getElem? (i := 1) rfl)) (m_recv X.2 hw cl9 hv) hdg kk
theorem m_instPair (X : Cx p m c cc nL s args own D cA) (hw : wS D cA z0 s σ H locs) (hv : gT σ a = 0 ∨ gT σ a = 2 ∨ gT σ a = 3 ∨ gT σ a = 9) (hlink : Cond.classLink own index "SendForMore$Pair" ∈ gTab) (hdg : decode cc pc = .ok (.instanceof index, 3)) (kk : W p l e R s m args below meth c H locs cells slots Q (F0 m (pc + 3) ls (.int (if gT σ a = 3 then 1 else 0) :: rest))) : W p l e R s m args below meth c H locs cells slots Q (F0 m pc ls (.ref a :: rest)) := by
  rcases hv with hv | hv | hv | hv
  · rw [if_neg (by omega)] at kk
    exact va_instNo (C := RX0) (nm := "SendForMore$Pair") X.1.1 X.1.2.1 X.1.2.2.2.1 (X.1.2.2.2.2 _ hlink) (X.2.2.2.2.2.1 (RX0, "SendForMore$Pair") (List.mem_of_getElem? (i := 2) rfl)) (m_recv X.2 hw cl0 hv) hdg kk
  · rw [if_neg (by omega)] at kk
    exact va_instNo (C := RX2) (nm := "SendForMore$Pair") X.1.1 X.1.2.1 X.1.2.2.2.1 (X.1.2.2.2.2 _ hlink) (X.2.2.2.2.2.1 (RX2, "SendForMore$Pair") (List.mem_of_getElem? (i := 3) rfl)) (m_recv X.2 hw cl2 hv) hdg kk
  · rw [if_pos (by omega)] at kk
    exact va_instS X.1.1 X.1.2.1 X.1.2.2.2.1 (X.1.2.2.2.2 _ hlink) (X.2.1.1 3 _ cl3.1).2 (m_recv X.2 hw cl3 hv) hdg kk
  · rw [if_neg (by omega)] at kk
    exact va_instNo (C := RX9) (nm := "SendForMore$Pair") X.1.1 X.1.2.1 X.1.2.2.2.1 (X.1.2.2.2.2 _ hlink) (X.2.2.2.2.2.1 (RX9, "SendForMore$Pair") (List.mem_of_getElem? (i := 4) rfl)) (m_recv X.2 hw cl9 hv) hdg kk
theorem m_instLot (X : Cx p m c cc nL s args own D cA) (hw : wS D cA z0 s σ H locs) (hv : gT σ a = 0 ∨ gT σ a = 2 ∨ gT σ a = 3 ∨ gT σ a = 9) (hlink : Cond.classLink own index "SendForMore$Lot" ∈ gTab) (hdg : decode cc pc = .ok (.instanceof index, 3)) (kk : W p l e R s m args below meth c H locs cells slots Q (F0 m (pc + 3) ls (.int (if gT σ a = 2 then 1 else 0) :: rest))) : W p l e R s m args below meth c H locs cells slots Q (F0 m pc ls (.ref a :: rest)) := by
  rcases hv with hv | hv | hv | hv
  · rw [if_neg (by omega)] at kk
    exact va_instNo (C := RX0) (nm := "SendForMore$Lot") X.1.1 X.1.2.1 X.1.2.2.2.1 (X.1.2.2.2.2 _ hlink) (X.2.2.2.2.2.1 (RX0, "SendForMore$Lot") (List.mem_of_getElem? (i := 5) rfl)) (m_recv X.2 hw cl0 hv) hdg kk
  · rw [if_pos (by omega)] at kk
    exact va_instS X.1.1 X.1.2.1 X.1.2.2.2.1 (X.1.2.2.2.2 _ hlink) (X.2.1.1 2 _ cl2.1).2 (m_recv X.2 hw cl2 hv) hdg kk
  · rw [if_neg (by omega)] at kk
    exact va_instNo (C := RX3) (nm := "SendForMore$Lot") X.1.1 X.1.2.1 X.1.2.2.2.1 (X.1.2.2.2.2 _ hlink) (X.2.2.2.2.2.1 (RX3, "SendForMore$Lot") (List.mem_of_getElem? (i := 6) rfl)) (m_recv X.2 hw cl3 hv) hdg kk
  · rw [if_neg (by omega)] at kk
    exact va_instNo (C := RX9) (nm := "SendForMore$Lot") X.1.1 X.1.2.1 X.1.2.2.2.1 (X.1.2.2.2.2 _ hlink) (X.2.2.2.2.2.1 (RX9, "SendForMore$Lot") (List.mem_of_getElem? (i := 7) rfl)) (m_recv X.2 hw cl9 hv) hdg kk
theorem m_castBase (X : Cx p m c cc nL s args own D cA) (hw : wS D cA z0 s σ H locs) (hv : gT σ a = 0 ∨ gT σ a = 3) (hlink : Cond.classLink own index "SendForMore$Base" ∈ gTab) (hdg : decode cc pc = .ok (.checkcast index, 3)) (kk : W p l e R s m args below meth c H locs cells slots Q (F0 m (pc + 3) ls (.ref a :: rest))) : W p l e R s m args below meth c H locs cells slots Q (F0 m pc ls (.ref a :: rest)) := by
  rcases hv with hv | hv
  · exact va_castS X.1.1 X.1.2.1 X.1.2.2.2.1 (X.1.2.2.2.2 _ hlink) (X.2.1.1 0 _ cl0.1).2 (m_recv X.2 hw cl0 hv) hdg kk
  · exact va_castY (C := RX3) X.1.1 X.1.2.1 X.1.2.2.2.1 (X.1.2.2.2.2 _ hlink) (X.2.2.2.2.1 _ (List.mem_of_getElem? (i := 0) rfl)) (m_recv X.2 hw cl3 hv) hdg kk
theorem m_castS (X : Cx p m c cc nL s args own D cA) (hw : wS D cA z0 s σ H locs) (K : Cls c0 C T N) (hv : gT σ a = c0) (hlink : Cond.classLink own index C ∈ gTab) (hdg : decode cc pc = .ok (.checkcast index, 3)) (kk : W p l e R s m args below meth c H locs cells slots Q (F0 m (pc + 3) ls (.ref a :: rest))) : W p l e R s m args below meth c H locs cells slots Q (F0 m pc ls (.ref a :: rest)) :=
  va_castS X.1.1 X.1.2.1 X.1.2.2.2.1 (X.1.2.2.2.2 _ hlink) (X.2.1.1 c0 _ K.1).2 (m_recv X.2 hw K hv) hdg kk
theorem m_getTop (X : Cx p m c cc nL s args own D cA) (hw : wS D cA z0 s σ H locs) (hv : gT σ a = 0 ∨ gT σ a = 3) (hlink : Cond.fieldLink own index "SendForMore$Base" "top" "I" ∈ gTab) (hdg : decode cc pc = .ok (.getfield index, 3)) (kk : W p l e R s m args below meth c H locs cells slots Q (F0 m (pc + 3) ls (.int (gI σ a 0) :: rest))) : W p l e R s m args below meth c H locs cells slots Q (F0 m pc ls (.ref a :: rest)) := by
  rcases hv with hv | hv
  · exact m_get X hw cl0 hv 0 (by decide) hlink (fun _ h => h) (v := .int _) rfl hdg kk
  · exact m_get X hw cl3 hv 0 (by decide) hlink (fun _ h => h) (v := .int _) rfl hdg kk
theorem m_copy (X : Cx p m c cc nL s args own D cA) (hw : wS D cA z0 s σ H locs) {t a0 : Nat} (ht : t = 0 ∨ t = 3) (hT0 : gT σ a0 = 20 + t) (hT1 : gT σ a = 20 + t) {sp dp n : Int32} (h1 : ¬ sp < 0) (h2 : ¬ dp < 0) (h3 : ¬ n < 0) (h4 : sp.toNatClampNeg + n.toNatClampNeg ≤ gN σ a0) (h5 : dp.toNatClampNeg + n.toNatClampNeg ≤ gN σ a) (hfit : ∀ i, i < n.toNatClampNeg → fits (tyA t) (.int (gI σ a0 (sp.toNatClampNeg + i))) = true)
    (hl : Cond.methodLink own index arraycopyName ∈ gTab) (hsz : ls.size = nL) (hf : 1 ≤ R.frames) (hlo : (rest.map fun v => v.category).sum + (nativeFrameWords "java/lang/System" "arraycopy" 5 + 11) ≤ R.locals) (hdg : decode cc pc = .ok (.invokestatic index, 3))
    (kk : ∀ (H1 : Heap) (locs1 : List Loc), wS D cA z0 s (cp σ a0 sp.toNatClampNeg a dp.toNatClampNeg n.toNatClampNeg) H1 locs1 → W p l e R s m args below meth c H1 locs1 cells slots Q (F0 m (pc + 3) ls rest)) : W p l e R s m args below meth c H locs cells slots Q (F0 m pc ls (.int n :: .int dp :: .ref a :: .int sp :: .ref a0 :: rest)) := by
  obtain ⟨⟨hx, hb, hml, hown, hts⟩, hK⟩ := X
  have hkd : kd (tyA t) = 0 := by rcases ht with rfl | rfl <;> rfl
  have hpr : refKind (tyA t) = false := by rcases ht with rfl | rfl <;> rfl
  obtain ⟨z1, y1, hc0⟩ := wd_arr hw.1 hT0 (by omega)
  obtain ⟨z2, y2, hc1⟩ := wd_arr hw.1 hT1 (by omega)
  have hV : ∀ q, (fun k => fv (kd (tyA t)) σ q k) = fun j => Value.int (gI σ q j) := fun q => by funext k; rw [hkd]; rfl
  rw [hV] at hc0 hc1
  have nn : ∀ z : Int32, ¬ z < 0 → z.toInt = (z.toNatClampNeg : Int) := by
    intro z hz
    have hz0 : (0 : Int) ≤ z.toInt := by
      have := Int32.not_lt.mp hz
      simpa using Int32.le_iff_toInt_le.mp this
    show z.toInt = ((z.toInt.toNat : Nat) : Int)
    omega
  intro T hT X
  obtain ⟨-, k0, hk0, cm0, hkk0⟩ := (arr_ty hK t (by omega)).1 (gN σ a0) (fun j => .int (gI σ a0 j))
  obtain ⟨-, k1, hk1, cm1, hkk1⟩ := (arr_ty hK t (by omega)).1 (gN σ a) (fun j => .int (gI σ a j))
  obtain ⟨vm', X', step⟩ := X.arraycopy hx hown (hts _ hl) (hts _ wa_na) (hts _ wa_st) (hts _ wa_in) (src := a0) (dst := a) (cs := arrV (cA t) (gN σ a0) (fun j => .int (gI σ a0 j))) (cd := arrV (cA t) (gN σ a) (fun j => .int (gI σ a j))) (srcPos := sp) (destPos := dp) (n := n) (by rw [hT]; exact hc0) (by rw [hT]; exact hc1)
    (fun _ h => by cases h) (fun _ h => by cases h) (fun h => by cases h) (fun h => by cases h) hk0 hk1 hkk0 hkk1 (by simp [hpr]) h1 h2 h3
    (by rw [nn sp h1, nn n h3, arrV_size]; omega)
    (by rw [nn dp h2, nn n h3, arrV_size]; omega)
    (fun vm₁ _ i hi => by
      have e : (arrV (cA t) (gN σ a0) (fun j => Value.int (gI σ a0 j))).slots.getD (sp.toNatClampNeg + i) .null = .int (gI σ a0 (sp.toNatClampNeg + i)) := by
        rw [Array.getD_eq_getD_getElem?, arrV_read _ _ (by omega)]
        rfl
      refine ⟨?_, ?_⟩
      · rw [e]
        exact hfit i hi
      · rw [e]
        exact trivial)
    (g := F0 m pc ls (.int n :: .int dp :: .ref a :: .int sp :: .ref a0 :: rest)) rfl (hsz.trans hml.symm) (rest := rest) rfl (by rw [hb]; exact hdg) hf (by show 2 * 0 + _ + _ ≤ _; omega)
  have e1 : copied (arrV (cA t) (gN σ a0) (fun j => Value.int (gI σ a0 j))) (arrV (cA t) (gN σ a) (fun j => Value.int (gI σ a j))) sp dp n = arrV (cA t) (gN σ a) (fun j => .int (va_cpy (gI σ a0) (gI σ a) sp.toNatClampNeg dp.toNatClampNeg n.toNatClampNeg j)) := va_copied (fun z => .int z) (cA t) (cA t) (gI σ a0) (gI σ a) h4
  rw [e1] at X' step
  have hlt : a < H.size := (Array.getElem?_eq_some_iff.mp hc1).1
  generalize hnc : arrV (cA t) (gN σ a) (fun j => Value.int (va_cpy (gI σ a0) (gI σ a) sp.toNatClampNeg dp.toNatClampNeg n.toNatClampNeg j)) = NC at X' step
  have hheap : ((T.setVm vm').setCell a NC).heap = H.setIfInBounds a NC := by rw [← hT]; rfl
  have oq : ∀ q : Nat, q ≠ a → (H.setIfInBounds a NC)[q]? = H[q]? := fun q hq => by simp [Array.getElem?_setIfInBounds, Ne.symm hq]
  have hself : (H.setIfInBounds a NC)[a]? = some NC := by simp [Array.getElem?_setIfInBounds, hlt]
  have hwd : wd D cA z0 (cp σ a0 sp.toNatClampNeg a dp.toNatClampNeg n.toNatClampNeg) (H.setIfInBounds a NC) := by
    refine wd_set (a := a) hw.1 rfl (fun _ => rfl) (fun _ => rfl) (fun q j hq => by simp [gI, cp, hq]) (fun _ _ _ => rfl) (fun _ _ _ => rfl) (by simp) oq ⟨fun h => ?_, fun h => ?_⟩
    · have : gT σ a < 20 := h
      omega
    · have e2 : gT (cp σ a0 sp.toNatClampNeg a dp.toNatClampNeg n.toNatClampNeg) a = 20 + t := hT1
      rw [hself, e2, Nat.add_sub_cancel_left, ← hnc]
      congr 2
      funext k
      rw [hkd]
      show _ = Value.int _
      congr 1
      simp [va_cpy, gI, cp]
  obtain ⟨t', a1, b1⟩ := kk _ _ ⟨hwd, ⟨by simp; exact hw.2.1, fun q g1 g2 => by
      rw [oq q (fun e => g2 (by rw [e]; exact z2))]
      exact hw.2.2.1 q g1 g2, fun q hq => by
      rcases List.mem_append.mp hq with h | h
      · exact hw.2.2.2 q h
      · obtain ⟨z, -, hz⟩ := List.mem_map.mp h
        rw [← hz]
        exact z2⟩⟩ _ hheap X'
  exact ⟨t', step t' a1, b1⟩
end MX
