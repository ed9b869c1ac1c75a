/-- what the tables say at the law's entry -/
theorem kn_start {s : State} {b : Nat} (hts : ∀ w ∈ lw_tbl, w.before #[Value.ref b] s = true) (hgv : (_root_.Jvm.Cond.and given_1 narrow_1).before #[Value.ref b] s = true) : ∃ (D : va_G) (cA : Nat → ClassId), KN D cA s ∧ AO3 s := by
  have hg : ∀ w ∈ gTab, w.before #[Value.ref b] s = true := fun w hw => hts w (List.mem_filter.mp hw).1
  obtain ⟨c0, i0, hK0⟩ := u_known (C := RX0) (T := TX0) (N := 1) (n := 1) hg cl0.2.1 (hts (.instantiable RX0 1) (by decide +kernel))
  obtain ⟨c1, i1, hK1⟩ := u_known (C := RX1) (T := TX1) (N := 2) (n := 2) hg cl1.2.1 (hts (.instantiable RX1 2) (by decide +kernel))
  obtain ⟨c2, i2, hK2⟩ := u_known (C := RX2) (T := TX2) (N := 2) (n := 2) hg cl2.2.1 (hts (.instantiable RX2 2) (by decide +kernel))
  obtain ⟨c3, i3, hK3⟩ := u_known (C := RX3) (T := TX3) (N := 2) (n := 2) hg cl3.2.1 (hts (.instantiable RX3 2) (by decide +kernel))
  obtain ⟨c4, i4, hK4⟩ := u_known (C := RX4) (T := TX4) (N := 7) (n := 7) hg cl4.2.1 (hts (.instantiable RX4 7) (by decide +kernel))
  obtain ⟨c6, i6, hK6⟩ := u_known (C := RX6) (T := TX6) (N := 10) (n := 10) hg cl6.2.1 (hts (.instantiable RX6 10) (by decide +kernel))
  obtain ⟨c7, i7, hK7⟩ := u_known (C := RX7) (T := TX7) (N := 6) (n := 6) hg cl7.2.1 (hts (.instantiable RX7 6) (by decide +kernel))
  obtain ⟨c8, i8, hK8⟩ := u_known (C := RX8) (T := TX8) (N := 6) (n := 6) hg cl8.2.1 (hts (.instantiable RX8 6) (by decide +kernel))
  obtain ⟨c9, i9, hK9⟩ := u_known (C := RX9) (T := TX9) (N := 1) (n := 1) hg cl9.2.1 (hts (.instantiable RX9 1) (by decide +kernel))
  obtain ⟨c10, i10, hK10⟩ := u_known (C := RX10) (T := TX10) (N := 8) (n := 8) hg cl10.2.1 (hts (.instantiable RX10 8) (by decide +kernel))
  obtain ⟨c11, i11, hK11⟩ := u_known (C := RX11) (T := TX11) (N := 18) (n := 18) hg cl11.2.1 (hts (.instantiable RX11 18) (by decide +kernel))
  obtain ⟨c12, i12, hK12⟩ := u_known (C := RX12) (T := TX12) (N := 57) (n := 57) hg cl12.2.1 (hts (.instantiable RX12 57) (by decide +kernel))
  obtain ⟨x0, k0, y0, f0, g0, h0⟩ := Cond.arrayClass_spec (hts (.arrayClass .int) (by decide +kernel))
  obtain ⟨x1, k1, y1, f1, g1, h1⟩ := Cond.arrayClass_spec (hts (.arrayClass .long) (by decide +kernel))
  obtain ⟨x2, k2, y2, f2, g2, h2⟩ := Cond.arrayClass_spec (hts (.arrayClass .boolean) (by decide +kernel))
  obtain ⟨x3, k3, y3, f3, g3, h3⟩ := Cond.arrayClass_spec (hts (.arrayClass .byte) (by decide +kernel))
  have a4 : va_AO "SendForMore$Book" s := hts (.arrayOver (.object "SendForMore$Book")) (by decide +kernel)
  have a5 : va_AO "SendForMore$Rule" s := hts (.arrayOver (.object "SendForMore$Rule")) (by decide +kernel)
  have a6 : aoB s := hts (.arrayOver (.array .byte)) (by decide +kernel)
  obtain ⟨p4, x4, k4, f4, -, g4, h4, e4⟩ := Cond.arrayOver_spec a4
  obtain ⟨p5, x5, k5, f5, -, g5, h5, e5⟩ := Cond.arrayOver_spec a5
  obtain ⟨p6, x6, k6, f6, g6, h6, e6⟩ := aoB_spec a6
  let cA : Nat → ClassId := fun k => match k with | 0 => x0 | 1 => x1 | 2 => x2 | 3 => x3 | 4 => x4 | 5 => x5 | _ => x6
  let dC : Nat → ClassId := fun k => match k with | 0 => c0 | 1 => c1 | 2 => c2 | 3 => c3 | 4 => c4 | 5 => c1 | 6 => c6 | 7 => c7 | 8 => c8 | 9 => c9 | 10 => c10 | 11 => c11 | _ => c12
  let dI : Nat → Nat → Nat := fun k => match k with | 0 => i0 | 1 => i1 | 2 => i2 | 3 => i3 | 4 => i4 | 5 => i1 | 6 => i6 | 7 => i7 | 8 => i8 | 9 => i9 | 10 => i10 | 11 => i11 | _ => i12
  refine ⟨(dC, dI), cA, ⟨⟨fun k q hq => ?_, fun k q hq => ?_⟩, ?_, ?_, ?_, ?_, ?_⟩, a4, a5, aoB_spec a6⟩
  · match k, hq with
    | 0, hq => cases hq; exact hK0
    | 1, hq => cases hq; exact hK1
    | 2, hq => cases hq; exact hK2
    | 3, hq => cases hq; exact hK3
    | 4, hq => cases hq; exact hK4
    | 5, hq => cases hq; exact hK1
    | 6, hq => cases hq; exact hK6
    | 7, hq => cases hq; exact hK7
    | 8, hq => cases hq; exact hK8
    | 9, hq => cases hq; exact hK9
    | 10, hq => cases hq; exact hK10
    | 11, hq => cases hq; exact hK11
    | 12, hq => cases hq; exact hK12
    | k + 13, hq => simp [classes] at hq
  · match k, hq with
    | 0, hq => cases hq; exact ⟨fun n z => ⟨fun k h => (by cases h), k0, g0, y0, h0⟩, f0⟩
    | 1, hq => cases hq; exact ⟨fun n z => ⟨fun k h => (by cases h), k1, g1, y1, h1⟩, f1⟩
    | 2, hq => cases hq; exact ⟨fun n z => ⟨fun k h => (by cases h), k2, g2, y2, h2⟩, f2⟩
    | 3, hq => cases hq; exact ⟨fun n z => ⟨fun k h => (by cases h), k3, g3, y3, h3⟩, f3⟩
    | 4, hq => cases hq; exact ⟨fun n z => ⟨fun k h => (by cases h), k4, g4, p4, h4⟩, k4, p4, g4, h4, f4, e4⟩
    | 5, hq => cases hq; exact ⟨fun n z => ⟨fun k h => (by cases h), k5, g5, p5, h5⟩, k5, p5, g5, h5, f5, e5⟩
    | 6, hq => cases hq; exact ⟨fun n z => ⟨fun k h => (by cases h), k6, g6, p6, h6⟩, e6⟩
    | k + 7, hq => simp at hq
  · intro w hw
    exact va_Nw.of (by revert hw; revert w; unfold nestW; simp [Cond.onTables]) (hts w (by revert hw; revert w; decide +kernel))
  · intro w hw
    exact va_Nw.of (by revert hw; revert w; unfold declW; simp [Cond.onTables]) (hts w (by revert hw; revert w; decide +kernel))
  · intro w hw
    exact va_Nw.of (by revert hw; revert w; unfold castW; simp [Cond.onTables]) (hts w (by revert hw; revert w; decide +kernel))
  · intro q hq
    have hs := flat_of_before _ hgv
    exact va_Nc.of (hs (Cond.not (.castable q.1 q.2)) (by revert hq; revert q; decide +kernel))
  · obtain ⟨mk, hn⟩ := Cond.code_named (hts (Cond.code yX5_init cX5_init 1 none) (by decide +kernel))
    obtain ⟨kP, hkP, -⟩ := className_of_methodNamed hn
    exact ⟨_, kP, findClass_of_methodNamed hn, hkP⟩
