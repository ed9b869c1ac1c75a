abbrev rX11_findings : Room := { frames := 1, cells := 0, slots := 0, locals := 22 }
def pX11_findings (σ : Me) (a0 : Nat) (x1 : Int32) (Q : Int32 → Me → Prop) : Prop := pX11_isWithin σ x1 ((1 : Int32)) ((5 : Int32)) (fun r1 σ2 => (r1 = 0 → Q ((-1 : Int32)) σ2) ∧ (¬ r1 = 0 → gT σ2 a0 = 11 ∧ ∃ b6 : Nat, gP σ2 a0 17 = some b6 ∧ gT σ2 b6 = 20 ∧ vp_in x1 (gN σ2 b6) ∧ Q (gI σ2 b6 x1.toNatClampNeg) σ2))
set_option maxHeartbeats 4000000 in
set_option maxRecDepth 100000 in
theorem wX11_findings {p : Program} {l : Launch} {e : Env} {s : State} {m : MethodId} {args : Array Value} {below : List Frame} {meth : Method} {c : Code} {D : va_G} {cA : Nat → ClassId} {z0 : Nat} (hX : Cx p m c cX11_findings 2 s args RX11 D cA) (hlk : meth.locks = false) (hr : meth.sig.returnType = (some .int)) {σ : Me} {a0 : Nat} {x1 : Int32} {Q : Int32 → Me → Prop} (h : pX11_findings σ a0 x1 Q) {H : Heap} {locs : List Loc} {ls : Array Slot} (hw : wS D cA z0 s σ H locs) (hl : lv_has ls 2 [(0, .ref a0), (1, .int x1)]) : W p l e rX11_findings s m args below meth c H locs 0 0 (MQ below (va_Qi Q (BM D cA z0) (AM z0)) args s 0 0 (AM z0)) (F0 m 0 ls []) := by
  have hx := hX.1.1
  have hb := hX.1.2.1
  have hown := hX.1.2.2.2.1
  have hts := hX.1.2.2.2.2
  unfold pX11_findings at h
  refine lv_iload_n hx hb dX11_findings_0 rfl (lv_at hl 1 rfl) ?_
  refine lv_iconst (v := 1) hx hb dX11_findings_1 (by decide) ?_
  refine lv_iconst (v := 5) hx hb dX11_findings_2 (by decide) ?_
  refine m_ci (m_runS (rest := []) hX hw (tX11_isWithin h) mtX11_isWithin k_311 k_312 ⟨⟨rfl, rfl, Nat.le_of_ble_eq_true rfl, Nat.le_of_ble_eq_true rfl⟩, Nat.le_of_ble_eq_true rfl, Nat.le_of_ble_eq_true rfl⟩ rfl hl.1 rfl (Nat.le_of_ble_eq_true rfl) dX11_findings_3) hw (fun r1 σ2 H locs h hw => ?_)
  refine lv_if_eq (tgt := 18) hx hb dX11_findings_6 (by decide) (fun hc4 => ?_) (fun hc4 => ?_)
  · have h := h.1 hc4
    refine lv_iconst (v := (-1)) hx hb dX11_findings_18 (by decide) ?_
    exact m_iret hX hlk hr hw h dX11_findings_19
  · have h := h.2 hc4
    refine lv_aload_n hx hb dX11_findings_9 rfl (lv_at hl 0 rfl) ?_
    obtain ⟨hT5, h⟩ := h
    obtain ⟨b6, hb6, h⟩ := h
    refine m_get hX hw cl11 hT5 17 (by decide) k_266 (fun _ h => h) (v := .ref b6) (congrArg va_rf hb6) dX11_findings_10 ?_
    refine lv_iload_n hx hb dX11_findings_13 rfl (lv_at hl 1 rfl) ?_
    obtain ⟨hT7, h⟩ := h
    obtain ⟨hc8, h⟩ := h
    refine m_iald hX hw hT7 hc8 dX11_findings_14 ?_
    refine lv_goto (tgt := 19) hx hb dX11_findings_15 (by decide) ?_
    exact m_iret hX hlk hr hw h dX11_findings_19
theorem mtX11_findings : Mth yX11_findings cX11_findings 2 (some .int) 1 := ⟨k_848, k_43, by decide +kernel⟩
theorem tX11_findings {l : Launch} {D : va_G} {cA : Nat → ClassId} {z0 : Nat} {σ : Me} {a0 : Nat} {x1 : Int32} {Q : Int32 → Me → Prop} (h : pX11_findings σ a0 x1 Q) : Met l yX11_findings (Cond.code yX11_findings cX11_findings 2 (some .int) :: gTab) rX11_findings (PcM D cA z0 σ [.ref a0, .int x1]) (va_Qi Q (BM D cA z0) (AM z0)) 0 0 (AM z0) :=
  met_of (by decide) (Nat.le_of_ble_eq_true rfl) (fun hX hlk hr hn hw hl => wX11_findings hX hlk hr h hw hl)
abbrev rX11_tell : Room := { frames := 1, cells := 0, slots := 0, locals := 30 }
def pX11_tell (σ : Me) (a0 : Nat) (y1 : Int64) (y3 : Int64) (Q : Int32 → Me → Prop) : Prop := pX11_commonDivisor σ y1 y3 (fun r1 σ2 => (y3 ≤ ((0 : Int64)) → gT σ2 a0 = 11 ∧ ∀ σ27 : Me, σ27 = sL σ2 a0 14 ((0 : Int64)) → ∀ σ28 : Me, σ28 = sL σ27 a0 15 ((1 : Int64)) → Q ((1 : Int32)) σ28) ∧ (¬ y3 ≤ ((0 : Int64)) → (((0 : Int64)) < r1 → ¬ r1 = 0 ∧ gT σ2 a0 = 11 ∧ ∀ σ41 : Me, σ41 = sL σ2 a0 14 (y1 / r1) → ¬ r1 = 0 ∧ ∀ σ43 : Me, σ43 = sL σ41 a0 15 (y3 / r1) → Q ((1 : Int32)) σ43) ∧ (¬ ((0 : Int64)) < r1 → gT σ2 a0 = 11 ∧ ∀ σ45 : Me, σ45 = sL σ2 a0 14 ((0 : Int64)) → ∀ σ46 : Me, σ46 = sL σ45 a0 15 ((1 : Int64)) → Q ((1 : Int32)) σ46)))
set_option maxHeartbeats 4000000 in
set_option maxRecDepth 100000 in
theorem wX11_tell {p : Program} {l : Launch} {e : Env} {s : State} {m : MethodId} {args : Array Value} {below : List Frame} {meth : Method} {c : Code} {D : va_G} {cA : Nat → ClassId} {z0 : Nat} (hX : Cx p m c cX11_tell 7 s args RX11 D cA) (hlk : meth.locks = false) (hr : meth.sig.returnType = (some .int)) {σ : Me} {a0 : Nat} {y1 : Int64} {y3 : Int64} {Q : Int32 → Me → Prop} (h : pX11_tell σ a0 y1 y3 Q) {H : Heap} {locs : List Loc} {ls : Array Slot} (hw : wS D cA z0 s σ H locs) (hl : lv_has ls 7 [(0, .ref a0), (1, .long y1), (3, .long y3)]) : W p l e rX11_tell s m args below meth c H locs 0 0 (MQ below (va_Qi Q (BM D cA z0) (AM z0)) args s 0 0 (AM z0)) (F0 m 0 ls []) := by
  have hx := hX.1.1
  have hb := hX.1.2.1
  have hown := hX.1.2.2.2.1
  have hts := hX.1.2.2.2.2
  unfold pX11_tell at h
  refine lv_lload_n hx hb dX11_tell_0 rfl (lv_at hl 1 rfl) ?_
  refine lv_lload_n hx hb dX11_tell_1 rfl (lv_at hl 2 rfl) ?_
  refine m_cl (m_runS (rest := []) hX hw (tX11_commonDivisor h) mtX11_commonDivisor k_699 k_700 ⟨⟨rfl, rfl, Nat.le_of_ble_eq_true rfl, Nat.le_of_ble_eq_true rfl⟩, Nat.le_of_ble_eq_true rfl, Nat.le_of_ble_eq_true rfl⟩ rfl hl.1 rfl (Nat.le_of_ble_eq_true rfl) dX11_tell_2) hw (fun r1 σ2 H locs h hw => ?_)
  refine lv_lstore (lv' := [(5, _), (0, _), (1, _), (3, _)]) hx hb dX11_tell_5 hl (by decide) rfl (fun ls hl => ?_)
  refine lv_lload_n hx hb dX11_tell_7 rfl (lv_at hl 3 rfl) ?_
  refine lv_lconst (v := 0) hx hb dX11_tell_8 (by decide) ?_
  refine m_lle (tgt := 20) hX dX11_tell_9 dX11_tell_10 (by decide) (fun hc25 => ?_) (fun hc25 => ?_)
  · have h := h.1 hc25
    refine lv_aload_n hx hb dX11_tell_20 rfl (lv_at hl 1 rfl) ?_
    refine lv_lconst (v := 0) hx hb dX11_tell_21 (by decide) ?_
    obtain ⟨hT26, h⟩ := h
    refine m_putL hX hw cl11 hT26 14 (by decide) k_263 (fun _ h => h) rfl rfl dX11_tell_22 (fun H locs hw => ?_)
    let σ27 : Me := sL σ2 a0 14 ((0 : Int64))
    have h := h σ27 rfl
    have hw : wS D cA z0 s σ27 H locs := hw
    refine lv_aload_n hx hb dX11_tell_25 rfl (lv_at hl 1 rfl) ?_
    refine lv_lconst (v := 1) hx hb dX11_tell_26 (by decide) ?_
    refine m_putL hX hw cl11 hT26 15 (by decide) k_264 (fun _ h => h) rfl rfl dX11_tell_27 (fun H locs hw => ?_)
    let σ28 : Me := sL σ27 a0 15 ((1 : Int64))
    have h := h σ28 rfl
    have hw : wS D cA z0 s σ28 H locs := hw
    refine lv_goto (tgt := 49) hx hb dX11_tell_30 (by decide) ?_
    refine lv_iconst (v := 1) hx hb dX11_tell_49 (by decide) ?_
    exact m_iret hX hlk hr hw h dX11_tell_50
  · have h := h.2 hc25
    refine lv_lload hx hb dX11_tell_13 (lv_at hl 0 rfl) ?_
    refine lv_lconst (v := 0) hx hb dX11_tell_15 (by decide) ?_
    refine m_lgt (tgt := 33) hX dX11_tell_16 dX11_tell_17 (by decide) (fun hc38 => ?_) (fun hc38 => ?_)
    · have h := h.1 hc38
      refine lv_aload_n hx hb dX11_tell_33 rfl (lv_at hl 1 rfl) ?_
      refine lv_lload_n hx hb dX11_tell_34 rfl (lv_at hl 2 rfl) ?_
      refine lv_lload hx hb dX11_tell_35 (lv_at hl 0 rfl) ?_
      obtain ⟨hc39, h⟩ := h
      refine lv_ldiv hx hb dX11_tell_37 hc39 ?_
      obtain ⟨hT40, h⟩ := h
      refine m_putL hX hw cl11 hT40 14 (by decide) k_263 (fun _ h => h) rfl rfl dX11_tell_38 (fun H locs hw => ?_)
      let σ41 : Me := sL σ2 a0 14 (y1 / r1)
      have h := h σ41 rfl
      have hw : wS D cA z0 s σ41 H locs := hw
      refine lv_aload_n hx hb dX11_tell_41 rfl (lv_at hl 1 rfl) ?_
      refine lv_lload_n hx hb dX11_tell_42 rfl (lv_at hl 3 rfl) ?_
      refine lv_lload hx hb dX11_tell_43 (lv_at hl 0 rfl) ?_
      obtain ⟨hc42, h⟩ := h
      refine lv_ldiv hx hb dX11_tell_45 hc42 ?_
      refine m_putL hX hw cl11 hT40 15 (by decide) k_264 (fun _ h => h) rfl rfl dX11_tell_46 (fun H locs hw => ?_)
      let σ43 : Me := sL σ41 a0 15 (y3 / r1)
      have h := h σ43 rfl
      have hw : wS D cA z0 s σ43 H locs := hw
      refine lv_iconst (v := 1) hx hb dX11_tell_49 (by decide) ?_
      exact m_iret hX hlk hr hw h dX11_tell_50
    · have h := h.2 hc38
      refine lv_aload_n hx hb dX11_tell_20 rfl (lv_at hl 1 rfl) ?_
      refine lv_lconst (v := 0) hx hb dX11_tell_21 (by decide) ?_
      obtain ⟨hT44, h⟩ := h
      refine m_putL hX hw cl11 hT44 14 (by decide) k_263 (fun _ h => h) rfl rfl dX11_tell_22 (fun H locs hw => ?_)
      let σ45 : Me := sL σ2 a0 14 ((0 : Int64))
      have h := h σ45 rfl
      have hw : wS D cA z0 s σ45 H locs := hw
      refine lv_aload_n hx hb dX11_tell_25 rfl (lv_at hl 1 rfl) ?_
      refine lv_lconst (v := 1) hx hb dX11_tell_26 (by decide) ?_
      refine m_putL hX hw cl11 hT44 15 (by decide) k_264 (fun _ h => h) rfl rfl dX11_tell_27 (fun H locs hw => ?_)
      let σ46 : Me := sL σ45 a0 15 ((1 : Int64))
      have h := h σ46 rfl
      have hw : wS D cA z0 s σ46 H locs := hw
      refine lv_goto (tgt := 49) hx hb dX11_tell_30 (by decide) ?_
      refine lv_iconst (v := 1) hx hb dX11_tell_49 (by decide) ?_
      exact m_iret hX hlk hr hw h dX11_tell_50
theorem mtX11_tell : Mth yX11_tell cX11_tell 7 (some .int) 2 := ⟨k_698, k_43, by decide +kernel⟩
theorem tX11_tell {l : Launch} {D : va_G} {cA : Nat → ClassId} {z0 : Nat} {σ : Me} {a0 : Nat} {y1 : Int64} {y3 : Int64} {Q : Int32 → Me → Prop} (h : pX11_tell σ a0 y1 y3 Q) : Met l yX11_tell (Cond.code yX11_tell cX11_tell 7 (some .int) :: gTab) rX11_tell (PcM D cA z0 σ [.ref a0, .long y1, .long y3]) (va_Qi Q (BM D cA z0) (AM z0)) 0 0 (AM z0) :=
  met_of (by decide) (Nat.le_of_ble_eq_true rfl) (fun hX hlk hr hn hw hl => wX11_tell hX hlk hr h hw hl)
abbrev rX12_goThrough : Room := { frames := 3, cells := 0, slots := 0, locals := 77 }
def pX12_goThrough (σ : Me) (a0 : Nat) (x1 : Int32) (x2 : Int32) (x3 : Int32) (x4 : Int32) (x5 : Int32) (Q : Me → Prop) : Prop := gT σ a0 = 12 ∧ pX12_allOf σ a0 x2 (fun r1 σ2 => ∀ x6_4 : Int64, x6_4 = (r1.toInt64) → gT σ2 a0 = 12 ∧ ∀ σ6 : Me, σ6 = sL σ2 a0 39 ((0 : Int64)) → ∀ σ7 : Me, σ7 = sL σ6 a0 40 ((0 : Int64)) → ∀ σ8 : Me, σ8 = sL σ7 a0 41 ((0 : Int64)) → ∀ σ9 : Me, σ9 = sL σ8 a0 42 ((0 : Int64)) → ∀ σ10 : Me, σ10 = sL σ9 a0 44 ((1 : Int64)) → ∃ b11 : Nat, gP σ10 a0 30 = some b11 ∧ pX12_stateOf σ10 x3 ((0 : Int32)) ((0 : Int32)) (fun r12 σ13 => gT σ13 b11 = 20 ∧ vp_in ((0 : Int32)) (gN σ13 b11) ∧ ∀ σ16 : Me, σ16 = sI σ13 b11 ((0 : Int32)).toNatClampNeg r12 → gT σ16 a0 = 12 ∧ ∃ b18 : Nat, gP σ16 a0 31 = some b18 ∧ gT σ16 b18 = 21 ∧ vp_in ((0 : Int32)) (gN σ16 b18) ∧ ∀ σ21 : Me, σ21 = sL σ16 b18 ((0 : Int32)).toNatClampNeg ((1 : Int64)) → ∀ σ22 : Me, σ22 = sI σ21 a0 32 ((1 : Int32)) → ∃ I60 : Nat → Me → Int32 → Prop, (∀ (n60 : Nat) (σ23 : Me) (x8_24 : Int32), I60 n60 σ23 x8_24 → (x4 ≤ x8_24 → gT σ23 a0 = 12 ∧ ∀ σ70 : Me, σ70 = sL σ23 a0 43 ((0 : Int64)) → ∃ I233 : Nat → Me → Int32 → Prop, (∀ (n233 : Nat) (σ71 : Me) (x8_72 : Int32), I233 n233 σ71 x8_72 → gT σ71 a0 = 12 ∧ ((gI σ71 a0 32) ≤ x8_72 → Q σ71) ∧ (¬ (gI σ71 a0 32) ≤ x8_72 → ∃ b75 : Nat, gP σ71 a0 31 = some b75 ∧ gT σ71 b75 = 21 ∧ vp_in x8_72 (gN σ71 b75) ∧ ∀ σ78 : Me, σ78 = sL σ71 a0 43 ((gL σ71 a0 43) + (gL σ71 b75 x8_72.toNatClampNeg)) → ∀ x8_79 : Int32, x8_79 = x8_72 + 1 → ∃ m233 : Nat, m233 < n233 ∧ I233 m233 σ78 x8_79)) ∧ ∃ n233 : Nat, I233 n233 σ70 ((0 : Int32))) ∧ (¬ x4 ≤ x8_24 → gT σ23 a0 = 12 ∧ ∀ σ81 : Me, σ81 = sI σ23 a0 38 ((gI σ23 a0 38) + ((1 : Int32))) → ∀ σ82 : Me, σ82 = sI σ81 a0 35 ((0 : Int32)) → ∀ σ83 : Me, σ83 = sL σ82 a0 39 ((gL σ82 a0 39) * x6_4) → ∀ σ84 : Me, σ84 = sL σ83 a0 40 ((gL σ83 a0 40) * x6_4) → ∀ σ85 : Me, σ85 = sL σ84 a0 41 ((gL σ84 a0 41) * x6_4) → ∀ σ86 : Me, σ86 = sL σ85 a0 42 ((gL σ85 a0 42) * x6_4) → ∀ σ87 : Me, σ87 = sL σ86 a0 44 ((gL σ86 a0 44) * x6_4) → ∃ I140 : Nat → Me → Int32 → Prop, (∀ (n140 : Nat) (σ88 : Me) (x9_89 : Int32), I140 n140 σ88 x9_89 → gT σ88 a0 = 12 ∧ ((gI σ88 a0 32) ≤ x9_89 → ∀ σ96 : Me, σ96 = sI σ88 a0 32 (gI σ88 a0 35) → ∃ I176 : Nat → Me → Int32 → Prop, (∀ (n176 : Nat) (σ97 : Me) (x9_98 : Int32), I176 n176 σ97 x9_98 → gT σ97 a0 = 12 ∧ ((gI σ97 a0 32) ≤ x9_98 → ∀ x8_101 : Int32, x8_101 = x8_24 + 1 → ∃ m60 : Nat, m60 < n60 ∧ I60 m60 σ97 x8_101) ∧ (¬ (gI σ97 a0 32) ≤ x9_98 → ∃ b102 : Nat, gP σ97 a0 30 = some b102 ∧ ∃ b103 : Nat, gP σ97 a0 33 = some b103 ∧ gT σ97 b103 = 20 ∧ vp_in x9_98 (gN σ97 b103) ∧ gT σ97 b102 = 20 ∧ vp_in x9_98 (gN σ97 b102) ∧ ∀ σ108 : Me, σ108 = sI σ97 b102 x9_98.toNatClampNeg (gI σ97 b103 x9_98.toNatClampNeg) → ∃ b109 : Nat, gP σ108 a0 31 = some b109 ∧ ∃ b110 : Nat, gP σ108 a0 34 = some b110 ∧ gT σ108 b110 = 21 ∧ vp_in x9_98 (gN σ108 b110) ∧ gT σ108 b109 = 21 ∧ vp_in x9_98 (gN σ108 b109) ∧ ∀ σ115 : Me, σ115 = sL σ108 b109 x9_98.toNatClampNeg (gL σ108 b110 x9_98.toNatClampNeg) → ∀ x9_116 : Int32, x9_116 = x9_98 + 1 → ∃ m176 : Nat, m176 < n176 ∧ I176 m176 σ115 x9_116)) ∧ ∃ n176 : Nat, I176 n176 σ96 ((0 : Int32))) ∧ (¬ (gI σ88 a0 32) ≤ x9_89 → pX12_goOn σ88 a0 x9_89 x1 x2 x5 (fun σ118 => ∀ x9_119 : Int32, x9_119 = x9_89 + 1 → ∃ m140 : Nat, m140 < n140 ∧ I140 m140 σ118 x9_119))) ∧ ∃ n140 : Nat, I140 n140 σ87 ((0 : Int32)))) ∧ ∃ n60 : Nat, I60 n60 σ22 ((0 : Int32))))
set_option maxHeartbeats 4000000 in
set_option maxRecDepth 100000 in
theorem wX12_goThrough {p : Program} {l : Launch} {e : Env} {s : State} {m : MethodId} {args : Array Value} {below : List Frame} {meth : Method} {c : Code} {D : va_G} {cA : Nat → ClassId} {z0 : Nat} (hX : Cx p m c cX12_goThrough 10 s args RX12 D cA) (hlk : meth.locks = false) (hr : meth.sig.returnType = none) {σ : Me} {a0 : Nat} {x1 : Int32} {x2 : Int32} {x3 : Int32} {x4 : Int32} {x5 : Int32} {Q : Me → Prop} (h : pX12_goThrough σ a0 x1 x2 x3 x4 x5 Q) {H : Heap} {locs : List Loc} {ls : Array Slot} (hw : wS D cA z0 s σ H locs) (hl : lv_has ls 10 [(0, .ref a0), (1, .int x1), (2, .int x2), (3, .int x3), (4, .int x4), (5, .int x5)]) : W p l e rX12_goThrough s m args below meth c H locs 0 0 (MQ below (va_Qv Q (BM D cA z0) (AM z0)) args s 0 0 (AM z0)) (F0 m 0 ls []) := by
  have hx := hX.1.1
  have hb := hX.1.2.1
  have hown := hX.1.2.2.2.1
  have hts := hX.1.2.2.2.2
  unfold pX12_goThrough at h
  refine lv_aload_n hx hb dX12_goThrough_0 rfl (lv_at hl 0 rfl) ?_
  refine lv_iload_n hx hb dX12_goThrough_1 rfl (lv_at hl 2 rfl) ?_
  obtain ⟨hT3, h⟩ := h
  refine m_ci (m_runV (rest := []) hX hw (tX12_allOf h) mtX12_allOf k_1093 ⟨k_1095, k_25⟩ cl12 hT3 ⟨⟨rfl, rfl, Nat.le_of_ble_eq_true rfl, Nat.le_of_ble_eq_true rfl⟩, Nat.le_of_ble_eq_true rfl, Nat.le_of_ble_eq_true rfl⟩ rfl hl.1 rfl (Nat.le_of_ble_eq_true rfl) dX12_goThrough_2) hw (fun r1 σ2 H locs h hw => ?_)
  refine lv_i2l hx hb dX12_goThrough_5 rfl ?_
  refine lv_topl (fun x6_4 e_x6_4 => ?_)
  have h := h x6_4 e_x6_4
  refine lv_lstore (lv' := [(6, _), (0, _), (1, _), (2, _), (3, _), (4, _), (5, _)]) hx hb dX12_goThrough_6 hl (by decide) rfl (fun ls hl => ?_)
  refine lv_aload_n hx hb dX12_goThrough_8 rfl (lv_at hl 1 rfl) ?_
  refine lv_lconst (v := 0) hx hb dX12_goThrough_9 (by decide) ?_
  obtain ⟨hT5, h⟩ := h
  refine m_putL hX hw cl12 hT5 39 (by decide) k_913 (fun _ h => h) rfl rfl dX12_goThrough_10 (fun H locs hw => ?_)
  let σ6 : Me := sL σ2 a0 39 ((0 : Int64))
  have h := h σ6 rfl
  have hw : wS D cA z0 s σ6 H locs := hw
  refine lv_aload_n hx hb dX12_goThrough_13 rfl (lv_at hl 1 rfl) ?_
  refine lv_lconst (v := 0) hx hb dX12_goThrough_14 (by decide) ?_
  refine m_putL hX hw cl12 hT5 40 (by decide) k_914 (fun _ h => h) rfl rfl dX12_goThrough_15 (fun H locs hw => ?_)
  let σ7 : Me := sL σ6 a0 40 ((0 : Int64))
  have h := h σ7 rfl
  have hw : wS D cA z0 s σ7 H locs := hw
  refine lv_aload_n hx hb dX12_goThrough_18 rfl (lv_at hl 1 rfl) ?_
  refine lv_lconst (v := 0) hx hb dX12_goThrough_19 (by decide) ?_
  refine m_putL hX hw cl12 hT5 41 (by decide) k_915 (fun _ h => h) rfl rfl dX12_goThrough_20 (fun H locs hw => ?_)
  let σ8 : Me := sL σ7 a0 41 ((0 : Int64))
  have h := h σ8 rfl
  have hw : wS D cA z0 s σ8 H locs := hw
  refine lv_aload_n hx hb dX12_goThrough_23 rfl (lv_at hl 1 rfl) ?_
  refine lv_lconst (v := 0) hx hb dX12_goThrough_24 (by decide) ?_
  refine m_putL hX hw cl12 hT5 42 (by decide) k_916 (fun _ h => h) rfl rfl dX12_goThrough_25 (fun H locs hw => ?_)
  let σ9 : Me := sL σ8 a0 42 ((0 : Int64))
  have h := h σ9 rfl
  have hw : wS D cA z0 s σ9 H locs := hw
  refine lv_aload_n hx hb dX12_goThrough_28 rfl (lv_at hl 1 rfl) ?_
  refine lv_lconst (v := 1) hx hb dX12_goThrough_29 (by decide) ?_
  refine m_putL hX hw cl12 hT5 44 (by decide) k_918 (fun _ h => h) rfl rfl dX12_goThrough_30 (fun H locs hw => ?_)
  let σ10 : Me := sL σ9 a0 44 ((1 : Int64))
  have h := h σ10 rfl
  have hw : wS D cA z0 s σ10 H locs := hw
  refine lv_aload_n hx hb dX12_goThrough_33 rfl (lv_at hl 1 rfl) ?_
  obtain ⟨b11, hb11, h⟩ := h
  refine m_get hX hw cl12 hT5 30 (by decide) k_904 (fun _ h => h) (v := .ref b11) (congrArg va_rf hb11) dX12_goThrough_34 ?_
  refine lv_iconst (v := 0) hx hb dX12_goThrough_37 (by decide) ?_
  refine lv_iload_n hx hb dX12_goThrough_38 rfl (lv_at hl 4 rfl) ?_
  refine lv_iconst (v := 0) hx hb dX12_goThrough_39 (by decide) ?_
  refine lv_iconst (v := 0) hx hb dX12_goThrough_40 (by decide) ?_
  refine m_ci (m_runS (rest := [_, _]) hX hw (tX12_stateOf h) mtX12_stateOf k_1181 k_1182 ⟨⟨rfl, rfl, Nat.le_of_ble_eq_true rfl, Nat.le_of_ble_eq_true rfl⟩, Nat.le_of_ble_eq_true rfl, Nat.le_of_ble_eq_true rfl⟩ rfl hl.1 rfl (Nat.le_of_ble_eq_true rfl) dX12_goThrough_41) hw (fun r12 σ13 H locs h hw => ?_)
  obtain ⟨hT14, h⟩ := h
  obtain ⟨hc15, h⟩ := h
  refine m_iast hX hw hT14 hc15 dX12_goThrough_44 (fun H locs hw => ?_)
  let σ16 : Me := sI σ13 b11 ((0 : Int32)).toNatClampNeg r12
  have h := h σ16 rfl
  have hw : wS D cA z0 s σ16 H locs := hw
  refine lv_aload_n hx hb dX12_goThrough_45 rfl (lv_at hl 1 rfl) ?_
  obtain ⟨hT17, h⟩ := h
  obtain ⟨b18, hb18, h⟩ := h
  refine m_get hX hw cl12 hT17 31 (by decide) k_905 (fun _ h => h) (v := .ref b18) (congrArg va_rf hb18) dX12_goThrough_46 ?_
  refine lv_iconst (v := 0) hx hb dX12_goThrough_49 (by decide) ?_
  refine lv_lconst (v := 1) hx hb dX12_goThrough_50 (by decide) ?_
  obtain ⟨hT19, h⟩ := h
  obtain ⟨hc20, h⟩ := h
  refine m_last hX hw hT19 hc20 dX12_goThrough_51 (fun H locs hw => ?_)
  let σ21 : Me := sL σ16 b18 ((0 : Int32)).toNatClampNeg ((1 : Int64))
  have h := h σ21 rfl
  have hw : wS D cA z0 s σ21 H locs := hw
  refine lv_aload_n hx hb dX12_goThrough_52 rfl (lv_at hl 1 rfl) ?_
  refine lv_iconst (v := 1) hx hb dX12_goThrough_53 (by decide) ?_
  refine m_putI hX hw cl12 hT17 32 (by decide) k_906 (fun _ h => h) rfl rfl dX12_goThrough_54 (fun H locs hw => ?_)
  let σ22 : Me := sI σ21 a0 32 ((1 : Int32))
  have h := h σ22 rfl
  have hw : wS D cA z0 s σ22 H locs := hw
  refine lv_iconst (v := 0) hx hb dX12_goThrough_57 (by decide) ?_
  refine lv_istore (lv' := [(8, _), (6, _), (0, _), (1, _), (2, _), (3, _), (4, _), (5, _)]) hx hb dX12_goThrough_58 hl (by decide) rfl (fun ls hl => ?_)
  obtain ⟨I60, hI60, n60, h⟩ := h
  have key60 : ∀ (n60 : Nat) (σ23 : Me) (x8_24 : Int32) (H : Heap) (locs : List Loc) (ls : Array Slot), I60 n60 σ23 x8_24 → wS D cA z0 s σ23 H locs → lv_has ls 10 [(0, .ref a0), (1, .int x1), (2, .int x2), (4, .int x4), (5, .int x5), (6, .long x6_4), (8, .int x8_24)] → W p l e rX12_goThrough s m args below meth c H locs 0 0 (MQ below (va_Qv Q (BM D cA z0) (AM z0)) args s 0 0 (AM z0)) (F0 m 60 ls []) := by
    intro n60
    induction n60 using Nat.strongRecOn with
    | _ n60 ih60 =>
      intro σ23 x8_24 H locs ls h hw hl
      have h := hI60 _ _ _ h
      refine lv_iload hx hb dX12_goThrough_60 (lv_at hl 6 rfl) ?_
      refine lv_iload hx hb dX12_goThrough_62 (lv_at hl 3 rfl) ?_
      refine lv_icmp_ge (tgt := 225) hx hb dX12_goThrough_64 (by decide) (fun hc68 => ?_) (fun hc68 => ?_)
      · have h := h.1 hc68
        refine lv_aload_n hx hb dX12_goThrough_225 rfl (lv_at hl 0 rfl) ?_
        refine lv_lconst (v := 0) hx hb dX12_goThrough_226 (by decide) ?_
        obtain ⟨hT69, h⟩ := h
        refine m_putL hX hw cl12 hT69 43 (by decide) k_917 (fun _ h => h) rfl rfl dX12_goThrough_227 (fun H locs hw => ?_)
        let σ70 : Me := sL σ23 a0 43 ((0 : Int64))
        have h := h σ70 rfl
        have hw : wS D cA z0 s σ70 H locs := hw
        refine lv_iconst (v := 0) hx hb dX12_goThrough_230 (by decide) ?_
        refine lv_istore (lv' := [(8, _), (0, _), (1, _), (2, _), (4, _), (5, _), (6, _)]) hx hb dX12_goThrough_231 hl (by decide) rfl (fun ls hl => ?_)
        obtain ⟨I233, hI233, n233, h⟩ := h
        have key233 : ∀ (n233 : Nat) (σ71 : Me) (x8_72 : Int32) (H : Heap) (locs : List Loc) (ls : Array Slot), I233 n233 σ71 x8_72 → wS D cA z0 s σ71 H locs → lv_has ls 10 [(0, .ref a0), (8, .int x8_72)] → W p l e rX12_goThrough s m args below meth c H locs 0 0 (MQ below (va_Qv Q (BM D cA z0) (AM z0)) args s 0 0 (AM z0)) (F0 m 233 ls []) := by
          intro n233
          induction n233 using Nat.strongRecOn with
          | _ n233 ih233 =>
            intro σ71 x8_72 H locs ls h hw hl
            have h := hI233 _ _ _ h
            refine lv_iload hx hb dX12_goThrough_233 (lv_at hl 1 rfl) ?_
            refine lv_aload_n hx hb dX12_goThrough_235 rfl (lv_at hl 0 rfl) ?_
            obtain ⟨hT73, h⟩ := h
            refine m_get hX hw cl12 hT73 32 (by decide) k_906 (fun _ h => h) (v := .int _) rfl dX12_goThrough_236 ?_
            refine lv_icmp_ge (tgt := 264) hx hb dX12_goThrough_239 (by decide) (fun hc74 => ?_) (fun hc74 => ?_)
            · have h := h.1 hc74
              exact m_vret hX hlk hr hw h dX12_goThrough_264
            · have h := h.2 hc74
              refine lv_aload_n hx hb dX12_goThrough_242 rfl (lv_at hl 0 rfl) ?_
              refine lv_dup hx hb dX12_goThrough_243 rfl ?_
              refine m_get hX hw cl12 hT73 43 (by decide) k_917 (fun _ h => h) (v := .long _) rfl dX12_goThrough_244 ?_
              refine lv_aload_n hx hb dX12_goThrough_247 rfl (lv_at hl 0 rfl) ?_
              obtain ⟨b75, hb75, h⟩ := h
              refine m_get hX hw cl12 hT73 31 (by decide) k_905 (fun _ h => h) (v := .ref b75) (congrArg va_rf hb75) dX12_goThrough_248 ?_
              refine lv_iload hx hb dX12_goThrough_251 (lv_at hl 1 rfl) ?_
              obtain ⟨hT76, h⟩ := h
              obtain ⟨hc77, h⟩ := h
              refine m_lald hX hw hT76 hc77 dX12_goThrough_253 ?_
              refine lv_ladd hx hb dX12_goThrough_254 ?_
              refine m_putL hX hw cl12 hT73 43 (by decide) k_917 (fun _ h => h) rfl rfl dX12_goThrough_255 (fun H locs hw => ?_)
              let σ78 : Me := sL σ71 a0 43 ((gL σ71 a0 43) + (gL σ71 b75 x8_72.toNatClampNeg))
              have h := h σ78 rfl
              have hw : wS D cA z0 s σ78 H locs := hw
              obtain ⟨x8_79, e_x8_79⟩ : ∃ y : Int32, y = x8_72 + 1 := ⟨_, rfl⟩
              have h := h x8_79 e_x8_79
              refine lv_iinc (v := x8_79) (lv' := [(8, _), (0, _)]) hx hb dX12_goThrough_258 hl (k := 1) rfl (by rw [e_x8_79]; rfl) (by decide) rfl (fun ls hl => ?_)
              refine lv_goto (tgt := 233) hx hb dX12_goThrough_261 (by decide) ?_
              obtain ⟨m233, hm233, h⟩ := h
              exact ih233 m233 hm233 _ _ _ _ _ h hw (lv_sub hl [1, 0] rfl)
        exact key233 _ _ _ _ _ _ h hw (lv_sub hl [1, 0] rfl)
      · have h := h.2 hc68
        refine lv_aload_n hx hb dX12_goThrough_67 rfl (lv_at hl 0 rfl) ?_
        refine lv_dup hx hb dX12_goThrough_68 rfl ?_
        obtain ⟨hT80, h⟩ := h
        refine m_get hX hw cl12 hT80 38 (by decide) k_912 (fun _ h => h) (v := .int _) rfl dX12_goThrough_69 ?_
        refine lv_iconst (v := 1) hx hb dX12_goThrough_72 (by decide) ?_
        refine lv_iadd hx hb dX12_goThrough_73 ?_
        refine m_putI hX hw cl12 hT80 38 (by decide) k_912 (fun _ h => h) rfl rfl dX12_goThrough_74 (fun H locs hw => ?_)
        let σ81 : Me := sI σ23 a0 38 ((gI σ23 a0 38) + ((1 : Int32)))
        have h := h σ81 rfl
        have hw : wS D cA z0 s σ81 H locs := hw
        refine lv_aload_n hx hb dX12_goThrough_77 rfl (lv_at hl 0 rfl) ?_
        refine lv_iconst (v := 0) hx hb dX12_goThrough_78 (by decide) ?_
        refine m_putI hX hw cl12 hT80 35 (by decide) k_909 (fun _ h => h) rfl rfl dX12_goThrough_79 (fun H locs hw => ?_)
        let σ82 : Me := sI σ81 a0 35 ((0 : Int32))
        have h := h σ82 rfl
        have hw : wS D cA z0 s σ82 H locs := hw
        refine lv_aload_n hx hb dX12_goThrough_82 rfl (lv_at hl 0 rfl) ?_
        refine lv_dup hx hb dX12_goThrough_83 rfl ?_
        refine m_get hX hw cl12 hT80 39 (by decide) k_913 (fun _ h => h) (v := .long _) rfl dX12_goThrough_84 ?_
        refine lv_lload hx hb dX12_goThrough_87 (lv_at hl 5 rfl) ?_
        refine lv_lmul hx hb dX12_goThrough_89 ?_
        refine m_putL hX hw cl12 hT80 39 (by decide) k_913 (fun _ h => h) rfl rfl dX12_goThrough_90 (fun H locs hw => ?_)
        let σ83 : Me := sL σ82 a0 39 ((gL σ82 a0 39) * x6_4)
        have h := h σ83 rfl
        have hw : wS D cA z0 s σ83 H locs := hw
        refine lv_aload_n hx hb dX12_goThrough_93 rfl (lv_at hl 0 rfl) ?_
        refine lv_dup hx hb dX12_goThrough_94 rfl ?_
        refine m_get hX hw cl12 hT80 40 (by decide) k_914 (fun _ h => h) (v := .long _) rfl dX12_goThrough_95 ?_
        refine lv_lload hx hb dX12_goThrough_98 (lv_at hl 5 rfl) ?_
        refine lv_lmul hx hb dX12_goThrough_100 ?_
        refine m_putL hX hw cl12 hT80 40 (by decide) k_914 (fun _ h => h) rfl rfl dX12_goThrough_101 (fun H locs hw => ?_)
        let σ84 : Me := sL σ83 a0 40 ((gL σ83 a0 40) * x6_4)
        have h := h σ84 rfl
        have hw : wS D cA z0 s σ84 H locs := hw
        refine lv_aload_n hx hb dX12_goThrough_104 rfl (lv_at hl 0 rfl) ?_
        refine lv_dup hx hb dX12_goThrough_105 rfl ?_
        refine m_get hX hw cl12 hT80 41 (by decide) k_915 (fun _ h => h) (v := .long _) rfl dX12_goThrough_106 ?_
        refine lv_lload hx hb dX12_goThrough_109 (lv_at hl 5 rfl) ?_
        refine lv_lmul hx hb dX12_goThrough_111 ?_
        refine m_putL hX hw cl12 hT80 41 (by decide) k_915 (fun _ h => h) rfl rfl dX12_goThrough_112 (fun H locs hw => ?_)
        let σ85 : Me := sL σ84 a0 41 ((gL σ84 a0 41) * x6_4)
        have h := h σ85 rfl
        have hw : wS D cA z0 s σ85 H locs := hw
        refine lv_aload_n hx hb dX12_goThrough_115 rfl (lv_at hl 0 rfl) ?_
        refine lv_dup hx hb dX12_goThrough_116 rfl ?_
        refine m_get hX hw cl12 hT80 42 (by decide) k_916 (fun _ h => h) (v := .long _) rfl dX12_goThrough_117 ?_
        refine lv_lload hx hb dX12_goThrough_120 (lv_at hl 5 rfl) ?_
        refine lv_lmul hx hb dX12_goThrough_122 ?_
        refine m_putL hX hw cl12 hT80 42 (by decide) k_916 (fun _ h => h) rfl rfl dX12_goThrough_123 (fun H locs hw => ?_)
        let σ86 : Me := sL σ85 a0 42 ((gL σ85 a0 42) * x6_4)
        have h := h σ86 rfl
        have hw : wS D cA z0 s σ86 H locs := hw
        refine lv_aload_n hx hb dX12_goThrough_126 rfl (lv_at hl 0 rfl) ?_
        refine lv_dup hx hb dX12_goThrough_127 rfl ?_
        refine m_get hX hw cl12 hT80 44 (by decide) k_918 (fun _ h => h) (v := .long _) rfl dX12_goThrough_128 ?_
        refine lv_lload hx hb dX12_goThrough_131 (lv_at hl 5 rfl) ?_
        refine lv_lmul hx hb dX12_goThrough_133 ?_
        refine m_putL hX hw cl12 hT80 44 (by decide) k_918 (fun _ h => h) rfl rfl dX12_goThrough_134 (fun H locs hw => ?_)
        let σ87 : Me := sL σ86 a0 44 ((gL σ86 a0 44) * x6_4)
        have h := h σ87 rfl
        have hw : wS D cA z0 s σ87 H locs := hw
        refine lv_iconst (v := 0) hx hb dX12_goThrough_137 (by decide) ?_
        refine lv_istore (lv' := [(9, _), (0, _), (1, _), (2, _), (4, _), (5, _), (6, _), (8, _)]) hx hb dX12_goThrough_138 hl (by decide) rfl (fun ls hl => ?_)
        obtain ⟨I140, hI140, n140, h⟩ := h
        have key140 : ∀ (n140 : Nat) (σ88 : Me) (x9_89 : Int32) (H : Heap) (locs : List Loc) (ls : Array Slot), I140 n140 σ88 x9_89 → wS D cA z0 s σ88 H locs → lv_has ls 10 [(0, .ref a0), (1, .int x1), (2, .int x2), (4, .int x4), (5, .int x5), (6, .long x6_4), (8, .int x8_24), (9, .int x9_89)] → W p l e rX12_goThrough s m args below meth c H locs 0 0 (MQ below (va_Qv Q (BM D cA z0) (AM z0)) args s 0 0 (AM z0)) (F0 m 140 ls []) := by
          intro n140
          induction n140 using Nat.strongRecOn with
          | _ n140 ih140 =>
            intro σ88 x9_89 H locs ls h hw hl
            have h := hI140 _ _ _ h
            refine lv_iload hx hb dX12_goThrough_140 (lv_at hl 7 rfl) ?_
            refine lv_aload_n hx hb dX12_goThrough_142 rfl (lv_at hl 0 rfl) ?_
            obtain ⟨hT90, h⟩ := h
            refine m_get hX hw cl12 hT90 32 (by decide) k_906 (fun _ h => h) (v := .int _) rfl dX12_goThrough_143 ?_
            refine lv_icmp_ge (tgt := 165) hx hb dX12_goThrough_146 (by decide) (fun hc95 => ?_) (fun hc95 => ?_)
            · have h := h.1 hc95
              refine lv_aload_n hx hb dX12_goThrough_165 rfl (lv_at hl 0 rfl) ?_
              refine lv_aload_n hx hb dX12_goThrough_166 rfl (lv_at hl 0 rfl) ?_
              refine m_get hX hw cl12 hT90 35 (by decide) k_909 (fun _ h => h) (v := .int _) rfl dX12_goThrough_167 ?_
              refine m_putI hX hw cl12 hT90 32 (by decide) k_906 (fun _ h => h) rfl rfl dX12_goThrough_170 (fun H locs hw => ?_)
              let σ96 : Me := sI σ88 a0 32 (gI σ88 a0 35)
              have h := h σ96 rfl
              have hw : wS D cA z0 s σ96 H locs := hw
              refine lv_iconst (v := 0) hx hb dX12_goThrough_173 (by decide) ?_
              refine lv_istore (lv' := [(9, _), (0, _), (1, _), (2, _), (4, _), (5, _), (6, _), (8, _)]) hx hb dX12_goThrough_174 hl (by decide) rfl (fun ls hl => ?_)
              obtain ⟨I176, hI176, n176, h⟩ := h
              have key176 : ∀ (n176 : Nat) (σ97 : Me) (x9_98 : Int32) (H : Heap) (locs : List Loc) (ls : Array Slot), I176 n176 σ97 x9_98 → wS D cA z0 s σ97 H locs → lv_has ls 10 [(0, .ref a0), (1, .int x1), (2, .int x2), (4, .int x4), (5, .int x5), (6, .long x6_4), (8, .int x8_24), (9, .int x9_98)] → W p l e rX12_goThrough s m args below meth c H locs 0 0 (MQ below (va_Qv Q (BM D cA z0) (AM z0)) args s 0 0 (AM z0)) (F0 m 176 ls []) := by
                intro n176
                induction n176 using Nat.strongRecOn with
                | _ n176 ih176 =>
                  intro σ97 x9_98 H locs ls h hw hl
                  have h := hI176 _ _ _ h
                  refine lv_iload hx hb dX12_goThrough_176 (lv_at hl 7 rfl) ?_
                  refine lv_aload_n hx hb dX12_goThrough_178 rfl (lv_at hl 0 rfl) ?_
                  obtain ⟨hT99, h⟩ := h
                  refine m_get hX hw cl12 hT99 32 (by decide) k_906 (fun _ h => h) (v := .int _) rfl dX12_goThrough_179 ?_
                  refine lv_icmp_ge (tgt := 219) hx hb dX12_goThrough_182 (by decide) (fun hc100 => ?_) (fun hc100 => ?_)
                  · have h := h.1 hc100
                    obtain ⟨x8_101, e_x8_101⟩ : ∃ y : Int32, y = x8_24 + 1 := ⟨_, rfl⟩
                    have h := h x8_101 e_x8_101
                    refine lv_iinc (v := x8_101) (lv' := [(8, _), (0, _), (1, _), (2, _), (4, _), (5, _), (6, _), (9, _)]) hx hb dX12_goThrough_219 hl (k := 6) rfl (by rw [e_x8_101]; rfl) (by decide) rfl (fun ls hl => ?_)
                    refine lv_goto (tgt := 60) hx hb dX12_goThrough_222 (by decide) ?_
                    obtain ⟨m60, hm60, h⟩ := h
                    exact ih60 m60 hm60 _ _ _ _ _ h hw (lv_sub hl [1, 2, 3, 4, 5, 6, 0] rfl)
                  · have h := h.2 hc100
                    refine lv_aload_n hx hb dX12_goThrough_185 rfl (lv_at hl 0 rfl) ?_
                    obtain ⟨b102, hb102, h⟩ := h
                    refine m_get hX hw cl12 hT99 30 (by decide) k_904 (fun _ h => h) (v := .ref b102) (congrArg va_rf hb102) dX12_goThrough_186 ?_
                    refine lv_iload hx hb dX12_goThrough_189 (lv_at hl 7 rfl) ?_
                    refine lv_aload_n hx hb dX12_goThrough_191 rfl (lv_at hl 0 rfl) ?_
                    obtain ⟨b103, hb103, h⟩ := h
                    refine m_get hX hw cl12 hT99 33 (by decide) k_907 (fun _ h => h) (v := .ref b103) (congrArg va_rf hb103) dX12_goThrough_192 ?_
                    refine lv_iload hx hb dX12_goThrough_195 (lv_at hl 7 rfl) ?_
                    obtain ⟨hT104, h⟩ := h
                    obtain ⟨hc105, h⟩ := h
                    refine m_iald hX hw hT104 hc105 dX12_goThrough_197 ?_
                    obtain ⟨hT106, h⟩ := h
                    obtain ⟨hc107, h⟩ := h
                    refine m_iast hX hw hT106 hc107 dX12_goThrough_198 (fun H locs hw => ?_)
                    let σ108 : Me := sI σ97 b102 x9_98.toNatClampNeg (gI σ97 b103 x9_98.toNatClampNeg)
                    have h := h σ108 rfl
                    have hw : wS D cA z0 s σ108 H locs := hw
                    refine lv_aload_n hx hb dX12_goThrough_199 rfl (lv_at hl 0 rfl) ?_
                    obtain ⟨b109, hb109, h⟩ := h
                    refine m_get hX hw cl12 hT99 31 (by decide) k_905 (fun _ h => h) (v := .ref b109) (congrArg va_rf hb109) dX12_goThrough_200 ?_
                    refine lv_iload hx hb dX12_goThrough_203 (lv_at hl 7 rfl) ?_
                    refine lv_aload_n hx hb dX12_goThrough_205 rfl (lv_at hl 0 rfl) ?_
                    obtain ⟨b110, hb110, h⟩ := h
                    refine m_get hX hw cl12 hT99 34 (by decide) k_908 (fun _ h => h) (v := .ref b110) (congrArg va_rf hb110) dX12_goThrough_206 ?_
                    refine lv_iload hx hb dX12_goThrough_209 (lv_at hl 7 rfl) ?_
                    obtain ⟨hT111, h⟩ := h
                    obtain ⟨hc112, h⟩ := h
                    refine m_lald hX hw hT111 hc112 dX12_goThrough_211 ?_
                    obtain ⟨hT113, h⟩ := h
                    obtain ⟨hc114, h⟩ := h
                    refine m_last hX hw hT113 hc114 dX12_goThrough_212 (fun H locs hw => ?_)
                    let σ115 : Me := sL σ108 b109 x9_98.toNatClampNeg (gL σ108 b110 x9_98.toNatClampNeg)
                    have h := h σ115 rfl
                    have hw : wS D cA z0 s σ115 H locs := hw
                    obtain ⟨x9_116, e_x9_116⟩ : ∃ y : Int32, y = x9_98 + 1 := ⟨_, rfl⟩
                    have h := h x9_116 e_x9_116
                    refine lv_iinc (v := x9_116) (lv' := [(9, _), (0, _), (1, _), (2, _), (4, _), (5, _), (6, _), (8, _)]) hx hb dX12_goThrough_213 hl (k := 7) rfl (by rw [e_x9_116]; rfl) (by decide) rfl (fun ls hl => ?_)
                    refine lv_goto (tgt := 176) hx hb dX12_goThrough_216 (by decide) ?_
                    obtain ⟨m176, hm176, h⟩ := h
                    exact ih176 m176 hm176 _ _ _ _ _ h hw (lv_sub hl [1, 2, 3, 4, 5, 6, 7, 0] rfl)
              exact key176 _ _ _ _ _ _ h hw (lv_sub hl [1, 2, 3, 4, 5, 6, 7, 0] rfl)
            · have h := h.2 hc95
              refine lv_aload_n hx hb dX12_goThrough_149 rfl (lv_at hl 0 rfl) ?_
              refine lv_iload hx hb dX12_goThrough_150 (lv_at hl 7 rfl) ?_
              refine lv_iload_n hx hb dX12_goThrough_152 rfl (lv_at hl 1 rfl) ?_
              refine lv_iload_n hx hb dX12_goThrough_153 rfl (lv_at hl 2 rfl) ?_
              refine lv_iload hx hb dX12_goThrough_154 (lv_at hl 4 rfl) ?_
              refine m_cv (m_runV (rest := []) hX hw (tX12_goOn h) mtX12_goOn k_1184 ⟨k_1186, k_35⟩ cl12 hT90 ⟨⟨rfl, rfl, Nat.le_of_ble_eq_true rfl, Nat.le_of_ble_eq_true rfl⟩, Nat.le_of_ble_eq_true rfl, Nat.le_of_ble_eq_true rfl⟩ rfl hl.1 rfl (Nat.le_of_ble_eq_true rfl) dX12_goThrough_156) hw (fun σ118 H locs h hw => ?_)
              obtain ⟨x9_119, e_x9_119⟩ : ∃ y : Int32, y = x9_89 + 1 := ⟨_, rfl⟩
              have h := h x9_119 e_x9_119
              refine lv_iinc (v := x9_119) (lv' := [(9, _), (0, _), (1, _), (2, _), (4, _), (5, _), (6, _), (8, _)]) hx hb dX12_goThrough_159 hl (k := 7) rfl (by rw [e_x9_119]; rfl) (by decide) rfl (fun ls hl => ?_)
              refine lv_goto (tgt := 140) hx hb dX12_goThrough_162 (by decide) ?_
              obtain ⟨m140, hm140, h⟩ := h
              exact ih140 m140 hm140 _ _ _ _ _ h hw (lv_sub hl [1, 2, 3, 4, 5, 6, 7, 0] rfl)
        exact key140 _ _ _ _ _ _ h hw (lv_sub hl [1, 2, 3, 4, 5, 6, 7, 0] rfl)
  exact key60 _ _ _ _ _ _ h hw (lv_sub hl [2, 3, 4, 6, 7, 1, 0] rfl)
theorem mtX12_goThrough : Mth yX12_goThrough cX12_goThrough 10 none 5 := ⟨k_1180, k_50, by decide +kernel⟩
theorem tX12_goThrough {l : Launch} {D : va_G} {cA : Nat → ClassId} {z0 : Nat} {σ : Me} {a0 : Nat} {x1 : Int32} {x2 : Int32} {x3 : Int32} {x4 : Int32} {x5 : Int32} {Q : Me → Prop} (h : pX12_goThrough σ a0 x1 x2 x3 x4 x5 Q) : Met l yX12_goThrough (Cond.code yX12_goThrough cX12_goThrough 10 none :: gTab) rX12_goThrough (PcM D cA z0 σ [.ref a0, .int x1, .int x2, .int x3, .int x4, .int x5]) (va_Qv Q (BM D cA z0) (AM z0)) 0 0 (AM z0) :=
  met_of (by decide) (Nat.le_of_ble_eq_true rfl) (fun hX hlk hr hn hw hl => wX12_goThrough hX hlk hr h hw hl)
abbrev rX12_cost : Room := { frames := 4, cells := 0, slots := 0, locals := 106 }
def pX12_cost (σ : Me) (a0 : Nat) (x1 : Int32) (x2 : Int32) (x3 : Int32) (x4 : Int32) (Q : Int32 → Me → Prop) : Prop := gT σ a0 = 12 ∧ pX12_needBoth σ a0 ((1 : Int32)) x1 x2 x3 x4 (fun r1 σ2 => (0 ≤ r1 → gT σ2 a0 = 12 ∧ pX12_goThrough σ2 a0 x1 x2 x3 x4 ((0 : Int32)) (fun σ6 => gT σ6 a0 = 12 ∧ pX12_tells σ6 a0 (gL σ6 a0 39) (gL σ6 a0 44) ((1 : Int32)) (fun r9 σ10 => Q r9 σ10))) ∧ (¬ 0 ≤ r1 → Q r1 σ2))
set_option maxHeartbeats 4000000 in
set_option maxRecDepth 100000 in
theorem wX12_cost {p : Program} {l : Launch} {e : Env} {s : State} {m : MethodId} {args : Array Value} {below : List Frame} {meth : Method} {c : Code} {D : va_G} {cA : Nat → ClassId} {z0 : Nat} (hX : Cx p m c cX12_cost 6 s args RX12 D cA) (hlk : meth.locks = false) (hr : meth.sig.returnType = (some .int)) {σ : Me} {a0 : Nat} {x1 : Int32} {x2 : Int32} {x3 : Int32} {x4 : Int32} {Q : Int32 → Me → Prop} (h : pX12_cost σ a0 x1 x2 x3 x4 Q) {H : Heap} {locs : List Loc} {ls : Array Slot} (hw : wS D cA z0 s σ H locs) (hl : lv_has ls 6 [(0, .ref a0), (1, .int x1), (2, .int x2), (3, .int x3), (4, .int x4)]) : W p l e rX12_cost s m args below meth c H locs 0 0 (MQ below (va_Qi Q (BM D cA z0) (AM z0)) args s 0 0 (AM z0)) (F0 m 0 ls []) := by
  have hx := hX.1.1
  have hb := hX.1.2.1
  have hown := hX.1.2.2.2.1
  have hts := hX.1.2.2.2.2
  unfold pX12_cost at h
  refine lv_aload_n hx hb dX12_cost_0 rfl (lv_at hl 0 rfl) ?_
  refine lv_iconst (v := 1) hx hb dX12_cost_1 (by decide) ?_
  refine lv_iload_n hx hb dX12_cost_2 rfl (lv_at hl 1 rfl) ?_
  refine lv_iload_n hx hb dX12_cost_3 rfl (lv_at hl 2 rfl) ?_
  refine lv_iload_n hx hb dX12_cost_4 rfl (lv_at hl 3 rfl) ?_
  refine lv_iload hx hb dX12_cost_5 (lv_at hl 4 rfl) ?_
  obtain ⟨hT3, h⟩ := h
  refine m_ci (m_runV (rest := []) hX hw (tX12_needBoth h) mtX12_needBoth k_1165 ⟨k_1167, k_31⟩ cl12 hT3 ⟨⟨rfl, rfl, Nat.le_of_ble_eq_true rfl, Nat.le_of_ble_eq_true rfl⟩, Nat.le_of_ble_eq_true rfl, Nat.le_of_ble_eq_true rfl⟩ rfl hl.1 rfl (Nat.le_of_ble_eq_true rfl) dX12_cost_7) hw (fun r1 σ2 H locs h hw => ?_)
  refine lv_istore (lv' := [(5, _), (0, _), (1, _), (2, _), (3, _), (4, _)]) hx hb dX12_cost_10 hl (by decide) rfl (fun ls hl => ?_)
  refine lv_iload hx hb dX12_cost_12 (lv_at hl 0 rfl) ?_
  refine lv_if_ge (tgt := 20) hx hb dX12_cost_14 (by decide) (fun hc4 => ?_) (fun hc4 => ?_)
  · have h := h.1 hc4
    refine lv_aload_n hx hb dX12_cost_20 rfl (lv_at hl 1 rfl) ?_
    refine lv_iload_n hx hb dX12_cost_21 rfl (lv_at hl 2 rfl) ?_
    refine lv_iload_n hx hb dX12_cost_22 rfl (lv_at hl 3 rfl) ?_
    refine lv_iload_n hx hb dX12_cost_23 rfl (lv_at hl 4 rfl) ?_
    refine lv_iload hx hb dX12_cost_24 (lv_at hl 5 rfl) ?_
    refine lv_iconst (v := 0) hx hb dX12_cost_26 (by decide) ?_
    obtain ⟨hT7, h⟩ := h
    refine m_cv (m_runV (rest := []) hX hw (tX12_goThrough h) mtX12_goThrough k_1177 ⟨k_1179, k_34⟩ cl12 hT7 ⟨⟨rfl, rfl, Nat.le_of_ble_eq_true rfl, Nat.le_of_ble_eq_true rfl⟩, Nat.le_of_ble_eq_true rfl, Nat.le_of_ble_eq_true rfl⟩ rfl hl.1 rfl (Nat.le_of_ble_eq_true rfl) dX12_cost_27) hw (fun σ6 H locs h hw => ?_)
    refine lv_aload_n hx hb dX12_cost_30 rfl (lv_at hl 1 rfl) ?_
    refine lv_aload_n hx hb dX12_cost_31 rfl (lv_at hl 1 rfl) ?_
    obtain ⟨hT8, h⟩ := h
    refine m_get hX hw cl12 hT8 39 (by decide) k_913 (fun _ h => h) (v := .long _) rfl dX12_cost_32 ?_
    refine lv_aload_n hx hb dX12_cost_35 rfl (lv_at hl 1 rfl) ?_
    refine m_get hX hw cl12 hT8 44 (by decide) k_918 (fun _ h => h) (v := .long _) rfl dX12_cost_36 ?_
    refine lv_iconst (v := 1) hx hb dX12_cost_39 (by decide) ?_
    refine m_ci (m_runV (rest := []) hX hw (tX12_tells h) mtX12_tells k_1196 ⟨k_1198, k_38⟩ cl12 hT8 ⟨⟨rfl, rfl, Nat.le_of_ble_eq_true rfl, Nat.le_of_ble_eq_true rfl⟩, Nat.le_of_ble_eq_true rfl, Nat.le_of_ble_eq_true rfl⟩ rfl hl.1 rfl (Nat.le_of_ble_eq_true rfl) dX12_cost_40) hw (fun r9 σ10 H locs h hw => ?_)
    exact m_iret hX hlk hr hw h dX12_cost_43
  · have h := h.2 hc4
    refine lv_iload hx hb dX12_cost_17 (lv_at hl 0 rfl) ?_
    exact m_iret hX hlk hr hw h dX12_cost_19
theorem mtX12_cost : Mth yX12_cost cX12_cost 6 (some .int) 4 := ⟨k_1164, k_50, by decide +kernel⟩
theorem tX12_cost {l : Launch} {D : va_G} {cA : Nat → ClassId} {z0 : Nat} {σ : Me} {a0 : Nat} {x1 : Int32} {x2 : Int32} {x3 : Int32} {x4 : Int32} {Q : Int32 → Me → Prop} (h : pX12_cost σ a0 x1 x2 x3 x4 Q) : Met l yX12_cost (Cond.code yX12_cost cX12_cost 6 (some .int) :: gTab) rX12_cost (PcM D cA z0 σ [.ref a0, .int x1, .int x2, .int x3, .int x4]) (va_Qi Q (BM D cA z0) (AM z0)) 0 0 (AM z0) :=
  met_of (by decide) (Nat.le_of_ble_eq_true rfl) (fun hX hlk hr hn hw hl => wX12_cost hX hlk hr h hw hl)
abbrev rX12_service : Room := { frames := 4, cells := 0, slots := 0, locals := 106 }
def pX12_service (σ : Me) (a0 : Nat) (x1 : Int32) (x2 : Int32) (x3 : Int32) (x4 : Int32) (x5 : Int32) (Q : Int32 → Me → Prop) : Prop := pX12_in σ x1 ((0 : Int32)) ((2 : Int32)) (fun r1 σ2 => gT σ2 a0 = 12 ∧ pX12_needBoth σ2 a0 r1 x2 x3 x4 x5 (fun r3 σ4 => (0 ≤ r3 → ∀ v_7 : Int32, v_7 = (if x1 = 0 then ((1 : Int32)) else ((0 : Int32))) → gT σ4 a0 = 12 ∧ pX12_goThrough σ4 a0 x2 x3 x4 x5 v_7 (fun σ10 => (x1 = 0 → gT σ10 a0 = 12 ∧ pX12_tells σ10 a0 (gL σ10 a0 43) (gL σ10 a0 44) ((1 : Int32)) (fun r29 σ30 => Q r29 σ30)) ∧ (¬ x1 = 0 → (x1 = ((1 : Int32)) → gT σ10 a0 = 12 ∧ ((gL σ10 a0 41) = ((0 : Int64)) → pX12_tells σ10 a0 ((0 : Int64)) ((1 : Int64)) ((1 : Int32)) (fun r26 σ27 => Q r26 σ27)) ∧ (¬ (gL σ10 a0 41) = ((0 : Int64)) → pX12_tells σ10 a0 (gL σ10 a0 40) (gL σ10 a0 41) ((1 : Int32)) (fun r24 σ25 => Q r24 σ25))) ∧ (¬ x1 = ((1 : Int32)) → gT σ10 a0 = 12 ∧ pX12_tells σ10 a0 (gL σ10 a0 42) ((gL σ10 a0 44) * x5.toInt64) ((1 : Int32)) (fun r15 σ16 => Q r15 σ16))))) ∧ (¬ 0 ≤ r3 → Q r3 σ4)))
set_option maxHeartbeats 4000000 in
set_option maxRecDepth 100000 in
theorem wX12_service {p : Program} {l : Launch} {e : Env} {s : State} {m : MethodId} {args : Array Value} {below : List Frame} {meth : Method} {c : Code} {D : va_G} {cA : Nat → ClassId} {z0 : Nat} (hX : Cx p m c cX12_service 7 s args RX12 D cA) (hlk : meth.locks = false) (hr : meth.sig.returnType = (some .int)) {σ : Me} {a0 : Nat} {x1 : Int32} {x2 : Int32} {x3 : Int32} {x4 : Int32} {x5 : Int32} {Q : Int32 → Me → Prop} (h : pX12_service σ a0 x1 x2 x3 x4 x5 Q) {H : Heap} {locs : List Loc} {ls : Array Slot} (hw : wS D cA z0 s σ H locs) (hl : lv_has ls 7 [(0, .ref a0), (1, .int x1), (2, .int x2), (3, .int x3), (4, .int x4), (5, .int x5)]) : W p l e rX12_service s m args below meth c H locs 0 0 (MQ below (va_Qi Q (BM D cA z0) (AM z0)) args s 0 0 (AM z0)) (F0 m 0 ls []) := by
  have hx := hX.1.1
  have hb := hX.1.2.1
  have hown := hX.1.2.2.2.1
  have hts := hX.1.2.2.2.2
  unfold pX12_service at h
  refine lv_aload_n hx hb dX12_service_0 rfl (lv_at hl 0 rfl) ?_
  refine lv_iload_n hx hb dX12_service_1 rfl (lv_at hl 1 rfl) ?_
  refine lv_iconst (v := 0) hx hb dX12_service_2 (by decide) ?_
  refine lv_iconst (v := 2) hx hb dX12_service_3 (by decide) ?_
  refine m_ci (m_runS (rest := [_]) hX hw (tX12_in h) mtX12_in k_1054 k_1055 ⟨⟨rfl, rfl, Nat.le_of_ble_eq_true rfl, Nat.le_of_ble_eq_true rfl⟩, Nat.le_of_ble_eq_true rfl, Nat.le_of_ble_eq_true rfl⟩ rfl hl.1 rfl (Nat.le_of_ble_eq_true rfl) dX12_service_4) hw (fun r1 σ2 H locs h hw => ?_)
  refine lv_iload_n hx hb dX12_service_7 rfl (lv_at hl 2 rfl) ?_
  refine lv_iload_n hx hb dX12_service_8 rfl (lv_at hl 3 rfl) ?_
  refine lv_iload hx hb dX12_service_9 (lv_at hl 4 rfl) ?_
  refine lv_iload hx hb dX12_service_11 (lv_at hl 5 rfl) ?_
  obtain ⟨hT5, h⟩ := h
  refine m_ci (m_runV (rest := []) hX hw (tX12_needBoth h) mtX12_needBoth k_1165 ⟨k_1167, k_31⟩ cl12 hT5 ⟨⟨rfl, rfl, Nat.le_of_ble_eq_true rfl, Nat.le_of_ble_eq_true rfl⟩, Nat.le_of_ble_eq_true rfl, Nat.le_of_ble_eq_true rfl⟩ rfl hl.1 rfl (Nat.le_of_ble_eq_true rfl) dX12_service_13) hw (fun r3 σ4 H locs h hw => ?_)
  refine lv_istore (lv' := [(6, _), (0, _), (1, _), (2, _), (3, _), (4, _), (5, _)]) hx hb dX12_service_16 hl (by decide) rfl (fun ls hl => ?_)
  refine lv_iload hx hb dX12_service_18 (lv_at hl 0 rfl) ?_
  refine lv_if_ge (tgt := 26) hx hb dX12_service_20 (by decide) (fun hc6 => ?_) (fun hc6 => ?_)
  · have h := h.1 hc6
    refine lv_aload_n hx hb dX12_service_26 rfl (lv_at hl 1 rfl) ?_
    refine lv_iload_n hx hb dX12_service_27 rfl (lv_at hl 3 rfl) ?_
    refine lv_iload_n hx hb dX12_service_28 rfl (lv_at hl 4 rfl) ?_
    refine lv_iload hx hb dX12_service_29 (lv_at hl 5 rfl) ?_
    refine lv_iload hx hb dX12_service_31 (lv_at hl 6 rfl) ?_
    refine lv_iload_n hx hb dX12_service_33 rfl (lv_at hl 2 rfl) ?_
    have kM8 : ∀ (v_7 : Int32) (ls : Array Slot), v_7 = (if x1 = 0 then ((1 : Int32)) else ((0 : Int32))) → lv_has ls 7 [(0, .ref a0), (1, .int x1), (5, .int x5)] → W p l e rX12_service s m args below meth c H locs 0 0 (MQ below (va_Qi Q (BM D cA z0) (AM z0)) args s 0 0 (AM z0)) (F0 m 42 ls [.int v_7, .int x5, .int x4, .int x3, .int x2, .ref a0]) := by
      intro v_7 ls e_v_7 hl
      have h := h v_7 e_v_7
      obtain ⟨hT11, h⟩ := h
      refine m_cv (m_runV (rest := []) hX hw (tX12_goThrough h) mtX12_goThrough k_1177 ⟨k_1179, k_34⟩ cl12 hT11 ⟨⟨rfl, rfl, Nat.le_of_ble_eq_true rfl, Nat.le_of_ble_eq_true rfl⟩, Nat.le_of_ble_eq_true rfl, Nat.le_of_ble_eq_true rfl⟩ rfl hl.1 rfl (Nat.le_of_ble_eq_true rfl) dX12_service_42) hw (fun σ10 H locs h hw => ?_)
      refine lv_iload_n hx hb dX12_service_45 rfl (lv_at hl 1 rfl) ?_
      refine lv_if_ne (tgt := 63) hx hb dX12_service_46 (by decide) (fun hc12 => ?_) (fun hc12 => ?_)
      · have h := h.2 hc12
        refine lv_iload_n hx hb dX12_service_63 rfl (lv_at hl 1 rfl) ?_
        refine lv_iconst (v := 1) hx hb dX12_service_64 (by decide) ?_
        refine lv_icmp_ne (tgt := 101) hx hb dX12_service_65 (by decide) (fun hc13 => ?_) (fun hc13 => ?_)
        · have h := h.2 hc13
          refine lv_aload_n hx hb dX12_service_101 rfl (lv_at hl 0 rfl) ?_
          refine lv_aload_n hx hb dX12_service_102 rfl (lv_at hl 0 rfl) ?_
          obtain ⟨hT14, h⟩ := h
          refine m_get hX hw cl12 hT14 42 (by decide) k_916 (fun _ h => h) (v := .long _) rfl dX12_service_103 ?_
          refine lv_aload_n hx hb dX12_service_106 rfl (lv_at hl 0 rfl) ?_
          refine m_get hX hw cl12 hT14 44 (by decide) k_918 (fun _ h => h) (v := .long _) rfl dX12_service_107 ?_
          refine lv_iload hx hb dX12_service_110 (lv_at hl 2 rfl) ?_
          refine lv_i2l hx hb dX12_service_112 rfl ?_
          refine lv_lmul hx hb dX12_service_113 ?_
          refine lv_iconst (v := 1) hx hb dX12_service_114 (by decide) ?_
          refine m_ci (m_runV (rest := []) hX hw (tX12_tells h) mtX12_tells k_1196 ⟨k_1198, k_38⟩ cl12 hT14 ⟨⟨rfl, rfl, Nat.le_of_ble_eq_true rfl, Nat.le_of_ble_eq_true rfl⟩, Nat.le_of_ble_eq_true rfl, Nat.le_of_ble_eq_true rfl⟩ rfl hl.1 rfl (Nat.le_of_ble_eq_true rfl) dX12_service_115) hw (fun r15 σ16 H locs h hw => ?_)
          exact m_iret hX hlk hr hw h dX12_service_118
        · have h := h.1 hc13
          refine lv_aload_n hx hb dX12_service_68 rfl (lv_at hl 0 rfl) ?_
          obtain ⟨hT17, h⟩ := h
          refine m_get hX hw cl12 hT17 41 (by decide) k_915 (fun _ h => h) (v := .long _) rfl dX12_service_69 ?_
          refine lv_lconst (v := 0) hx hb dX12_service_72 (by decide) ?_
          refine m_lne (tgt := 87) hX dX12_service_73 dX12_service_74 (by decide) (fun hc23 => ?_) (fun hc23 => ?_)
          · have h := h.2 hc23
            refine lv_aload_n hx hb dX12_service_87 rfl (lv_at hl 0 rfl) ?_
            refine lv_aload_n hx hb dX12_service_88 rfl (lv_at hl 0 rfl) ?_
            refine m_get hX hw cl12 hT17 40 (by decide) k_914 (fun _ h => h) (v := .long _) rfl dX12_service_89 ?_
            refine lv_aload_n hx hb dX12_service_92 rfl (lv_at hl 0 rfl) ?_
            refine m_get hX hw cl12 hT17 41 (by decide) k_915 (fun _ h => h) (v := .long _) rfl dX12_service_93 ?_
            refine lv_iconst (v := 1) hx hb dX12_service_96 (by decide) ?_
            refine m_ci (m_runV (rest := []) hX hw (tX12_tells h) mtX12_tells k_1196 ⟨k_1198, k_38⟩ cl12 hT17 ⟨⟨rfl, rfl, Nat.le_of_ble_eq_true rfl, Nat.le_of_ble_eq_true rfl⟩, Nat.le_of_ble_eq_true rfl, Nat.le_of_ble_eq_true rfl⟩ rfl hl.1 rfl (Nat.le_of_ble_eq_true rfl) dX12_service_97) hw (fun r24 σ25 H locs h hw => ?_)
            exact m_iret hX hlk hr hw h dX12_service_100
          · have h := h.1 hc23
            refine lv_aload_n hx hb dX12_service_77 rfl (lv_at hl 0 rfl) ?_
            refine lv_lconst (v := 0) hx hb dX12_service_78 (by decide) ?_
            refine lv_lconst (v := 1) hx hb dX12_service_79 (by decide) ?_
            refine lv_iconst (v := 1) hx hb dX12_service_80 (by decide) ?_
            refine m_ci (m_runV (rest := []) hX hw (tX12_tells h) mtX12_tells k_1196 ⟨k_1198, k_38⟩ cl12 hT17 ⟨⟨rfl, rfl, Nat.le_of_ble_eq_true rfl, Nat.le_of_ble_eq_true rfl⟩, Nat.le_of_ble_eq_true rfl, Nat.le_of_ble_eq_true rfl⟩ rfl hl.1 rfl (Nat.le_of_ble_eq_true rfl) dX12_service_81) hw (fun r26 σ27 H locs h hw => ?_)
            refine lv_goto (tgt := 100) hx hb dX12_service_84 (by decide) ?_
            exact m_iret hX hlk hr hw h dX12_service_100
      · have h := h.1 hc12
        refine lv_aload_n hx hb dX12_service_49 rfl (lv_at hl 0 rfl) ?_
        refine lv_aload_n hx hb dX12_service_50 rfl (lv_at hl 0 rfl) ?_
        obtain ⟨hT28, h⟩ := h
        refine m_get hX hw cl12 hT28 43 (by decide) k_917 (fun _ h => h) (v := .long _) rfl dX12_service_51 ?_
        refine lv_aload_n hx hb dX12_service_54 rfl (lv_at hl 0 rfl) ?_
        refine m_get hX hw cl12 hT28 44 (by decide) k_918 (fun _ h => h) (v := .long _) rfl dX12_service_55 ?_
        refine lv_iconst (v := 1) hx hb dX12_service_58 (by decide) ?_
        refine m_ci (m_runV (rest := []) hX hw (tX12_tells h) mtX12_tells k_1196 ⟨k_1198, k_38⟩ cl12 hT28 ⟨⟨rfl, rfl, Nat.le_of_ble_eq_true rfl, Nat.le_of_ble_eq_true rfl⟩, Nat.le_of_ble_eq_true rfl, Nat.le_of_ble_eq_true rfl⟩ rfl hl.1 rfl (Nat.le_of_ble_eq_true rfl) dX12_service_59) hw (fun r29 σ30 H locs h hw => ?_)
        exact m_iret hX hlk hr hw h dX12_service_62
    refine lv_if_ne (tgt := 41) hx hb dX12_service_34 (by decide) (fun hc31 => ?_) (fun hc31 => ?_)
    · refine lv_iconst (v := 0) hx hb dX12_service_41 (by decide) ?_
      exact kM8 _ _ (by first | rfl | rw [if_neg hc31] | simp only [if_neg hc31]) (lv_sub hl [1, 2, 6] rfl)
    · refine lv_iconst (v := 1) hx hb dX12_service_37 (by decide) ?_
      refine lv_goto (tgt := 42) hx hb dX12_service_38 (by decide) ?_
      exact kM8 _ _ (by first | rfl | rw [if_pos hc31] | simp only [if_pos hc31]) (lv_sub hl [1, 2, 6] rfl)
  · have h := h.2 hc6
    refine lv_iload hx hb dX12_service_23 (lv_at hl 0 rfl) ?_
    exact m_iret hX hlk hr hw h dX12_service_25
theorem mtX12_service : Mth yX12_service cX12_service 7 (some .int) 5 := ⟨k_1206, k_50, by decide +kernel⟩
theorem tX12_service {l : Launch} {D : va_G} {cA : Nat → ClassId} {z0 : Nat} {σ : Me} {a0 : Nat} {x1 : Int32} {x2 : Int32} {x3 : Int32} {x4 : Int32} {x5 : Int32} {Q : Int32 → Me → Prop} (h : pX12_service σ a0 x1 x2 x3 x4 x5 Q) : Met l yX12_service (Cond.code yX12_service cX12_service 7 (some .int) :: gTab) rX12_service (PcM D cA z0 σ [.ref a0, .int x1, .int x2, .int x3, .int x4, .int x5]) (va_Qi Q (BM D cA z0) (AM z0)) 0 0 (AM z0) :=
  met_of (by decide) (Nat.le_of_ble_eq_true rfl) (fun hX hlk hr hn hw hl => wX12_service hX hlk hr h hw hl)
abbrev rX12_bestPair : Room := { frames := 2, cells := 0, slots := 0, locals := 63 }
def pX12_bestPair (σ : Me) (a0 : Nat) (x1 : Int32) (x2 : Int32) (x3 : Int32) (Q : Int32 → Me → Prop) : Prop := pX12_isPlace σ x1 (fun r1 σ2 => (r1 = 0 → Q ((-1 : Int32)) σ2) ∧ (¬ r1 = 0 → gT σ2 a0 = 12 ∧ pX12_isStart σ2 a0 x2 x3 (fun r4 σ5 => (r4 = 0 → Q ((-1 : Int32)) σ5) ∧ (¬ r4 = 0 → gT σ5 a0 = 12 ∧ pX12_needBook σ5 a0 x1 (fun r8 σ9 => (0 ≤ r8 → ∃ I49 : Nat → Me → Int64 → Int32 → Int32 → Int32 → Prop, (∀ (n49 : Nat) (σ12 : Me) (x5_13 : Int64) (x7_14 : Int32) (x8_15 : Int32) (x9_16 : Int32), I49 n49 σ12 x5_13 x7_14 x8_15 x9_16 → gT σ12 a0 = 12 ∧ ((gI σ12 a0 17) < x9_16 → ∀ σ63 : Me, σ63 = sI σ12 a0 48 x7_14 → ∀ σ64 : Me, σ64 = sI σ63 a0 49 x8_15 → pX12_tells σ64 a0 x5_13 (gL σ64 a0 44) ((1 : Int32)) (fun r65 σ66 => Q r65 σ66)) ∧ (¬ (gI σ12 a0 17) < x9_16 → ∃ I62 : Nat → Me → Int64 → Int32 → Int32 → Int32 → Prop, (∀ (n62 : Nat) (σ67 : Me) (x5_68 : Int64) (x7_69 : Int32) (x8_70 : Int32) (x10_71 : Int32), I62 n62 σ67 x5_68 x7_69 x8_70 x10_71 → (x9_16 ≤ x10_71 → ∀ x9_73 : Int32, x9_73 = x9_16 + 1 → ∃ m49 : Nat, m49 < n49 ∧ I49 m49 σ67 x5_68 x7_69 x8_70 x9_73) ∧ (¬ x9_16 ≤ x10_71 → gT σ67 a0 = 12 ∧ ∀ σ75 : Me, σ75 = sI σ67 a0 50 x10_71 → ∀ σ76 : Me, σ76 = sI σ75 a0 51 x9_16 → pX12_goThroughPair σ76 a0 x1 x2 x3 (fun σ78 => (x5_68 < ((0 : Int64)) → gT σ78 a0 = 12 ∧ ∀ x5_98 : Int64, x5_98 = (gL σ78 a0 39) → ∀ x10_99 : Int32, x10_99 = x10_71 + 1 → ∃ m62 : Nat, m62 < n62 ∧ I62 m62 σ78 x5_98 x10_71 x9_16 x10_99) ∧ (¬ x5_68 < ((0 : Int64)) → gT σ78 a0 = 12 ∧ (x5_68 ≤ (gL σ78 a0 39) → ∀ x10_107 : Int32, x10_107 = x10_71 + 1 → ∃ m62 : Nat, m62 < n62 ∧ I62 m62 σ78 x5_68 x7_69 x8_70 x10_107) ∧ (¬ x5_68 ≤ (gL σ78 a0 39) → ∀ x5_108 : Int64, x5_108 = (gL σ78 a0 39) → ∀ x10_109 : Int32, x10_109 = x10_71 + 1 → ∃ m62 : Nat, m62 < n62 ∧ I62 m62 σ78 x5_108 x10_71 x9_16 x10_109))))) ∧ ∃ n62 : Nat, I62 n62 σ12 x5_13 x7_14 x8_15 ((-12 : Int32)))) ∧ ∃ n49 : Nat, I49 n49 σ9 ((-1 : Int64)) ((-9 : Int32)) ((-9 : Int32)) ((0 : Int32))) ∧ (¬ 0 ≤ r8 → Q r8 σ9))))))
set_option maxHeartbeats 4000000 in
set_option maxRecDepth 100000 in
theorem wX12_bestPair {p : Program} {l : Launch} {e : Env} {s : State} {m : MethodId} {args : Array Value} {below : List Frame} {meth : Method} {c : Code} {D : va_G} {cA : Nat → ClassId} {z0 : Nat} (hX : Cx p m c cX12_bestPair 11 s args RX12 D cA) (hlk : meth.locks = false) (hr : meth.sig.returnType = (some .int)) {σ : Me} {a0 : Nat} {x1 : Int32} {x2 : Int32} {x3 : Int32} {Q : Int32 → Me → Prop} (h : pX12_bestPair σ a0 x1 x2 x3 Q) {H : Heap} {locs : List Loc} {ls : Array Slot} (hw : wS D cA z0 s σ H locs) (hl : lv_has ls 11 [(0, .ref a0), (1, .int x1), (2, .int x2), (3, .int x3)]) : W p l e rX12_bestPair s m args below meth c H locs 0 0 (MQ below (va_Qi Q (BM D cA z0) (AM z0)) args s 0 0 (AM z0)) (F0 m 0 ls []) := by
  have hx := hX.1.1
  have hb := hX.1.2.1
  have hown := hX.1.2.2.2.1
  have hts := hX.1.2.2.2.2
  unfold pX12_bestPair at h
  refine lv_iload_n hx hb dX12_bestPair_0 rfl (lv_at hl 1 rfl) ?_
  refine m_ci (m_runS (rest := []) hX hw (tX12_isPlace h) mtX12_isPlace k_1069 k_1070 ⟨⟨rfl, rfl, Nat.le_of_ble_eq_true rfl, Nat.le_of_ble_eq_true rfl⟩, Nat.le_of_ble_eq_true rfl, Nat.le_of_ble_eq_true rfl⟩ rfl hl.1 rfl (Nat.le_of_ble_eq_true rfl) dX12_bestPair_1) hw (fun r1 σ2 H locs h hw => ?_)
  refine lv_if_eq (tgt := 16) hx hb dX12_bestPair_4 (by decide) (fun hc3 => ?_) (fun hc3 => ?_)
  · have h := h.1 hc3
    refine lv_iconst (v := (-1)) hx hb dX12_bestPair_16 (by decide) ?_
    exact m_iret hX hlk hr hw h dX12_bestPair_17
  · have h := h.2 hc3
    refine lv_aload_n hx hb dX12_bestPair_7 rfl (lv_at hl 0 rfl) ?_
    refine lv_iload_n hx hb dX12_bestPair_8 rfl (lv_at hl 2 rfl) ?_
    refine lv_iload_n hx hb dX12_bestPair_9 rfl (lv_at hl 3 rfl) ?_
    obtain ⟨hT6, h⟩ := h
    refine m_ci (m_runV (rest := []) hX hw (tX12_isStart h) mtX12_isStart k_1169 ⟨k_1171, k_32⟩ cl12 hT6 ⟨⟨rfl, rfl, Nat.le_of_ble_eq_true rfl, Nat.le_of_ble_eq_true rfl⟩, Nat.le_of_ble_eq_true rfl, Nat.le_of_ble_eq_true rfl⟩ rfl hl.1 rfl (Nat.le_of_ble_eq_true rfl) dX12_bestPair_10) hw (fun r4 σ5 H locs h hw => ?_)
    refine lv_if_ne (tgt := 18) hx hb dX12_bestPair_13 (by decide) (fun hc7 => ?_) (fun hc7 => ?_)
    · have h := h.2 hc7
      refine lv_aload_n hx hb dX12_bestPair_18 rfl (lv_at hl 0 rfl) ?_
      refine lv_iload_n hx hb dX12_bestPair_19 rfl (lv_at hl 1 rfl) ?_
      obtain ⟨hT10, h⟩ := h
      refine m_ci (m_runV (rest := []) hX hw (tX12_needBook h) mtX12_needBook k_1173 ⟨k_1175, k_33⟩ cl12 hT10 ⟨⟨rfl, rfl, Nat.le_of_ble_eq_true rfl, Nat.le_of_ble_eq_true rfl⟩, Nat.le_of_ble_eq_true rfl, Nat.le_of_ble_eq_true rfl⟩ rfl hl.1 rfl (Nat.le_of_ble_eq_true rfl) dX12_bestPair_20) hw (fun r8 σ9 H locs h hw => ?_)
      refine lv_istore (lv' := [(4, _), (0, _), (1, _), (2, _), (3, _)]) hx hb dX12_bestPair_23 hl (by decide) rfl (fun ls hl => ?_)
      refine lv_iload hx hb dX12_bestPair_25 (lv_at hl 0 rfl) ?_
      refine lv_if_ge (tgt := 33) hx hb dX12_bestPair_27 (by decide) (fun hc11 => ?_) (fun hc11 => ?_)
      · have h := h.1 hc11
        refine lv_ldc2 hx hb hown (hts _ k_1215) dX12_bestPair_33 ?_
        refine lv_lstore (lv' := [(5, _), (4, _), (0, _), (1, _), (2, _), (3, _)]) hx hb dX12_bestPair_36 hl (by decide) rfl (fun ls hl => ?_)
        refine lv_bipush (v := (-9)) hx hb dX12_bestPair_38 (by decide) ?_
        refine lv_istore (lv' := [(7, _), (5, _), (4, _), (0, _), (1, _), (2, _), (3, _)]) hx hb dX12_bestPair_40 hl (by decide) rfl (fun ls hl => ?_)
        refine lv_bipush (v := (-9)) hx hb dX12_bestPair_42 (by decide) ?_
        refine lv_istore (lv' := [(8, _), (7, _), (5, _), (4, _), (0, _), (1, _), (2, _), (3, _)]) hx hb dX12_bestPair_44 hl (by decide) rfl (fun ls hl => ?_)
        refine lv_iconst (v := 0) hx hb dX12_bestPair_46 (by decide) ?_
        refine lv_istore (lv' := [(9, _), (8, _), (7, _), (5, _), (4, _), (0, _), (1, _), (2, _), (3, _)]) hx hb dX12_bestPair_47 hl (by decide) rfl (fun ls hl => ?_)
        obtain ⟨I49, hI49, n49, h⟩ := h
        have key49 : ∀ (n49 : Nat) (σ12 : Me) (x5_13 : Int64) (x7_14 : Int32) (x8_15 : Int32) (x9_16 : Int32) (H : Heap) (locs : List Loc) (ls : Array Slot), I49 n49 σ12 x5_13 x7_14 x8_15 x9_16 → wS D cA z0 s σ12 H locs → lv_has ls 11 [(0, .ref a0), (1, .int x1), (2, .int x2), (3, .int x3), (5, .long x5_13), (7, .int x7_14), (8, .int x8_15), (9, .int x9_16)] → W p l e rX12_bestPair s m args below meth c H locs 0 0 (MQ below (va_Qi Q (BM D cA z0) (AM z0)) args s 0 0 (AM z0)) (F0 m 49 ls []) := by
          intro n49
          induction n49 using Nat.strongRecOn with
          | _ n49 ih49 =>
            intro σ12 x5_13 x7_14 x8_15 x9_16 H locs ls h hw hl
            have h := hI49 _ _ _ _ _ _ h
            refine lv_iload hx hb dX12_bestPair_49 (lv_at hl 7 rfl) ?_
            refine lv_aload_n hx hb dX12_bestPair_51 rfl (lv_at hl 0 rfl) ?_
            obtain ⟨hT17, h⟩ := h
            refine m_get hX hw cl12 hT17 17 (by decide) k_891 (fun _ h => h) (v := .int _) rfl dX12_bestPair_52 ?_
            refine lv_icmp_gt (tgt := 131) hx hb dX12_bestPair_55 (by decide) (fun hc62 => ?_) (fun hc62 => ?_)
            · have h := h.1 hc62
              refine lv_aload_n hx hb dX12_bestPair_131 rfl (lv_at hl 0 rfl) ?_
              refine lv_iload hx hb dX12_bestPair_132 (lv_at hl 5 rfl) ?_
              refine m_putI hX hw cl12 hT17 48 (by decide) k_922 (fun _ h => h) rfl rfl dX12_bestPair_134 (fun H locs hw => ?_)
              let σ63 : Me := sI σ12 a0 48 x7_14
              have h := h σ63 rfl
              have hw : wS D cA z0 s σ63 H locs := hw
              refine lv_aload_n hx hb dX12_bestPair_137 rfl (lv_at hl 0 rfl) ?_
              refine lv_iload hx hb dX12_bestPair_138 (lv_at hl 6 rfl) ?_
              refine m_putI hX hw cl12 hT17 49 (by decide) k_923 (fun _ h => h) rfl rfl dX12_bestPair_140 (fun H locs hw => ?_)
              let σ64 : Me := sI σ63 a0 49 x8_15
              have h := h σ64 rfl
              have hw : wS D cA z0 s σ64 H locs := hw
              refine lv_aload_n hx hb dX12_bestPair_143 rfl (lv_at hl 0 rfl) ?_
              refine lv_lload hx hb dX12_bestPair_144 (lv_at hl 4 rfl) ?_
              refine lv_aload_n hx hb dX12_bestPair_146 rfl (lv_at hl 0 rfl) ?_
              refine m_get hX hw cl12 hT17 44 (by decide) k_918 (fun _ h => h) (v := .long _) rfl dX12_bestPair_147 ?_
              refine lv_iconst (v := 1) hx hb dX12_bestPair_150 (by decide) ?_
              refine m_ci (m_runV (rest := []) hX hw (tX12_tells h) mtX12_tells k_1196 ⟨k_1198, k_38⟩ cl12 hT17 ⟨⟨rfl, rfl, Nat.le_of_ble_eq_true rfl, Nat.le_of_ble_eq_true rfl⟩, Nat.le_of_ble_eq_true rfl, Nat.le_of_ble_eq_true rfl⟩ rfl hl.1 rfl (Nat.le_of_ble_eq_true rfl) dX12_bestPair_151) hw (fun r65 σ66 H locs h hw => ?_)
              exact m_iret hX hlk hr hw h dX12_bestPair_154
            · have h := h.2 hc62
              refine lv_bipush (v := (-12)) hx hb dX12_bestPair_58 (by decide) ?_
              refine lv_istore (lv' := [(10, _), (0, _), (1, _), (2, _), (3, _), (5, _), (7, _), (8, _), (9, _)]) hx hb dX12_bestPair_60 hl (by decide) rfl (fun ls hl => ?_)
              obtain ⟨I62, hI62, n62, h⟩ := h
              have key62 : ∀ (n62 : Nat) (σ67 : Me) (x5_68 : Int64) (x7_69 : Int32) (x8_70 : Int32) (x10_71 : Int32) (H : Heap) (locs : List Loc) (ls : Array Slot), I62 n62 σ67 x5_68 x7_69 x8_70 x10_71 → wS D cA z0 s σ67 H locs → lv_has ls 11 [(0, .ref a0), (1, .int x1), (2, .int x2), (3, .int x3), (5, .long x5_68), (7, .int x7_69), (8, .int x8_70), (9, .int x9_16), (10, .int x10_71)] → W p l e rX12_bestPair s m args below meth c H locs 0 0 (MQ below (va_Qi Q (BM D cA z0) (AM z0)) args s 0 0 (AM z0)) (F0 m 62 ls []) := by
                intro n62
                induction n62 using Nat.strongRecOn with
                | _ n62 ih62 =>
                  intro σ67 x5_68 x7_69 x8_70 x10_71 H locs ls h hw hl
                  have h := hI62 _ _ _ _ _ _ h
                  refine lv_iload hx hb dX12_bestPair_62 (lv_at hl 8 rfl) ?_
                  refine lv_iload hx hb dX12_bestPair_64 (lv_at hl 7 rfl) ?_
                  refine lv_icmp_ge (tgt := 125) hx hb dX12_bestPair_66 (by decide) (fun hc72 => ?_) (fun hc72 => ?_)
                  · have h := h.1 hc72
                    obtain ⟨x9_73, e_x9_73⟩ : ∃ y : Int32, y = x9_16 + 1 := ⟨_, rfl⟩
                    have h := h x9_73 e_x9_73
                    refine lv_iinc (v := x9_73) (lv' := [(9, _), (0, _), (1, _), (2, _), (3, _), (5, _), (7, _), (8, _), (10, _)]) hx hb dX12_bestPair_125 hl (k := 7) rfl (by rw [e_x9_73]; rfl) (by decide) rfl (fun ls hl => ?_)
                    refine lv_goto (tgt := 49) hx hb dX12_bestPair_128 (by decide) ?_
                    obtain ⟨m49, hm49, h⟩ := h
                    exact ih49 m49 hm49 _ _ _ _ _ _ _ _ h hw (lv_sub hl [1, 2, 3, 4, 5, 6, 7, 0] rfl)
                  · have h := h.2 hc72
                    refine lv_aload_n hx hb dX12_bestPair_69 rfl (lv_at hl 0 rfl) ?_
                    refine lv_iload hx hb dX12_bestPair_70 (lv_at hl 8 rfl) ?_
                    obtain ⟨hT74, h⟩ := h
                    refine m_putI hX hw cl12 hT74 50 (by decide) k_924 (fun _ h => h) rfl rfl dX12_bestPair_72 (fun H locs hw => ?_)
                    let σ75 : Me := sI σ67 a0 50 x10_71
                    have h := h σ75 rfl
                    have hw : wS D cA z0 s σ75 H locs := hw
                    refine lv_aload_n hx hb dX12_bestPair_75 rfl (lv_at hl 0 rfl) ?_
                    refine lv_iload hx hb dX12_bestPair_76 (lv_at hl 7 rfl) ?_
                    refine m_putI hX hw cl12 hT74 51 (by decide) k_925 (fun _ h => h) rfl rfl dX12_bestPair_78 (fun H locs hw => ?_)
                    let σ76 : Me := sI σ75 a0 51 x9_16
                    have h := h σ76 rfl
                    have hw : wS D cA z0 s σ76 H locs := hw
                    refine lv_aload_n hx hb dX12_bestPair_81 rfl (lv_at hl 0 rfl) ?_
                    refine lv_iload_n hx hb dX12_bestPair_82 rfl (lv_at hl 1 rfl) ?_
                    refine lv_iload_n hx hb dX12_bestPair_83 rfl (lv_at hl 2 rfl) ?_
                    refine lv_iload_n hx hb dX12_bestPair_84 rfl (lv_at hl 3 rfl) ?_
                    refine m_cv (m_runV (rest := []) hX hw (tX12_goThroughPair h) mtX12_goThroughPair k_1220 ⟨k_1222, k_40⟩ cl12 hT74 ⟨⟨rfl, rfl, Nat.le_of_ble_eq_true rfl, Nat.le_of_ble_eq_true rfl⟩, Nat.le_of_ble_eq_true rfl, Nat.le_of_ble_eq_true rfl⟩ rfl hl.1 rfl (Nat.le_of_ble_eq_true rfl) dX12_bestPair_85) hw (fun σ78 H locs h hw => ?_)
                    refine lv_lload hx hb dX12_bestPair_88 (lv_at hl 4 rfl) ?_
                    refine lv_lconst (v := 0) hx hb dX12_bestPair_90 (by decide) ?_
                    refine m_llt (tgt := 105) hX dX12_bestPair_91 dX12_bestPair_92 (by decide) (fun hc96 => ?_) (fun hc96 => ?_)
                    · have h := h.1 hc96
                      refine lv_aload_n hx hb dX12_bestPair_105 rfl (lv_at hl 0 rfl) ?_
                      obtain ⟨hT97, h⟩ := h
                      refine m_get hX hw cl12 hT97 39 (by decide) k_913 (fun _ h => h) (v := .long _) rfl dX12_bestPair_106 ?_
                      refine lv_topl (fun x5_98 e_x5_98 => ?_)
                      have h := h x5_98 e_x5_98
                      refine lv_lstore (lv' := [(5, _), (0, _), (1, _), (2, _), (3, _), (7, _), (8, _), (9, _), (10, _)]) hx hb dX12_bestPair_109 hl (by decide) rfl (fun ls hl => ?_)
                      refine lv_iload hx hb dX12_bestPair_111 (lv_at hl 8 rfl) ?_
                      refine lv_istore (lv' := [(7, _), (5, _), (0, _), (1, _), (2, _), (3, _), (8, _), (9, _), (10, _)]) hx hb dX12_bestPair_113 hl (by decide) rfl (fun ls hl => ?_)
                      refine lv_iload hx hb dX12_bestPair_115 (lv_at hl 7 rfl) ?_
                      refine lv_istore (lv' := [(8, _), (7, _), (5, _), (0, _), (1, _), (2, _), (3, _), (9, _), (10, _)]) hx hb dX12_bestPair_117 hl (by decide) rfl (fun ls hl => ?_)
                      obtain ⟨x10_99, e_x10_99⟩ : ∃ y : Int32, y = x10_71 + 1 := ⟨_, rfl⟩
                      have h := h x10_99 e_x10_99
                      refine lv_iinc (v := x10_99) (lv' := [(10, _), (8, _), (7, _), (5, _), (0, _), (1, _), (2, _), (3, _), (9, _)]) hx hb dX12_bestPair_119 hl (k := 8) rfl (by rw [e_x10_99]; rfl) (by decide) rfl (fun ls hl => ?_)
                      refine lv_goto (tgt := 62) hx hb dX12_bestPair_122 (by decide) ?_
                      obtain ⟨m62, hm62, h⟩ := h
                      exact ih62 m62 hm62 _ _ _ _ _ _ _ _ h hw (lv_sub hl [4, 5, 6, 7, 3, 2, 1, 8, 0] rfl)
                    · have h := h.2 hc96
                      refine lv_aload_n hx hb dX12_bestPair_95 rfl (lv_at hl 0 rfl) ?_
                      obtain ⟨hT100, h⟩ := h
                      refine m_get hX hw cl12 hT100 39 (by decide) k_913 (fun _ h => h) (v := .long _) rfl dX12_bestPair_96 ?_
                      refine lv_lload hx hb dX12_bestPair_99 (lv_at hl 4 rfl) ?_
                      refine m_lge (tgt := 119) hX dX12_bestPair_101 dX12_bestPair_102 (by decide) (fun hc106 => ?_) (fun hc106 => ?_)
                      · have h := h.1 hc106
                        obtain ⟨x10_107, e_x10_107⟩ : ∃ y : Int32, y = x10_71 + 1 := ⟨_, rfl⟩
                        have h := h x10_107 e_x10_107
                        refine lv_iinc (v := x10_107) (lv' := [(10, _), (0, _), (1, _), (2, _), (3, _), (5, _), (7, _), (8, _), (9, _)]) hx hb dX12_bestPair_119 hl (k := 8) rfl (by rw [e_x10_107]; rfl) (by decide) rfl (fun ls hl => ?_)
                        refine lv_goto (tgt := 62) hx hb dX12_bestPair_122 (by decide) ?_
                        obtain ⟨m62, hm62, h⟩ := h
                        exact ih62 m62 hm62 _ _ _ _ _ _ _ _ h hw (lv_sub hl [1, 2, 3, 4, 5, 6, 7, 8, 0] rfl)
                      · have h := h.2 hc106
                        refine lv_aload_n hx hb dX12_bestPair_105 rfl (lv_at hl 0 rfl) ?_
                        refine m_get hX hw cl12 hT100 39 (by decide) k_913 (fun _ h => h) (v := .long _) rfl dX12_bestPair_106 ?_
                        refine lv_topl (fun x5_108 e_x5_108 => ?_)
                        have h := h x5_108 e_x5_108
                        refine lv_lstore (lv' := [(5, _), (0, _), (1, _), (2, _), (3, _), (7, _), (8, _), (9, _), (10, _)]) hx hb dX12_bestPair_109 hl (by decide) rfl (fun ls hl => ?_)
                        refine lv_iload hx hb dX12_bestPair_111 (lv_at hl 8 rfl) ?_
                        refine lv_istore (lv' := [(7, _), (5, _), (0, _), (1, _), (2, _), (3, _), (8, _), (9, _), (10, _)]) hx hb dX12_bestPair_113 hl (by decide) rfl (fun ls hl => ?_)
                        refine lv_iload hx hb dX12_bestPair_115 (lv_at hl 7 rfl) ?_
                        refine lv_istore (lv' := [(8, _), (7, _), (5, _), (0, _), (1, _), (2, _), (3, _), (9, _), (10, _)]) hx hb dX12_bestPair_117 hl (by decide) rfl (fun ls hl => ?_)
                        obtain ⟨x10_109, e_x10_109⟩ : ∃ y : Int32, y = x10_71 + 1 := ⟨_, rfl⟩
                        have h := h x10_109 e_x10_109
                        refine lv_iinc (v := x10_109) (lv' := [(10, _), (8, _), (7, _), (5, _), (0, _), (1, _), (2, _), (3, _), (9, _)]) hx hb dX12_bestPair_119 hl (k := 8) rfl (by rw [e_x10_109]; rfl) (by decide) rfl (fun ls hl => ?_)
                        refine lv_goto (tgt := 62) hx hb dX12_bestPair_122 (by decide) ?_
                        obtain ⟨m62, hm62, h⟩ := h
                        exact ih62 m62 hm62 _ _ _ _ _ _ _ _ h hw (lv_sub hl [4, 5, 6, 7, 3, 2, 1, 8, 0] rfl)
              exact key62 _ _ _ _ _ _ _ _ _ h hw (lv_sub hl [1, 2, 3, 4, 5, 6, 7, 8, 0] rfl)
        exact key49 _ _ _ _ _ _ _ _ _ h hw (lv_sub hl [5, 6, 7, 8, 3, 2, 1, 0] rfl)
      · have h := h.2 hc11
        refine lv_iload hx hb dX12_bestPair_30 (lv_at hl 0 rfl) ?_
        exact m_iret hX hlk hr hw h dX12_bestPair_32
    · have h := h.1 hc7
      refine lv_iconst (v := (-1)) hx hb dX12_bestPair_16 (by decide) ?_
      exact m_iret hX hlk hr hw h dX12_bestPair_17
theorem mtX12_bestPair : Mth yX12_bestPair cX12_bestPair 11 (some .int) 3 := ⟨k_1219, k_50, by decide +kernel⟩
theorem tX12_bestPair {l : Launch} {D : va_G} {cA : Nat → ClassId} {z0 : Nat} {σ : Me} {a0 : Nat} {x1 : Int32} {x2 : Int32} {x3 : Int32} {Q : Int32 → Me → Prop} (h : pX12_bestPair σ a0 x1 x2 x3 Q) : Met l yX12_bestPair (Cond.code yX12_bestPair cX12_bestPair 11 (some .int) :: gTab) rX12_bestPair (PcM D cA z0 σ [.ref a0, .int x1, .int x2, .int x3]) (va_Qi Q (BM D cA z0) (AM z0)) 0 0 (AM z0) :=
  met_of (by decide) (Nat.le_of_ble_eq_true rfl) (fun hX hlk hr hn hw hl => wX12_bestPair hX hlk hr h hw hl)
abbrev rX4_priceOf : Room := { frames := 2, cells := 0, slots := 0, locals := 43 }
def pX4_priceOf (σ : Me) (a0 : Nat) (a1 : Nat) (x2 : Int32) (x3 : Int32) (x4 : Int32) (Q : Int64 → Me → Prop) : Prop := gT σ a0 = 4 ∧ ∃ b2 : Nat, gP σ a0 0 = some b2 ∧ gT σ b2 = 6 ∧ ∃ J24 : Me → Int32 → Prop, (∀ (σ7 : Me) (v_8 : Int32), J24 σ7 v_8 → gT σ7 a0 = 4 ∧ ∃ b10 : Nat, gP σ7 a0 0 = some b10 ∧ gT σ7 b10 = 6 ∧ ∀ v_12 : Int32, v_12 = (if (gI σ7 b10 1) = ((2 : Int32)) then x3 else (if (gI σ7 b10 1) = ((1 : Int32)) then x4 else ((0 : Int32)))) → ∀ v_14 : Int32, v_14 = (if (gI σ7 b10 1) = ((2 : Int32)) then x4 else ((0 : Int32))) → pX6_orderPrice σ7 b10 x4 (fun r16 σ17 => gT σ17 a0 = 4 ∧ ∃ b19 : Nat, gP σ17 a0 0 = some b19 ∧ gT σ17 b19 = 6 ∧ pX6_priceFrom σ17 b19 v_8 (fun r20 σ21 => gT σ21 a0 = 4 ∧ ∀ x8_24 : Int64, x8_24 = ((r16.toInt64 * (gL σ17 a0 3)) + (r20.toInt64 * (gL σ21 a0 4))) → ∃ I115 : Nat → Me → Int64 → Int32 → Prop, (∀ (n115 : Nat) (σ25 : Me) (x8_26 : Int64) (x10_27 : Int32), I115 n115 σ25 x8_26 x10_27 → (((7 : Int32)) ≤ x10_27 → Q x8_26 σ25) ∧ (¬ ((7 : Int32)) ≤ x10_27 → gT σ25 a1 = 1 ∧ pX1_weightOf σ25 a1 x10_27 (fun r29 σ30 => (r29 ≤ 0 → ∀ x10_34 : Int32, x10_34 = x10_27 + 1 → ∃ m115 : Nat, m115 < n115 ∧ I115 m115 σ30 x8_26 x10_34) ∧ (¬ r29 ≤ 0 → gT σ30 a0 = 4 ∧ ∃ b36 : Nat, gP σ30 a0 0 = some b36 ∧ gT σ30 b36 = 6 ∧ pX6_leftOf σ30 b36 v_8 x10_27 (fun r37 σ38 => gT σ38 b36 = 6 ∧ pX6_filled σ38 b36 r37 v_12 (fun r40 σ41 => pX4_placeOf σ41 r40 v_14 (fun r43 σ44 => gT σ44 a0 = 4 ∧ pX4_laterAt σ44 a0 r43 (fun r45 σ46 => ∀ x8_48 : Int64, x8_48 = (x8_26 + (r29.toInt64 * r45)) → ∀ x10_49 : Int32, x10_49 = x10_27 + 1 → ∃ m115 : Nat, m115 < n115 ∧ I115 m115 σ46 x8_48 x10_49)))))))) ∧ ∃ n115 : Nat, I115 n115 σ21 x8_24 ((0 : Int32))))) ∧ (((gI σ b2 1) = 0 → pX6_filled σ b2 x2 x4 (fun r5 σ6 => J24 σ6 r5)) ∧ (¬ (gI σ b2 1) = 0 → J24 σ x2))
set_option maxHeartbeats 4000000 in
set_option maxRecDepth 100000 in
theorem wX4_priceOf {p : Program} {l : Launch} {e : Env} {s : State} {m : MethodId} {args : Array Value} {below : List Frame} {meth : Method} {c : Code} {D : va_G} {cA : Nat → ClassId} {z0 : Nat} (hX : Cx p m c cX4_priceOf 13 s args RX4 D cA) (hlk : meth.locks = false) (hr : meth.sig.returnType = (some .long)) {σ : Me} {a0 : Nat} {a1 : Nat} {x2 : Int32} {x3 : Int32} {x4 : Int32} {Q : Int64 → Me → Prop} (h : pX4_priceOf σ a0 a1 x2 x3 x4 Q) {H : Heap} {locs : List Loc} {ls : Array Slot} (hw : wS D cA z0 s σ H locs) (hl : lv_has ls 13 [(0, .ref a0), (1, .ref a1), (2, .int x2), (3, .int x3), (4, .int x4)]) : W p l e rX4_priceOf s m args below meth c H locs 0 0 (MQ below (va_Ql Q (BM D cA z0) (AM z0)) args s 0 0 (AM z0)) (F0 m 0 ls []) := by
  have hx := hX.1.1
  have hb := hX.1.2.1
  have hown := hX.1.2.2.2.1
  have hts := hX.1.2.2.2.2
  unfold pX4_priceOf at h
  refine lv_aload_n hx hb dX4_priceOf_0 rfl (lv_at hl 0 rfl) ?_
  obtain ⟨hT1, h⟩ := h
  obtain ⟨b2, hb2, h⟩ := h
  refine m_get hX hw cl4 hT1 0 (by decide) k_200 (fun _ h => h) (v := .ref b2) (congrArg va_rf hb2) dX4_priceOf_1 ?_
  obtain ⟨hT3, h⟩ := h
  refine m_get hX hw cl6 hT3 1 (by decide) k_81 (fun _ h => h) (v := .int _) rfl dX4_priceOf_4 ?_
  obtain ⟨J24, hJ24, h⟩ := h
  have kJ24 : ∀ (σ7 : Me) (v_8 : Int32) (H : Heap) (locs : List Loc) (ls : Array Slot), J24 σ7 v_8 → wS D cA z0 s σ7 H locs → lv_has ls 13 [(0, .ref a0), (1, .ref a1), (3, .int x3), (4, .int x4)] → W p l e rX4_priceOf s m args below meth c H locs 0 0 (MQ below (va_Ql Q (BM D cA z0) (AM z0)) args s 0 0 (AM z0)) (F0 m 24 ls [.int v_8]) := by
    intro σ7 v_8 H locs ls h hw hl
    have h := hJ24 _ _ h
    refine lv_istore (lv' := [(5, _), (0, _), (1, _), (3, _), (4, _)]) hx hb dX4_priceOf_24 hl (by decide) rfl (fun ls hl => ?_)
    refine lv_aload_n hx hb dX4_priceOf_26 rfl (lv_at hl 1 rfl) ?_
    obtain ⟨hT9, h⟩ := h
    obtain ⟨b10, hb10, h⟩ := h
    refine m_get hX hw cl4 hT9 0 (by decide) k_200 (fun _ h => h) (v := .ref b10) (congrArg va_rf hb10) dX4_priceOf_27 ?_
    obtain ⟨hT11, h⟩ := h
    refine m_get hX hw cl6 hT11 1 (by decide) k_81 (fun _ h => h) (v := .int _) rfl dX4_priceOf_30 ?_
    refine lv_iconst (v := 2) hx hb dX4_priceOf_33 (by decide) ?_
    have kM13 : ∀ (v_12 : Int32) (ls : Array Slot), v_12 = (if (gI σ7 b10 1) = ((2 : Int32)) then x3 else (if (gI σ7 b10 1) = ((1 : Int32)) then x4 else ((0 : Int32)))) → lv_has ls 13 [(5, .int v_8), (0, .ref a0), (1, .ref a1), (4, .int x4)] → W p l e rX4_priceOf s m args below meth c H locs 0 0 (MQ below (va_Ql Q (BM D cA z0) (AM z0)) args s 0 0 (AM z0)) (F0 m 58 ls [.int v_12]) := by
      intro v_12 ls e_v_12 hl
      have h := h v_12 e_v_12
      refine lv_istore (lv' := [(6, _), (5, _), (0, _), (1, _), (4, _)]) hx hb dX4_priceOf_58 hl (by decide) rfl (fun ls hl => ?_)
      refine lv_aload_n hx hb dX4_priceOf_60 rfl (lv_at hl 2 rfl) ?_
      refine m_get hX hw cl4 hT9 0 (by decide) k_200 (fun _ h => h) (v := .ref b10) (congrArg va_rf hb10) dX4_priceOf_61 ?_
      refine m_get hX hw cl6 hT11 1 (by decide) k_81 (fun _ h => h) (v := .int _) rfl dX4_priceOf_64 ?_
      refine lv_iconst (v := 2) hx hb dX4_priceOf_67 (by decide) ?_
      have kM15 : ∀ (v_14 : Int32) (ls : Array Slot), v_14 = (if (gI σ7 b10 1) = ((2 : Int32)) then x4 else ((0 : Int32))) → lv_has ls 13 [(6, .int v_12), (5, .int v_8), (0, .ref a0), (1, .ref a1), (4, .int x4)] → W p l e rX4_priceOf s m args below meth c H locs 0 0 (MQ below (va_Ql Q (BM D cA z0) (AM z0)) args s 0 0 (AM z0)) (F0 m 77 ls [.int v_14]) := by
        intro v_14 ls e_v_14 hl
        have h := h v_14 e_v_14
        refine lv_istore (lv' := [(7, _), (6, _), (5, _), (0, _), (1, _), (4, _)]) hx hb dX4_priceOf_77 hl (by decide) rfl (fun ls hl => ?_)
        refine lv_aload_n hx hb dX4_priceOf_79 rfl (lv_at hl 3 rfl) ?_
        refine m_get hX hw cl4 hT9 0 (by decide) k_200 (fun _ h => h) (v := .ref b10) (congrArg va_rf hb10) dX4_priceOf_80 ?_
        refine lv_iload hx hb dX4_priceOf_83 (lv_at hl 5 rfl) ?_
        refine m_ci (m_runV (rest := []) hX hw (tX6_orderPrice h) mtX6_orderPrice k_746 ⟨k_667, k_668⟩ cl6 hT11 ⟨⟨rfl, rfl, Nat.le_of_ble_eq_true rfl, Nat.le_of_ble_eq_true rfl⟩, Nat.le_of_ble_eq_true rfl, Nat.le_of_ble_eq_true rfl⟩ rfl hl.1 rfl (Nat.le_of_ble_eq_true rfl) dX4_priceOf_85) hw (fun r16 σ17 H locs h hw => ?_)
        refine lv_i2l hx hb dX4_priceOf_88 rfl ?_
        refine lv_aload_n hx hb dX4_priceOf_89 rfl (lv_at hl 3 rfl) ?_
        obtain ⟨hT18, h⟩ := h
        refine m_get hX hw cl4 hT18 3 (by decide) k_203 (fun _ h => h) (v := .long _) rfl dX4_priceOf_90 ?_
        refine lv_lmul hx hb dX4_priceOf_93 ?_
        refine lv_aload_n hx hb dX4_priceOf_94 rfl (lv_at hl 3 rfl) ?_
        obtain ⟨b19, hb19, h⟩ := h
        refine m_get hX hw cl4 hT18 0 (by decide) k_200 (fun _ h => h) (v := .ref b19) (congrArg va_rf hb19) dX4_priceOf_95 ?_
        refine lv_iload hx hb dX4_priceOf_98 (lv_at hl 2 rfl) ?_
        obtain ⟨hT22, h⟩ := h
        refine m_ci (m_runV (rest := [_]) hX hw (tX6_priceFrom h) mtX6_priceFrom k_747 ⟨k_671, k_672⟩ cl6 hT22 ⟨⟨rfl, rfl, Nat.le_of_ble_eq_true rfl, Nat.le_of_ble_eq_true rfl⟩, Nat.le_of_ble_eq_true rfl, Nat.le_of_ble_eq_true rfl⟩ rfl hl.1 rfl (Nat.le_of_ble_eq_true rfl) dX4_priceOf_100) hw (fun r20 σ21 H locs h hw => ?_)
        refine lv_i2l hx hb dX4_priceOf_103 rfl ?_
        refine lv_aload_n hx hb dX4_priceOf_104 rfl (lv_at hl 3 rfl) ?_
        obtain ⟨hT23, h⟩ := h
        refine m_get hX hw cl4 hT23 4 (by decide) k_204 (fun _ h => h) (v := .long _) rfl dX4_priceOf_105 ?_
        refine lv_lmul hx hb dX4_priceOf_108 ?_
        refine lv_ladd hx hb dX4_priceOf_109 ?_
        refine lv_topl (fun x8_24 e_x8_24 => ?_)
        have h := h x8_24 e_x8_24
        refine lv_lstore (lv' := [(8, _), (7, _), (6, _), (5, _), (0, _), (1, _), (4, _)]) hx hb dX4_priceOf_110 hl (by decide) rfl (fun ls hl => ?_)
        refine lv_iconst (v := 0) hx hb dX4_priceOf_112 (by decide) ?_
        refine lv_istore (lv' := [(10, _), (8, _), (7, _), (6, _), (5, _), (0, _), (1, _), (4, _)]) hx hb dX4_priceOf_113 hl (by decide) rfl (fun ls hl => ?_)
        obtain ⟨I115, hI115, n115, h⟩ := h
        have key115 : ∀ (n115 : Nat) (σ25 : Me) (x8_26 : Int64) (x10_27 : Int32) (H : Heap) (locs : List Loc) (ls : Array Slot), I115 n115 σ25 x8_26 x10_27 → wS D cA z0 s σ25 H locs → lv_has ls 13 [(0, .ref a0), (1, .ref a1), (5, .int v_8), (6, .int v_12), (7, .int v_14), (8, .long x8_26), (10, .int x10_27)] → W p l e rX4_priceOf s m args below meth c H locs 0 0 (MQ below (va_Ql Q (BM D cA z0) (AM z0)) args s 0 0 (AM z0)) (F0 m 115 ls []) := by
          intro n115
          induction n115 using Nat.strongRecOn with
          | _ n115 ih115 =>
            intro σ25 x8_26 x10_27 H locs ls h hw hl
            have h := hI115 _ _ _ _ h
            refine lv_iload hx hb dX4_priceOf_115 (lv_at hl 6 rfl) ?_
            refine lv_bipush (v := 7) hx hb dX4_priceOf_117 (by decide) ?_
            refine lv_icmp_ge (tgt := 183) hx hb dX4_priceOf_119 (by decide) (fun hc28 => ?_) (fun hc28 => ?_)
            · have h := h.1 hc28
              refine lv_lload hx hb dX4_priceOf_183 (lv_at hl 5 rfl) ?_
              exact m_lret hX hlk hr hw h dX4_priceOf_185
            · have h := h.2 hc28
              refine lv_aload_n hx hb dX4_priceOf_122 rfl (lv_at hl 1 rfl) ?_
              refine lv_iload hx hb dX4_priceOf_123 (lv_at hl 6 rfl) ?_
              obtain ⟨hT31, h⟩ := h
              refine m_ci (m_runV (rest := []) hX hw (tX1_weightOf h) mtX1_weightOf k_748 ⟨k_589, k_590⟩ cl1 hT31 ⟨⟨rfl, rfl, Nat.le_of_ble_eq_true rfl, Nat.le_of_ble_eq_true rfl⟩, Nat.le_of_ble_eq_true rfl, Nat.le_of_ble_eq_true rfl⟩ rfl hl.1 rfl (Nat.le_of_ble_eq_true rfl) dX4_priceOf_125) hw (fun r29 σ30 H locs h hw => ?_)
              refine lv_istore (lv' := [(11, _), (0, _), (1, _), (5, _), (6, _), (7, _), (8, _), (10, _)]) hx hb dX4_priceOf_128 hl (by decide) rfl (fun ls hl => ?_)
              refine lv_iload hx hb dX4_priceOf_130 (lv_at hl 0 rfl) ?_
              refine lv_if_le (tgt := 177) hx hb dX4_priceOf_132 (by decide) (fun hc33 => ?_) (fun hc33 => ?_)
              · have h := h.1 hc33
                obtain ⟨x10_34, e_x10_34⟩ : ∃ y : Int32, y = x10_27 + 1 := ⟨_, rfl⟩
                have h := h x10_34 e_x10_34
                refine lv_iinc (v := x10_34) (lv' := [(10, _), (11, _), (0, _), (1, _), (5, _), (6, _), (7, _), (8, _)]) hx hb dX4_priceOf_177 hl (k := 7) rfl (by rw [e_x10_34]; rfl) (by decide) rfl (fun ls hl => ?_)
                refine lv_goto (tgt := 115) hx hb dX4_priceOf_180 (by decide) ?_
                obtain ⟨m115, hm115, h⟩ := h
                exact ih115 m115 hm115 _ _ _ _ _ _ h hw (lv_sub hl [2, 3, 4, 5, 6, 7, 0] rfl)
              · have h := h.2 hc33
                refine lv_aload_n hx hb dX4_priceOf_135 rfl (lv_at hl 1 rfl) ?_
                obtain ⟨hT35, h⟩ := h
                obtain ⟨b36, hb36, h⟩ := h
                refine m_get hX hw cl4 hT35 0 (by decide) k_200 (fun _ h => h) (v := .ref b36) (congrArg va_rf hb36) dX4_priceOf_136 ?_
                refine lv_aload_n hx hb dX4_priceOf_139 rfl (lv_at hl 1 rfl) ?_
                refine m_get hX hw cl4 hT35 0 (by decide) k_200 (fun _ h => h) (v := .ref b36) (congrArg va_rf hb36) dX4_priceOf_140 ?_
                refine lv_iload hx hb dX4_priceOf_143 (lv_at hl 3 rfl) ?_
                refine lv_iload hx hb dX4_priceOf_145 (lv_at hl 7 rfl) ?_
                obtain ⟨hT39, h⟩ := h
                refine m_ci (m_runV (rest := [_]) hX hw (tX6_leftOf h) mtX6_leftOf k_749 ⟨k_599, k_600⟩ cl6 hT39 ⟨⟨rfl, rfl, Nat.le_of_ble_eq_true rfl, Nat.le_of_ble_eq_true rfl⟩, Nat.le_of_ble_eq_true rfl, Nat.le_of_ble_eq_true rfl⟩ rfl hl.1 rfl (Nat.le_of_ble_eq_true rfl) dX4_priceOf_147) hw (fun r37 σ38 H locs h hw => ?_)
                refine lv_iload hx hb dX4_priceOf_150 (lv_at hl 4 rfl) ?_
                obtain ⟨hT42, h⟩ := h
                refine m_ci (m_runV (rest := []) hX hw (tX6_filled h) mtX6_filled k_745 ⟨k_659, k_660⟩ cl6 hT42 ⟨⟨rfl, rfl, Nat.le_of_ble_eq_true rfl, Nat.le_of_ble_eq_true rfl⟩, Nat.le_of_ble_eq_true rfl, Nat.le_of_ble_eq_true rfl⟩ rfl hl.1 rfl (Nat.le_of_ble_eq_true rfl) dX4_priceOf_152) hw (fun r40 σ41 H locs h hw => ?_)
                refine lv_istore (lv' := [(12, _), (11, _), (0, _), (1, _), (5, _), (6, _), (7, _), (8, _), (10, _)]) hx hb dX4_priceOf_155 hl (by decide) rfl (fun ls hl => ?_)
                refine lv_lload hx hb dX4_priceOf_157 (lv_at hl 7 rfl) ?_
                refine lv_iload hx hb dX4_priceOf_159 (lv_at hl 1 rfl) ?_
                refine lv_i2l hx hb dX4_priceOf_161 rfl ?_
                refine lv_aload_n hx hb dX4_priceOf_162 rfl (lv_at hl 2 rfl) ?_
                refine lv_iload hx hb dX4_priceOf_163 (lv_at hl 0 rfl) ?_
                refine lv_iload hx hb dX4_priceOf_165 (lv_at hl 6 rfl) ?_
                refine m_ci (m_runS (rest := [_, _, _]) hX hw (tX4_placeOf h) mtX4_placeOf k_750 k_751 ⟨⟨rfl, rfl, Nat.le_of_ble_eq_true rfl, Nat.le_of_ble_eq_true rfl⟩, Nat.le_of_ble_eq_true rfl, Nat.le_of_ble_eq_true rfl⟩ rfl hl.1 rfl (Nat.le_of_ble_eq_true rfl) dX4_priceOf_167) hw (fun r43 σ44 H locs h hw => ?_)
                obtain ⟨hT47, h⟩ := h
                refine m_cl (m_runV (rest := [_, _]) hX hw (tX4_laterAt h) mtX4_laterAt k_753 ⟨k_755, k_15⟩ cl4 hT47 ⟨⟨rfl, rfl, Nat.le_of_ble_eq_true rfl, Nat.le_of_ble_eq_true rfl⟩, Nat.le_of_ble_eq_true rfl, Nat.le_of_ble_eq_true rfl⟩ rfl hl.1 rfl (Nat.le_of_ble_eq_true rfl) dX4_priceOf_170) hw (fun r45 σ46 H locs h hw => ?_)
                refine lv_lmul hx hb dX4_priceOf_173 ?_
                refine lv_ladd hx hb dX4_priceOf_174 ?_
                refine lv_topl (fun x8_48 e_x8_48 => ?_)
                have h := h x8_48 e_x8_48
                refine lv_lstore (lv' := [(8, _), (12, _), (11, _), (0, _), (1, _), (5, _), (6, _), (7, _), (10, _)]) hx hb dX4_priceOf_175 hl (by decide) rfl (fun ls hl => ?_)
                obtain ⟨x10_49, e_x10_49⟩ : ∃ y : Int32, y = x10_27 + 1 := ⟨_, rfl⟩
                have h := h x10_49 e_x10_49
                refine lv_iinc (v := x10_49) (lv' := [(10, _), (8, _), (12, _), (11, _), (0, _), (1, _), (5, _), (6, _), (7, _)]) hx hb dX4_priceOf_177 hl (k := 8) rfl (by rw [e_x10_49]; rfl) (by decide) rfl (fun ls hl => ?_)
                refine lv_goto (tgt := 115) hx hb dX4_priceOf_180 (by decide) ?_
                obtain ⟨m115, hm115, h⟩ := h
                exact ih115 m115 hm115 _ _ _ _ _ _ h hw (lv_sub hl [4, 5, 6, 7, 8, 1, 0] rfl)
        exact key115 _ _ _ _ _ _ _ h hw (lv_sub hl [5, 6, 4, 3, 2, 1, 0] rfl)
      refine lv_icmp_ne (tgt := 76) hx hb dX4_priceOf_68 (by decide) (fun hc50 => ?_) (fun hc50 => ?_)
      · refine lv_iconst (v := 0) hx hb dX4_priceOf_76 (by decide) ?_
        exact kM15 _ _ (by first | rfl | rw [if_neg hc50] | simp only [if_neg hc50]) (lv_sub hl [0, 1, 2, 3, 4] rfl)
      · refine lv_iload hx hb dX4_priceOf_71 (lv_at hl 4 rfl) ?_
        refine lv_goto (tgt := 77) hx hb dX4_priceOf_73 (by decide) ?_
        exact kM15 _ _ (by first | rfl | rw [if_pos hc50] | simp only [if_pos hc50]) (lv_sub hl [0, 1, 2, 3, 4] rfl)
    refine lv_icmp_ne (tgt := 41) hx hb dX4_priceOf_34 (by decide) (fun hc51 => ?_) (fun hc51 => ?_)
    · refine lv_aload_n hx hb dX4_priceOf_41 rfl (lv_at hl 1 rfl) ?_
      refine m_get hX hw cl4 hT9 0 (by decide) k_200 (fun _ h => h) (v := .ref b10) (congrArg va_rf hb10) dX4_priceOf_42 ?_
      refine m_get hX hw cl6 hT11 1 (by decide) k_81 (fun _ h => h) (v := .int _) rfl dX4_priceOf_45 ?_
      refine lv_iconst (v := 1) hx hb dX4_priceOf_48 (by decide) ?_
      refine lv_icmp_ne (tgt := 57) hx hb dX4_priceOf_49 (by decide) (fun hc52 => ?_) (fun hc52 => ?_)
      · refine lv_iconst (v := 0) hx hb dX4_priceOf_57 (by decide) ?_
        exact kM13 _ _ (by first | rfl | rw [if_neg hc51, if_neg hc52] | simp only [if_neg hc51, if_neg hc52]) (lv_sub hl [0, 1, 2, 4] rfl)
      · refine lv_iload hx hb dX4_priceOf_52 (lv_at hl 4 rfl) ?_
        refine lv_goto (tgt := 58) hx hb dX4_priceOf_54 (by decide) ?_
        exact kM13 _ _ (by first | rfl | rw [if_neg hc51, if_pos hc52] | simp only [if_neg hc51, if_pos hc52]) (lv_sub hl [0, 1, 2, 4] rfl)
    · refine lv_iload_n hx hb dX4_priceOf_37 rfl (lv_at hl 3 rfl) ?_
      refine lv_goto (tgt := 58) hx hb dX4_priceOf_38 (by decide) ?_
      exact kM13 _ _ (by first | rfl | rw [if_pos hc51] | simp only [if_pos hc51]) (lv_sub hl [0, 1, 2, 4] rfl)
  refine lv_if_ne (tgt := 23) hx hb dX4_priceOf_7 (by decide) (fun hc4 => ?_) (fun hc4 => ?_)
  · have h := h.2 hc4
    refine lv_iload_n hx hb dX4_priceOf_23 rfl (lv_at hl 2 rfl) ?_
    exact kJ24 _ _ _ _ _ h hw (lv_sub hl [0, 1, 3, 4] rfl)
  · have h := h.1 hc4
    refine lv_aload_n hx hb dX4_priceOf_10 rfl (lv_at hl 0 rfl) ?_
    refine m_get hX hw cl4 hT1 0 (by decide) k_200 (fun _ h => h) (v := .ref b2) (congrArg va_rf hb2) dX4_priceOf_11 ?_
    refine lv_iload_n hx hb dX4_priceOf_14 rfl (lv_at hl 2 rfl) ?_
    refine lv_iload hx hb dX4_priceOf_15 (lv_at hl 4 rfl) ?_
    refine m_ci (m_runV (rest := []) hX hw (tX6_filled h) mtX6_filled k_745 ⟨k_659, k_660⟩ cl6 hT3 ⟨⟨rfl, rfl, Nat.le_of_ble_eq_true rfl, Nat.le_of_ble_eq_true rfl⟩, Nat.le_of_ble_eq_true rfl, Nat.le_of_ble_eq_true rfl⟩ rfl hl.1 rfl (Nat.le_of_ble_eq_true rfl) dX4_priceOf_17) hw (fun r5 σ6 H locs h hw => ?_)
    refine lv_goto (tgt := 24) hx hb dX4_priceOf_20 (by decide) ?_
    exact kJ24 _ _ _ _ _ h hw (lv_sub hl [0, 1, 3, 4] rfl)
theorem mtX4_priceOf : Mth yX4_priceOf cX4_priceOf 13 (some .long) 4 := ⟨k_744, k_48, by decide +kernel⟩
theorem tX4_priceOf {l : Launch} {D : va_G} {cA : Nat → ClassId} {z0 : Nat} {σ : Me} {a0 : Nat} {a1 : Nat} {x2 : Int32} {x3 : Int32} {x4 : Int32} {Q : Int64 → Me → Prop} (h : pX4_priceOf σ a0 a1 x2 x3 x4 Q) : Met l yX4_priceOf (Cond.code yX4_priceOf cX4_priceOf 13 (some .long) :: gTab) rX4_priceOf (PcM D cA z0 σ [.ref a0, .ref a1, .int x2, .int x3, .int x4]) (va_Ql Q (BM D cA z0) (AM z0)) 0 0 (AM z0) :=
  met_of (by decide) (Nat.le_of_ble_eq_true rfl) (fun hX hlk hr hn hw hl => wX4_priceOf hX hlk hr h hw hl)
abbrev rX7_passFrom : Room := { frames := 2, cells := 0, slots := 0, locals := 46 }
def pX7_passFrom (σ : Me) (a0 : Nat) (x1 : Int32) (a2 : Nat) (Q : Me → Prop) : Prop := ∃ I2 : Nat → Me → Int32 → Prop, (∀ (n2 : Nat) (σ1 : Me) (x3_2 : Int32), I2 n2 σ1 x3_2 → (((7 : Int32)) ≤ x3_2 → Q σ1) ∧ (¬ ((7 : Int32)) ≤ x3_2 → gT σ1 a0 = 7 ∧ ∃ b6 : Nat, gP σ1 a0 0 = some b6 ∧ gT σ1 b6 = 8 ∧ pX8_weightAt σ1 b6 x1 (fun r7 σ8 => gT σ8 a2 = 1 ∧ pX1_weightOf σ8 a2 x3_2 (fun r10 σ11 => ∀ x4_13 : Int64, x4_13 = (r7 * r10.toInt64) → (x4_13 = ((0 : Int64)) → ∀ x3_88 : Int32, x3_88 = x3_2 + 1 → ∃ m2 : Nat, m2 < n2 ∧ I2 m2 σ11 x3_88) ∧ (¬ x4_13 = ((0 : Int64)) → gT σ11 a0 = 7 ∧ ∃ b54 : Nat, gP σ11 a0 1 = some b54 ∧ gT σ11 b54 = 20 ∧ vp_in ((1 : Int32)) (gN σ11 b54) ∧ ∀ σ57 : Me, σ57 = sI σ11 b54 ((1 : Int32)).toNatClampNeg (x1 - x1 / ((13 : Int32)) * ((13 : Int32))) → vp_in ((2 : Int32)) (gN σ57 b54) ∧ ∀ σ59 : Me, σ59 = sI σ57 b54 ((2 : Int32)).toNatClampNeg (x1 / ((13 : Int32))) → vp_in ((1 : Int32)) (gN σ59 b54) ∧ vp_in ((2 : Int32)) (gN σ59 b54) ∧ vp_in ((0 : Int32)) (gN σ59 b54) ∧ ∀ σ63 : Me, σ63 = sI σ59 b54 ((0 : Int32)).toNatClampNeg (((gI σ59 a0 2) - (gI σ59 b54 ((1 : Int32)).toNatClampNeg)) - (gI σ59 b54 ((2 : Int32)).toNatClampNeg)) → pX7_give σ63 a0 x3_2 (fun σ65 => gT σ65 a0 = 7 ∧ ∃ b67 : Nat, gP σ65 a0 1 = some b67 ∧ gT σ65 b67 = 20 ∧ vp_in ((gI σ65 a0 3) - ((1 : Int32))) (gN σ65 b67) ∧ ∀ σ70 : Me, σ70 = sL σ65 a0 5 ((gL σ65 a0 5) + (x4_13 * ((gI σ65 b67 ((gI σ65 a0 3) - ((1 : Int32))).toNatClampNeg).toInt64))) → ∃ J126 : Me → Int32 → Prop, (∀ (σ73 : Me) (v_74 : Int32), J126 σ73 v_74 → gT σ73 a0 = 7 ∧ ∃ J146 : Me → Int32 → Prop, (∀ (σ80 : Me) (v_81 : Int32), J146 σ80 v_81 → gT σ80 a0 = 7 ∧ ∃ b83 : Nat, gP σ80 a0 0 = some b83 ∧ gT σ80 b83 = 8 ∧ pX8_add σ80 b83 ((v_81 * ((13 : Int32))) + v_74) x4_13 (fun σ85 => ∀ x3_87 : Int32, x3_87 = x3_2 + 1 → ∃ m2 : Nat, m2 < n2 ∧ I2 m2 σ85 x3_87)) ∧ (((gI σ73 a0 3) ≤ ((2 : Int32)) → J146 σ73 ((0 : Int32))) ∧ (¬ (gI σ73 a0 3) ≤ ((2 : Int32)) → ∃ b77 : Nat, gP σ73 a0 1 = some b77 ∧ gT σ73 b77 = 20 ∧ vp_in ((1 : Int32)) (gN σ73 b77) ∧ J146 σ73 (gI σ73 b77 ((1 : Int32)).toNatClampNeg)))) ∧ (((gI σ70 a0 3) ≤ ((1 : Int32)) → J126 σ70 ((0 : Int32))) ∧ (¬ (gI σ70 a0 3) ≤ ((1 : Int32)) → vp_in ((0 : Int32)) (gN σ70 b67) ∧ J126 σ70 (gI σ70 b67 ((0 : Int32)).toNatClampNeg))))))))) ∧ ∃ n2 : Nat, I2 n2 σ ((0 : Int32))
set_option maxHeartbeats 4000000 in
set_option maxRecDepth 100000 in
theorem wX7_passFrom {p : Program} {l : Launch} {e : Env} {s : State} {m : MethodId} {args : Array Value} {below : List Frame} {meth : Method} {c : Code} {D : va_G} {cA : Nat → ClassId} {z0 : Nat} (hX : Cx p m c cX7_passFrom 8 s args RX7 D cA) (hlk : meth.locks = false) (hr : meth.sig.returnType = none) {σ : Me} {a0 : Nat} {x1 : Int32} {a2 : Nat} {Q : Me → Prop} (h : pX7_passFrom σ a0 x1 a2 Q) {H : Heap} {locs : List Loc} {ls : Array Slot} (hw : wS D cA z0 s σ H locs) (hl : lv_has ls 8 [(0, .ref a0), (1, .int x1), (2, .ref a2)]) : W p l e rX7_passFrom s m args below meth c H locs 0 0 (MQ below (va_Qv Q (BM D cA z0) (AM z0)) args s 0 0 (AM z0)) (F0 m 0 ls []) := by
  have hx := hX.1.1
  have hb := hX.1.2.1
  have hown := hX.1.2.2.2.1
  have hts := hX.1.2.2.2.2
  unfold pX7_passFrom at h
  refine lv_iconst (v := 0) hx hb dX7_passFrom_0 (by decide) ?_
  refine lv_istore_n (lv' := [(3, _), (0, _), (1, _), (2, _)]) hx hb dX7_passFrom_1 rfl hl (by decide) rfl (fun ls hl => ?_)
  obtain ⟨I2, hI2, n2, h⟩ := h
  have key2 : ∀ (n2 : Nat) (σ1 : Me) (x3_2 : Int32) (H : Heap) (locs : List Loc) (ls : Array Slot), I2 n2 σ1 x3_2 → wS D cA z0 s σ1 H locs → lv_has ls 8 [(0, .ref a0), (1, .int x1), (2, .ref a2), (3, .int x3_2)] → W p l e rX7_passFrom s m args below meth c H locs 0 0 (MQ below (va_Qv Q (BM D cA z0) (AM z0)) args s 0 0 (AM z0)) (F0 m 2 ls []) := by
    intro n2
    induction n2 using Nat.strongRecOn with
    | _ n2 ih2 =>
      intro σ1 x3_2 H locs ls h hw hl
      have h := hI2 _ _ _ h
      refine lv_iload_n hx hb dX7_passFrom_2 rfl (lv_at hl 3 rfl) ?_
      refine lv_bipush (v := 7) hx hb dX7_passFrom_3 (by decide) ?_
      refine lv_icmp_ge (tgt := 171) hx hb dX7_passFrom_5 (by decide) (fun hc4 => ?_) (fun hc4 => ?_)
      · have h := h.1 hc4
        exact m_vret hX hlk hr hw h dX7_passFrom_171
      · have h := h.2 hc4
        refine lv_aload_n hx hb dX7_passFrom_8 rfl (lv_at hl 0 rfl) ?_
        obtain ⟨hT5, h⟩ := h
        obtain ⟨b6, hb6, h⟩ := h
        refine m_get hX hw cl7 hT5 0 (by decide) k_230 (fun _ h => h) (v := .ref b6) (congrArg va_rf hb6) dX7_passFrom_9 ?_
        refine lv_iload_n hx hb dX7_passFrom_12 rfl (lv_at hl 1 rfl) ?_
        obtain ⟨hT9, h⟩ := h
        refine m_cl (m_runV (rest := []) hX hw (tX8_weightAt h) mtX8_weightAt k_800 ⟨k_663, k_664⟩ cl8 hT9 ⟨⟨rfl, rfl, Nat.le_of_ble_eq_true rfl, Nat.le_of_ble_eq_true rfl⟩, Nat.le_of_ble_eq_true rfl, Nat.le_of_ble_eq_true rfl⟩ rfl hl.1 rfl (Nat.le_of_ble_eq_true rfl) dX7_passFrom_13) hw (fun r7 σ8 H locs h hw => ?_)
        refine lv_aload_n hx hb dX7_passFrom_16 rfl (lv_at hl 2 rfl) ?_
        refine lv_iload_n hx hb dX7_passFrom_17 rfl (lv_at hl 3 rfl) ?_
        obtain ⟨hT12, h⟩ := h
        refine m_ci (m_runV (rest := [_]) hX hw (tX1_weightOf h) mtX1_weightOf k_801 ⟨k_589, k_590⟩ cl1 hT12 ⟨⟨rfl, rfl, Nat.le_of_ble_eq_true rfl, Nat.le_of_ble_eq_true rfl⟩, Nat.le_of_ble_eq_true rfl, Nat.le_of_ble_eq_true rfl⟩ rfl hl.1 rfl (Nat.le_of_ble_eq_true rfl) dX7_passFrom_18) hw (fun r10 σ11 H locs h hw => ?_)
        refine lv_i2l hx hb dX7_passFrom_21 rfl ?_
        refine lv_lmul hx hb dX7_passFrom_22 ?_
        refine lv_topl (fun x4_13 e_x4_13 => ?_)
        have h := h x4_13 e_x4_13
        refine lv_lstore (lv' := [(4, _), (0, _), (1, _), (2, _), (3, _)]) hx hb dX7_passFrom_23 hl (by decide) rfl (fun ls hl => ?_)
        refine lv_lload hx hb dX7_passFrom_25 (lv_at hl 0 rfl) ?_
        refine lv_lconst (v := 0) hx hb dX7_passFrom_27 (by decide) ?_
        refine m_lne (tgt := 35) hX dX7_passFrom_28 dX7_passFrom_29 (by decide) (fun hc52 => ?_) (fun hc52 => ?_)
        · have h := h.2 hc52
          refine lv_aload_n hx hb dX7_passFrom_35 rfl (lv_at hl 1 rfl) ?_
          obtain ⟨hT53, h⟩ := h
          obtain ⟨b54, hb54, h⟩ := h
          refine m_get hX hw cl7 hT53 1 (by decide) k_231 (fun _ h => h) (v := .ref b54) (congrArg va_rf hb54) dX7_passFrom_36 ?_
          refine lv_iconst (v := 1) hx hb dX7_passFrom_39 (by decide) ?_
          refine lv_iload_n hx hb dX7_passFrom_40 rfl (lv_at hl 2 rfl) ?_
          refine lv_bipush (v := 13) hx hb dX7_passFrom_41 (by decide) ?_
          refine lv_irem hx hb dX7_passFrom_43 (by decide) ?_
          obtain ⟨hT55, h⟩ := h
          obtain ⟨hc56, h⟩ := h
          refine m_iast hX hw hT55 hc56 dX7_passFrom_44 (fun H locs hw => ?_)
          let σ57 : Me := sI σ11 b54 ((1 : Int32)).toNatClampNeg (x1 - x1 / ((13 : Int32)) * ((13 : Int32)))
          have h := h σ57 rfl
          have hw : wS D cA z0 s σ57 H locs := hw
          refine lv_aload_n hx hb dX7_passFrom_45 rfl (lv_at hl 1 rfl) ?_
          refine m_get hX hw cl7 hT53 1 (by decide) k_231 (fun _ h => h) (v := .ref b54) (congrArg va_rf hb54) dX7_passFrom_46 ?_
          refine lv_iconst (v := 2) hx hb dX7_passFrom_49 (by decide) ?_
          refine lv_iload_n hx hb dX7_passFrom_50 rfl (lv_at hl 2 rfl) ?_
          refine lv_bipush (v := 13) hx hb dX7_passFrom_51 (by decide) ?_
          refine lv_idiv hx hb dX7_passFrom_53 (by decide) ?_
          obtain ⟨hc58, h⟩ := h
          refine m_iast hX hw hT55 hc58 dX7_passFrom_54 (fun H locs hw => ?_)
          let σ59 : Me := sI σ57 b54 ((2 : Int32)).toNatClampNeg (x1 / ((13 : Int32)))
          have h := h σ59 rfl
          have hw : wS D cA z0 s σ59 H locs := hw
          refine lv_aload_n hx hb dX7_passFrom_55 rfl (lv_at hl 1 rfl) ?_
          refine m_get hX hw cl7 hT53 1 (by decide) k_231 (fun _ h => h) (v := .ref b54) (congrArg va_rf hb54) dX7_passFrom_56 ?_
          refine lv_iconst (v := 0) hx hb dX7_passFrom_59 (by decide) ?_
          refine lv_aload_n hx hb dX7_passFrom_60 rfl (lv_at hl 1 rfl) ?_
          refine m_get hX hw cl7 hT53 2 (by decide) k_232 (fun _ h => h) (v := .int _) rfl dX7_passFrom_61 ?_
          refine lv_aload_n hx hb dX7_passFrom_64 rfl (lv_at hl 1 rfl) ?_
          refine m_get hX hw cl7 hT53 1 (by decide) k_231 (fun _ h => h) (v := .ref b54) (congrArg va_rf hb54) dX7_passFrom_65 ?_
          refine lv_iconst (v := 1) hx hb dX7_passFrom_68 (by decide) ?_
          obtain ⟨hc60, h⟩ := h
          refine m_iald hX hw hT55 hc60 dX7_passFrom_69 ?_
          refine lv_isub hx hb dX7_passFrom_70 ?_
          refine lv_aload_n hx hb dX7_passFrom_71 rfl (lv_at hl 1 rfl) ?_
          refine m_get hX hw cl7 hT53 1 (by decide) k_231 (fun _ h => h) (v := .ref b54) (congrArg va_rf hb54) dX7_passFrom_72 ?_
          refine lv_iconst (v := 2) hx hb dX7_passFrom_75 (by decide) ?_
          obtain ⟨hc61, h⟩ := h
          refine m_iald hX hw hT55 hc61 dX7_passFrom_76 ?_
          refine lv_isub hx hb dX7_passFrom_77 ?_
          obtain ⟨hc62, h⟩ := h
          refine m_iast hX hw hT55 hc62 dX7_passFrom_78 (fun H locs hw => ?_)
          let σ63 : Me := sI σ59 b54 ((0 : Int32)).toNatClampNeg (((gI σ59 a0 2) - (gI σ59 b54 ((1 : Int32)).toNatClampNeg)) - (gI σ59 b54 ((2 : Int32)).toNatClampNeg))
          have h := h σ63 rfl
          have hw : wS D cA z0 s σ63 H locs := hw
          refine lv_aload_n hx hb dX7_passFrom_79 rfl (lv_at hl 1 rfl) ?_
          refine lv_iload_n hx hb dX7_passFrom_80 rfl (lv_at hl 4 rfl) ?_
          refine m_cv (m_runV (rest := []) hX hw (tX7_give h) mtX7_give k_802 ⟨k_804, k_18⟩ cl7 hT53 ⟨⟨rfl, rfl, Nat.le_of_ble_eq_true rfl, Nat.le_of_ble_eq_true rfl⟩, Nat.le_of_ble_eq_true rfl, Nat.le_of_ble_eq_true rfl⟩ rfl hl.1 rfl (Nat.le_of_ble_eq_true rfl) dX7_passFrom_81) hw (fun σ65 H locs h hw => ?_)
          refine lv_aload_n hx hb dX7_passFrom_84 rfl (lv_at hl 1 rfl) ?_
          refine lv_dup hx hb dX7_passFrom_85 rfl ?_
          obtain ⟨hT66, h⟩ := h
          refine m_get hX hw cl7 hT66 5 (by decide) k_235 (fun _ h => h) (v := .long _) rfl dX7_passFrom_86 ?_
          refine lv_lload hx hb dX7_passFrom_89 (lv_at hl 0 rfl) ?_
          refine lv_aload_n hx hb dX7_passFrom_91 rfl (lv_at hl 1 rfl) ?_
          obtain ⟨b67, hb67, h⟩ := h
          refine m_get hX hw cl7 hT66 1 (by decide) k_231 (fun _ h => h) (v := .ref b67) (congrArg va_rf hb67) dX7_passFrom_92 ?_
          refine lv_aload_n hx hb dX7_passFrom_95 rfl (lv_at hl 1 rfl) ?_
          refine m_get hX hw cl7 hT66 3 (by decide) k_233 (fun _ h => h) (v := .int _) rfl dX7_passFrom_96 ?_
          refine lv_iconst (v := 1) hx hb dX7_passFrom_99 (by decide) ?_
          refine lv_isub hx hb dX7_passFrom_100 ?_
          obtain ⟨hT68, h⟩ := h
          obtain ⟨hc69, h⟩ := h
          refine m_iald hX hw hT68 hc69 dX7_passFrom_101 ?_
          refine lv_i2l hx hb dX7_passFrom_102 rfl ?_
          refine lv_lmul hx hb dX7_passFrom_103 ?_
          refine lv_ladd hx hb dX7_passFrom_104 ?_
          refine m_putL hX hw cl7 hT66 5 (by decide) k_235 (fun _ h => h) rfl rfl dX7_passFrom_105 (fun H locs hw => ?_)
          let σ70 : Me := sL σ65 a0 5 ((gL σ65 a0 5) + (x4_13 * ((gI σ65 b67 ((gI σ65 a0 3) - ((1 : Int32))).toNatClampNeg).toInt64)))
          have h := h σ70 rfl
          have hw : wS D cA z0 s σ70 H locs := hw
          refine lv_aload_n hx hb dX7_passFrom_108 rfl (lv_at hl 1 rfl) ?_
          refine m_get hX hw cl7 hT66 3 (by decide) k_233 (fun _ h => h) (v := .int _) rfl dX7_passFrom_109 ?_
          refine lv_iconst (v := 1) hx hb dX7_passFrom_112 (by decide) ?_
          obtain ⟨J126, hJ126, h⟩ := h
          have kJ126 : ∀ (σ73 : Me) (v_74 : Int32) (H : Heap) (locs : List Loc) (ls : Array Slot), J126 σ73 v_74 → wS D cA z0 s σ73 H locs → lv_has ls 8 [(0, .ref a0), (1, .int x1), (2, .ref a2), (3, .int x3_2), (4, .long x4_13)] → W p l e rX7_passFrom s m args below meth c H locs 0 0 (MQ below (va_Qv Q (BM D cA z0) (AM z0)) args s 0 0 (AM z0)) (F0 m 126 ls [.int v_74]) := by
            intro σ73 v_74 H locs ls h hw hl
            have h := hJ126 _ _ h
            refine lv_istore (lv' := [(6, _), (0, _), (1, _), (2, _), (3, _), (4, _)]) hx hb dX7_passFrom_126 hl (by decide) rfl (fun ls hl => ?_)
            refine lv_aload_n hx hb dX7_passFrom_128 rfl (lv_at hl 1 rfl) ?_
            obtain ⟨hT75, h⟩ := h
            refine m_get hX hw cl7 hT75 3 (by decide) k_233 (fun _ h => h) (v := .int _) rfl dX7_passFrom_129 ?_
            refine lv_iconst (v := 2) hx hb dX7_passFrom_132 (by decide) ?_
            obtain ⟨J146, hJ146, h⟩ := h
            have kJ146 : ∀ (σ80 : Me) (v_81 : Int32) (H : Heap) (locs : List Loc) (ls : Array Slot), J146 σ80 v_81 → wS D cA z0 s σ80 H locs → lv_has ls 8 [(0, .ref a0), (1, .int x1), (2, .ref a2), (3, .int x3_2), (4, .long x4_13), (6, .int v_74)] → W p l e rX7_passFrom s m args below meth c H locs 0 0 (MQ below (va_Qv Q (BM D cA z0) (AM z0)) args s 0 0 (AM z0)) (F0 m 146 ls [.int v_81]) := by
              intro σ80 v_81 H locs ls h hw hl
              have h := hJ146 _ _ h
              refine lv_istore (lv' := [(7, _), (0, _), (1, _), (2, _), (3, _), (4, _), (6, _)]) hx hb dX7_passFrom_146 hl (by decide) rfl (fun ls hl => ?_)
              refine lv_aload_n hx hb dX7_passFrom_148 rfl (lv_at hl 1 rfl) ?_
              obtain ⟨hT82, h⟩ := h
              obtain ⟨b83, hb83, h⟩ := h
              refine m_get hX hw cl7 hT82 0 (by decide) k_230 (fun _ h => h) (v := .ref b83) (congrArg va_rf hb83) dX7_passFrom_149 ?_
              refine lv_iload hx hb dX7_passFrom_152 (lv_at hl 0 rfl) ?_
              refine lv_bipush (v := 13) hx hb dX7_passFrom_154 (by decide) ?_
              refine lv_imul hx hb dX7_passFrom_156 ?_
              refine lv_iload hx hb dX7_passFrom_157 (lv_at hl 6 rfl) ?_
              refine lv_iadd hx hb dX7_passFrom_159 ?_
              refine lv_lload hx hb dX7_passFrom_160 (lv_at hl 5 rfl) ?_
              obtain ⟨hT86, h⟩ := h
              refine m_cv (m_runV (rest := []) hX hw (tX8_add h) mtX8_add k_806 ⟨k_625, k_626⟩ cl8 hT86 ⟨⟨rfl, rfl, Nat.le_of_ble_eq_true rfl, Nat.le_of_ble_eq_true rfl⟩, Nat.le_of_ble_eq_true rfl, Nat.le_of_ble_eq_true rfl⟩ rfl hl.1 rfl (Nat.le_of_ble_eq_true rfl) dX7_passFrom_162) hw (fun σ85 H locs h hw => ?_)
              obtain ⟨x3_87, e_x3_87⟩ : ∃ y : Int32, y = x3_2 + 1 := ⟨_, rfl⟩
              have h := h x3_87 e_x3_87
              refine lv_iinc (v := x3_87) (lv' := [(3, _), (7, _), (0, _), (1, _), (2, _), (4, _), (6, _)]) hx hb dX7_passFrom_165 hl (k := 4) rfl (by rw [e_x3_87]; rfl) (by decide) rfl (fun ls hl => ?_)
              refine lv_goto (tgt := 2) hx hb dX7_passFrom_168 (by decide) ?_
              obtain ⟨m2, hm2, h⟩ := h
              exact ih2 m2 hm2 _ _ _ _ _ h hw (lv_sub hl [2, 3, 4, 0] rfl)
            refine lv_icmp_le (tgt := 145) hx hb dX7_passFrom_133 (by decide) (fun hc76 => ?_) (fun hc76 => ?_)
            · have h := h.1 hc76
              refine lv_iconst (v := 0) hx hb dX7_passFrom_145 (by decide) ?_
              exact kJ146 _ _ _ _ _ h hw (lv_sub hl [1, 2, 3, 4, 5, 0] rfl)
            · have h := h.2 hc76
              refine lv_aload_n hx hb dX7_passFrom_136 rfl (lv_at hl 1 rfl) ?_
              obtain ⟨b77, hb77, h⟩ := h
              refine m_get hX hw cl7 hT75 1 (by decide) k_231 (fun _ h => h) (v := .ref b77) (congrArg va_rf hb77) dX7_passFrom_137 ?_
              refine lv_iconst (v := 1) hx hb dX7_passFrom_140 (by decide) ?_
              obtain ⟨hT78, h⟩ := h
              obtain ⟨hc79, h⟩ := h
              refine m_iald hX hw hT78 hc79 dX7_passFrom_141 ?_
              refine lv_goto (tgt := 146) hx hb dX7_passFrom_142 (by decide) ?_
              exact kJ146 _ _ _ _ _ h hw (lv_sub hl [1, 2, 3, 4, 5, 0] rfl)
          refine lv_icmp_le (tgt := 125) hx hb dX7_passFrom_113 (by decide) (fun hc71 => ?_) (fun hc71 => ?_)
          · have h := h.1 hc71
            refine lv_iconst (v := 0) hx hb dX7_passFrom_125 (by decide) ?_
            exact kJ126 _ _ _ _ _ h hw (lv_sub hl [1, 2, 3, 4, 0] rfl)
          · have h := h.2 hc71
            refine lv_aload_n hx hb dX7_passFrom_116 rfl (lv_at hl 1 rfl) ?_
            refine m_get hX hw cl7 hT66 1 (by decide) k_231 (fun _ h => h) (v := .ref b67) (congrArg va_rf hb67) dX7_passFrom_117 ?_
            refine lv_iconst (v := 0) hx hb dX7_passFrom_120 (by decide) ?_
            obtain ⟨hc72, h⟩ := h
            refine m_iald hX hw hT68 hc72 dX7_passFrom_121 ?_
            refine lv_goto (tgt := 126) hx hb dX7_passFrom_122 (by decide) ?_
            exact kJ126 _ _ _ _ _ h hw (lv_sub hl [1, 2, 3, 4, 0] rfl)
        · have h := h.1 hc52
          refine lv_goto (tgt := 165) hx hb dX7_passFrom_32 (by decide) ?_
          obtain ⟨x3_88, e_x3_88⟩ : ∃ y : Int32, y = x3_2 + 1 := ⟨_, rfl⟩
          have h := h x3_88 e_x3_88
          refine lv_iinc (v := x3_88) (lv' := [(3, _), (4, _), (0, _), (1, _), (2, _)]) hx hb dX7_passFrom_165 hl (k := 4) rfl (by rw [e_x3_88]; rfl) (by decide) rfl (fun ls hl => ?_)
          refine lv_goto (tgt := 2) hx hb dX7_passFrom_168 (by decide) ?_
          obtain ⟨m2, hm2, h⟩ := h
          exact ih2 m2 hm2 _ _ _ _ _ h hw (lv_sub hl [2, 3, 4, 0] rfl)
  exact key2 _ _ _ _ _ _ h hw (lv_sub hl [1, 2, 3, 0] rfl)
theorem mtX7_passFrom : Mth yX7_passFrom cX7_passFrom 8 none 2 := ⟨k_799, k_49, by decide +kernel⟩
theorem tX7_passFrom {l : Launch} {D : va_G} {cA : Nat → ClassId} {z0 : Nat} {σ : Me} {a0 : Nat} {x1 : Int32} {a2 : Nat} {Q : Me → Prop} (h : pX7_passFrom σ a0 x1 a2 Q) : Met l yX7_passFrom (Cond.code yX7_passFrom cX7_passFrom 8 none :: gTab) rX7_passFrom (PcM D cA z0 σ [.ref a0, .int x1, .ref a2]) (va_Qv Q (BM D cA z0) (AM z0)) 0 0 (AM z0) :=
  met_of (by decide) (Nat.le_of_ble_eq_true rfl) (fun hX hlk hr hn hw hl => wX7_passFrom hX hlk hr h hw hl)
abbrev rX8_turnToTomorrow : Room := { frames := 2, cells := 0, slots := 0, locals := 41 }
def pX8_turnToTomorrow (σ : Me) (a0 : Nat) (Q : Me → Prop) : Prop := ∃ I2 : Nat → Me → Int32 → Prop, (∀ (n2 : Nat) (σ1 : Me) (x1_2 : Int32), I2 n2 σ1 x1_2 → gT σ1 a0 = 8 ∧ ((gI σ1 a0 4) ≤ x1_2 → ∃ b19 : Nat, gP σ1 a0 0 = some b19 ∧ ∃ b20 : Nat, gP σ1 a0 1 = some b20 ∧ ∀ σ21 : Me, σ21 = sP σ1 a0 0 (some b20) → ∀ σ22 : Me, σ22 = sP σ21 a0 1 (some b19) → ∃ b23 : Nat, gP σ22 a0 2 = some b23 ∧ ∃ b24 : Nat, gP σ22 a0 3 = some b24 ∧ ∀ σ25 : Me, σ25 = sP σ22 a0 2 (some b24) → ∀ σ26 : Me, σ26 = sP σ25 a0 3 (some b23) → ∀ σ27 : Me, σ27 = sI σ26 a0 4 (gI σ26 a0 5) → ∀ σ28 : Me, σ28 = sI σ27 a0 5 ((0 : Int32)) → Q σ28) ∧ (¬ (gI σ1 a0 4) ≤ x1_2 → pX8_placeAt σ1 a0 x1_2 (fun r29 σ30 => pX8_isPlace σ30 r29 (fun r31 σ32 => (r31 = 0 → ∀ x1_35 : Int32, x1_35 = x1_2 + 1 → ∃ m2 : Nat, m2 < n2 ∧ I2 m2 σ32 x1_35) ∧ (¬ r31 = 0 → gT σ32 a0 = 8 ∧ ∃ b37 : Nat, gP σ32 a0 0 = some b37 ∧ gT σ32 b37 = 21 ∧ vp_in r29 (gN σ32 b37) ∧ ∀ σ40 : Me, σ40 = sL σ32 b37 r29.toNatClampNeg ((0 : Int64)) → ∀ x1_41 : Int32, x1_41 = x1_2 + 1 → ∃ m2 : Nat, m2 < n2 ∧ I2 m2 σ40 x1_41))))) ∧ ∃ n2 : Nat, I2 n2 σ ((0 : Int32))
set_option maxHeartbeats 4000000 in
set_option maxRecDepth 100000 in
theorem wX8_turnToTomorrow {p : Program} {l : Launch} {e : Env} {s : State} {m : MethodId} {args : Array Value} {below : List Frame} {meth : Method} {c : Code} {D : va_G} {cA : Nat → ClassId} {z0 : Nat} (hX : Cx p m c cX8_turnToTomorrow 3 s args RX8 D cA) (hlk : meth.locks = false) (hr : meth.sig.returnType = none) {σ : Me} {a0 : Nat} {Q : Me → Prop} (h : pX8_turnToTomorrow σ a0 Q) {H : Heap} {locs : List Loc} {ls : Array Slot} (hw : wS D cA z0 s σ H locs) (hl : lv_has ls 3 [(0, .ref a0)]) : W p l e rX8_turnToTomorrow s m args below meth c H locs 0 0 (MQ below (va_Qv Q (BM D cA z0) (AM z0)) args s 0 0 (AM z0)) (F0 m 0 ls []) := by
  have hx := hX.1.1
  have hb := hX.1.2.1
  have hown := hX.1.2.2.2.1
  have hts := hX.1.2.2.2.2
  unfold pX8_turnToTomorrow at h
  refine lv_iconst (v := 0) hx hb dX8_turnToTomorrow_0 (by decide) ?_
  refine lv_istore_n (lv' := [(1, _), (0, _)]) hx hb dX8_turnToTomorrow_1 rfl hl (by decide) rfl (fun ls hl => ?_)
  obtain ⟨I2, hI2, n2, h⟩ := h
  have key2 : ∀ (n2 : Nat) (σ1 : Me) (x1_2 : Int32) (H : Heap) (locs : List Loc) (ls : Array Slot), I2 n2 σ1 x1_2 → wS D cA z0 s σ1 H locs → lv_has ls 3 [(0, .ref a0), (1, .int x1_2)] → W p l e rX8_turnToTomorrow s m args below meth c H locs 0 0 (MQ below (va_Qv Q (BM D cA z0) (AM z0)) args s 0 0 (AM z0)) (F0 m 2 ls []) := by
    intro n2
    induction n2 using Nat.strongRecOn with
    | _ n2 ih2 =>
      intro σ1 x1_2 H locs ls h hw hl
      have h := hI2 _ _ _ h
      refine lv_iload_n hx hb dX8_turnToTomorrow_2 rfl (lv_at hl 1 rfl) ?_
      refine lv_aload_n hx hb dX8_turnToTomorrow_3 rfl (lv_at hl 0 rfl) ?_
      obtain ⟨hT3, h⟩ := h
      refine m_get hX hw cl8 hT3 4 (by decide) k_144 (fun _ h => h) (v := .int _) rfl dX8_turnToTomorrow_4 ?_
      refine lv_icmp_ge (tgt := 36) hx hb dX8_turnToTomorrow_7 (by decide) (fun hc18 => ?_) (fun hc18 => ?_)
      · have h := h.1 hc18
        refine lv_aload_n hx hb dX8_turnToTomorrow_36 rfl (lv_at hl 0 rfl) ?_
        obtain ⟨b19, hb19, h⟩ := h
        refine m_get hX hw cl8 hT3 0 (by decide) k_140 (fun _ h => h) (v := .ref b19) (congrArg va_rf hb19) dX8_turnToTomorrow_37 ?_
        refine lv_astore_n (lv' := [(1, _), (0, _)]) hx hb dX8_turnToTomorrow_40 rfl hl (by decide) rfl (fun ls hl => ?_)
        refine lv_aload_n hx hb dX8_turnToTomorrow_41 rfl (lv_at hl 1 rfl) ?_
        refine lv_aload_n hx hb dX8_turnToTomorrow_42 rfl (lv_at hl 1 rfl) ?_
        obtain ⟨b20, hb20, h⟩ := h
        refine m_get hX hw cl8 hT3 1 (by decide) k_141 (fun _ h => h) (v := .ref b20) (congrArg va_rf hb20) dX8_turnToTomorrow_43 ?_
        refine m_putP hX hw cl8 hT3 0 (by decide) k_140 (fun _ h => h) rfl rfl rfl rfl dX8_turnToTomorrow_46 (fun H locs hw => ?_)
        let σ21 : Me := sP σ1 a0 0 (some b20)
        have h := h σ21 rfl
        have hw : wS D cA z0 s σ21 H locs := hw
        refine lv_aload_n hx hb dX8_turnToTomorrow_49 rfl (lv_at hl 1 rfl) ?_
        refine lv_aload_n hx hb dX8_turnToTomorrow_50 rfl (lv_at hl 0 rfl) ?_
        refine m_putP hX hw cl8 hT3 1 (by decide) k_141 (fun _ h => h) rfl rfl rfl rfl dX8_turnToTomorrow_51 (fun H locs hw => ?_)
        let σ22 : Me := sP σ21 a0 1 (some b19)
        have h := h σ22 rfl
        have hw : wS D cA z0 s σ22 H locs := hw
        refine lv_aload_n hx hb dX8_turnToTomorrow_54 rfl (lv_at hl 1 rfl) ?_
        obtain ⟨b23, hb23, h⟩ := h
        refine m_get hX hw cl8 hT3 2 (by decide) k_142 (fun _ h => h) (v := .ref b23) (congrArg va_rf hb23) dX8_turnToTomorrow_55 ?_
        refine lv_astore_n (lv' := [(2, _), (1, _), (0, _)]) hx hb dX8_turnToTomorrow_58 rfl hl (by decide) rfl (fun ls hl => ?_)
        refine lv_aload_n hx hb dX8_turnToTomorrow_59 rfl (lv_at hl 2 rfl) ?_
        refine lv_aload_n hx hb dX8_turnToTomorrow_60 rfl (lv_at hl 2 rfl) ?_
        obtain ⟨b24, hb24, h⟩ := h
        refine m_get hX hw cl8 hT3 3 (by decide) k_143 (fun _ h => h) (v := .ref b24) (congrArg va_rf hb24) dX8_turnToTomorrow_61 ?_
        refine m_putP hX hw cl8 hT3 2 (by decide) k_142 (fun _ h => h) rfl rfl rfl rfl dX8_turnToTomorrow_64 (fun H locs hw => ?_)
        let σ25 : Me := sP σ22 a0 2 (some b24)
        have h := h σ25 rfl
        have hw : wS D cA z0 s σ25 H locs := hw
        refine lv_aload_n hx hb dX8_turnToTomorrow_67 rfl (lv_at hl 2 rfl) ?_
        refine lv_aload_n hx hb dX8_turnToTomorrow_68 rfl (lv_at hl 0 rfl) ?_
        refine m_putP hX hw cl8 hT3 3 (by decide) k_143 (fun _ h => h) rfl rfl rfl rfl dX8_turnToTomorrow_69 (fun H locs hw => ?_)
        let σ26 : Me := sP σ25 a0 3 (some b23)
        have h := h σ26 rfl
        have hw : wS D cA z0 s σ26 H locs := hw
        refine lv_aload_n hx hb dX8_turnToTomorrow_72 rfl (lv_at hl 2 rfl) ?_
        refine lv_aload_n hx hb dX8_turnToTomorrow_73 rfl (lv_at hl 2 rfl) ?_
        refine m_get hX hw cl8 hT3 5 (by decide) k_145 (fun _ h => h) (v := .int _) rfl dX8_turnToTomorrow_74 ?_
        refine m_putI hX hw cl8 hT3 4 (by decide) k_144 (fun _ h => h) rfl rfl dX8_turnToTomorrow_77 (fun H locs hw => ?_)
        let σ27 : Me := sI σ26 a0 4 (gI σ26 a0 5)
        have h := h σ27 rfl
        have hw : wS D cA z0 s σ27 H locs := hw
        refine lv_aload_n hx hb dX8_turnToTomorrow_80 rfl (lv_at hl 2 rfl) ?_
        refine lv_iconst (v := 0) hx hb dX8_turnToTomorrow_81 (by decide) ?_
        refine m_putI hX hw cl8 hT3 5 (by decide) k_145 (fun _ h => h) rfl rfl dX8_turnToTomorrow_82 (fun H locs hw => ?_)
        let σ28 : Me := sI σ27 a0 5 ((0 : Int32))
        have h := h σ28 rfl
        have hw : wS D cA z0 s σ28 H locs := hw
        exact m_vret hX hlk hr hw h dX8_turnToTomorrow_85
      · have h := h.2 hc18
        refine lv_aload_n hx hb dX8_turnToTomorrow_10 rfl (lv_at hl 0 rfl) ?_
        refine lv_iload_n hx hb dX8_turnToTomorrow_11 rfl (lv_at hl 1 rfl) ?_
        refine m_ci (m_runV (rest := []) hX hw (tX8_placeAt h) mtX8_placeAt k_632 ⟨k_633, k_634⟩ cl8 hT3 ⟨⟨rfl, rfl, Nat.le_of_ble_eq_true rfl, Nat.le_of_ble_eq_true rfl⟩, Nat.le_of_ble_eq_true rfl, Nat.le_of_ble_eq_true rfl⟩ rfl hl.1 rfl (Nat.le_of_ble_eq_true rfl) dX8_turnToTomorrow_12) hw (fun r29 σ30 H locs h hw => ?_)
        refine lv_istore_n (lv' := [(2, _), (0, _), (1, _)]) hx hb dX8_turnToTomorrow_15 rfl hl (by decide) rfl (fun ls hl => ?_)
        refine lv_iload_n hx hb dX8_turnToTomorrow_16 rfl (lv_at hl 0 rfl) ?_
        refine m_ci (m_runS (rest := []) hX hw (tX8_isPlace h) mtX8_isPlace k_636 k_637 ⟨⟨rfl, rfl, Nat.le_of_ble_eq_true rfl, Nat.le_of_ble_eq_true rfl⟩, Nat.le_of_ble_eq_true rfl, Nat.le_of_ble_eq_true rfl⟩ rfl hl.1 rfl (Nat.le_of_ble_eq_true rfl) dX8_turnToTomorrow_17) hw (fun r31 σ32 H locs h hw => ?_)
        refine lv_if_eq (tgt := 30) hx hb dX8_turnToTomorrow_20 (by decide) (fun hc34 => ?_) (fun hc34 => ?_)
        · have h := h.1 hc34
          obtain ⟨x1_35, e_x1_35⟩ : ∃ y : Int32, y = x1_2 + 1 := ⟨_, rfl⟩
          have h := h x1_35 e_x1_35
          refine lv_iinc (v := x1_35) (lv' := [(1, _), (2, _), (0, _)]) hx hb dX8_turnToTomorrow_30 hl (k := 2) rfl (by rw [e_x1_35]; rfl) (by decide) rfl (fun ls hl => ?_)
          refine lv_goto (tgt := 2) hx hb dX8_turnToTomorrow_33 (by decide) ?_
          obtain ⟨m2, hm2, h⟩ := h
          exact ih2 m2 hm2 _ _ _ _ _ h hw (lv_sub hl [2, 0] rfl)
        · have h := h.2 hc34
          refine lv_aload_n hx hb dX8_turnToTomorrow_23 rfl (lv_at hl 1 rfl) ?_
          obtain ⟨hT36, h⟩ := h
          obtain ⟨b37, hb37, h⟩ := h
          refine m_get hX hw cl8 hT36 0 (by decide) k_140 (fun _ h => h) (v := .ref b37) (congrArg va_rf hb37) dX8_turnToTomorrow_24 ?_
          refine lv_iload_n hx hb dX8_turnToTomorrow_27 rfl (lv_at hl 0 rfl) ?_
          refine lv_lconst (v := 0) hx hb dX8_turnToTomorrow_28 (by decide) ?_
          obtain ⟨hT38, h⟩ := h
          obtain ⟨hc39, h⟩ := h
          refine m_last hX hw hT38 hc39 dX8_turnToTomorrow_29 (fun H locs hw => ?_)
          let σ40 : Me := sL σ32 b37 r29.toNatClampNeg ((0 : Int64))
          have h := h σ40 rfl
          have hw : wS D cA z0 s σ40 H locs := hw
          obtain ⟨x1_41, e_x1_41⟩ : ∃ y : Int32, y = x1_2 + 1 := ⟨_, rfl⟩
          have h := h x1_41 e_x1_41
          refine lv_iinc (v := x1_41) (lv' := [(1, _), (2, _), (0, _)]) hx hb dX8_turnToTomorrow_30 hl (k := 2) rfl (by rw [e_x1_41]; rfl) (by decide) rfl (fun ls hl => ?_)
          refine lv_goto (tgt := 2) hx hb dX8_turnToTomorrow_33 (by decide) ?_
          obtain ⟨m2, hm2, h⟩ := h
          exact ih2 m2 hm2 _ _ _ _ _ h hw (lv_sub hl [2, 0] rfl)
  exact key2 _ _ _ _ _ _ h hw (lv_sub hl [1, 0] rfl)
theorem mtX8_turnToTomorrow : Mth yX8_turnToTomorrow cX8_turnToTomorrow 3 none 0 := ⟨k_631, k_46, by decide +kernel⟩
theorem tX8_turnToTomorrow {l : Launch} {D : va_G} {cA : Nat → ClassId} {z0 : Nat} {σ : Me} {a0 : Nat} {Q : Me → Prop} (h : pX8_turnToTomorrow σ a0 Q) : Met l yX8_turnToTomorrow (Cond.code yX8_turnToTomorrow cX8_turnToTomorrow 3 none :: gTab) rX8_turnToTomorrow (PcM D cA z0 σ [.ref a0]) (va_Qv Q (BM D cA z0) (AM z0)) 0 0 (AM z0) :=
  met_of (by decide) (Nat.le_of_ble_eq_true rfl) (fun hX hlk hr hn hw hl => wX8_turnToTomorrow hX hlk hr h hw hl)
abbrev rX10_passFrom : Room := { frames := 3, cells := 0, slots := 0, locals := 63 }
def pX10_passFrom (σ : Me) (a0 : Nat) (x1 : Int32) (a2 : Nat) (x3 : Int32) (Q : Me → Prop) : Prop := ∀ x4_1 : Int32, x4_1 = ((x1 - x1 / ((37 : Int32)) * ((37 : Int32))) + ((-12 : Int32))) → ∀ x5_2 : Int32, x5_2 = (x1 / ((37 : Int32))) → gT σ a0 = 10 ∧ pX10_orderAt σ a0 (x4_1 + x5_2) (fun r3 σ4 => gT σ4 a0 = 10 ∧ ∃ b7 : Nat, gP σ4 a0 0 = some b7 ∧ gT σ4 b7 = 6 ∧ ∀ v_9 : Int32, v_9 = (if (gI σ4 b7 1) = 0 then r3 else ((0 : Int32))) → pX6_filled σ4 b7 x4_1 v_9 (fun r11 σ12 => gT σ12 a0 = 10 ∧ ∃ b14 : Nat, gP σ12 a0 1 = some b14 ∧ gT σ12 b14 = 8 ∧ pX8_weightAt σ12 b14 x1 (fun r15 σ16 => gT σ16 a0 = 10 ∧ ∃ b19 : Nat, gP σ16 a0 0 = some b19 ∧ gT σ16 b19 = 6 ∧ pX6_orderPrice σ16 b19 r3 (fun r20 σ21 => gT σ21 a0 = 10 ∧ ∃ b24 : Nat, gP σ21 a0 0 = some b24 ∧ gT σ21 b24 = 6 ∧ pX6_priceFrom σ21 b24 r11 (fun r25 σ26 => gT σ26 a0 = 10 ∧ ∀ σ29 : Me, σ29 = sL σ26 a0 5 ((gL σ16 a0 5) + (r15 * (((x3 * r20) + r25).toInt64))) → ∃ b30 : Nat, gP σ29 a0 0 = some b30 ∧ gT σ29 b30 = 6 ∧ pX6_metFrom σ29 b30 r11 (fun r31 σ32 => gT σ32 a0 = 10 ∧ ∀ σ35 : Me, σ35 = sL σ32 a0 6 ((gL σ29 a0 6) + (r15 * r31.toInt64)) → ∃ b36 : Nat, gP σ35 a0 0 = some b36 ∧ gT σ35 b36 = 6 ∧ pX6_inHandFrom σ35 b36 r11 (fun r37 σ38 => gT σ38 a0 = 10 ∧ ∀ σ41 : Me, σ41 = sL σ38 a0 7 ((gL σ35 a0 7) + (r15 * r37.toInt64)) → ∃ b42 : Nat, gP σ41 a0 0 = some b42 ∧ gT σ41 b42 = 6 ∧ ∀ v_44 : Int32, v_44 = (if (gI σ41 b42 1) = ((2 : Int32)) then x5_2 else (if (gI σ41 b42 1) = ((1 : Int32)) then r3 else ((0 : Int32)))) → ∀ v_46 : Int32, v_46 = (if (gI σ41 b42 1) = ((2 : Int32)) then r3 else ((0 : Int32))) → ∀ v_48 : Int32, v_48 = (if (gI σ41 a0 4) = 0 then ((6 : Int32)) else (if ((6 : Int32)) < (if r11 < ((0 : Int32)) then ((0 : Int32)) else r11) then ((6 : Int32)) else (if r11 < ((0 : Int32)) then ((0 : Int32)) else r11))) → ∃ I223 : Nat → Me → Int32 → Prop, (∀ (n223 : Nat) (σ50 : Me) (x13_51 : Int32), I223 n223 σ50 x13_51 → (v_48 < x13_51 → Q σ50) ∧ (¬ v_48 < x13_51 → gT σ50 a0 = 10 ∧ ∃ b55 : Nat, gP σ50 a0 0 = some b55 ∧ gT σ50 b55 = 6 ∧ pX6_leftOf σ50 b55 r11 x13_51 (fun r56 σ57 => gT σ57 a0 = 10 ∧ ∃ b60 : Nat, gP σ57 a0 1 = some b60 ∧ pX10_placeOf σ57 (r56 + v_44) v_46 (fun r61 σ62 => gT σ62 a2 = 1 ∧ pX1_weightOf σ62 a2 x13_51 (fun r63 σ64 => gT σ64 b60 = 8 ∧ pX8_add σ64 b60 r61 (r15 * r63.toInt64) (fun σ67 => ∀ x13_69 : Int32, x13_69 = x13_51 + 1 → ∃ m223 : Nat, m223 < n223 ∧ I223 m223 σ67 x13_69)))))) ∧ ∃ n223 : Nat, I223 n223 σ41 ((0 : Int32)))))))))
set_option maxHeartbeats 4000000 in
set_option maxRecDepth 100000 in
theorem wX10_passFrom {p : Program} {l : Launch} {e : Env} {s : State} {m : MethodId} {args : Array Value} {below : List Frame} {meth : Method} {c : Code} {D : va_G} {cA : Nat → ClassId} {z0 : Nat} (hX : Cx p m c cX10_passFrom 15 s args RX10 D cA) (hlk : meth.locks = false) (hr : meth.sig.returnType = none) {σ : Me} {a0 : Nat} {x1 : Int32} {a2 : Nat} {x3 : Int32} {Q : Me → Prop} (h : pX10_passFrom σ a0 x1 a2 x3 Q) {H : Heap} {locs : List Loc} {ls : Array Slot} (hw : wS D cA z0 s σ H locs) (hl : lv_has ls 15 [(0, .ref a0), (1, .int x1), (2, .ref a2), (3, .int x3)]) : W p l e rX10_passFrom s m args below meth c H locs 0 0 (MQ below (va_Qv Q (BM D cA z0) (AM z0)) args s 0 0 (AM z0)) (F0 m 0 ls []) := by
  have hx := hX.1.1
  have hb := hX.1.2.1
  have hown := hX.1.2.2.2.1
  have hts := hX.1.2.2.2.2
  unfold pX10_passFrom at h
  refine lv_iload_n hx hb dX10_passFrom_0 rfl (lv_at hl 1 rfl) ?_
  refine lv_bipush (v := 37) hx hb dX10_passFrom_1 (by decide) ?_
  refine lv_irem hx hb dX10_passFrom_3 (by decide) ?_
  refine lv_bipush (v := (-12)) hx hb dX10_passFrom_4 (by decide) ?_
  refine lv_iadd hx hb dX10_passFrom_6 ?_
  refine lv_topi (fun x4_1 e_x4_1 => ?_)
  have h := h x4_1 e_x4_1
  refine lv_istore (lv' := [(4, _), (0, _), (1, _), (2, _), (3, _)]) hx hb dX10_passFrom_7 hl (by decide) rfl (fun ls hl => ?_)
  refine lv_iload_n hx hb dX10_passFrom_9 rfl (lv_at hl 2 rfl) ?_
  refine lv_bipush (v := 37) hx hb dX10_passFrom_10 (by decide) ?_
  refine lv_idiv hx hb dX10_passFrom_12 (by decide) ?_
  refine lv_topi (fun x5_2 e_x5_2 => ?_)
  have h := h x5_2 e_x5_2
  refine lv_istore (lv' := [(5, _), (4, _), (0, _), (1, _), (2, _), (3, _)]) hx hb dX10_passFrom_13 hl (by decide) rfl (fun ls hl => ?_)
  refine lv_aload_n hx hb dX10_passFrom_15 rfl (lv_at hl 2 rfl) ?_
  refine lv_iload hx hb dX10_passFrom_16 (lv_at hl 1 rfl) ?_
  refine lv_iload hx hb dX10_passFrom_18 (lv_at hl 0 rfl) ?_
  refine lv_iadd hx hb dX10_passFrom_20 ?_
  obtain ⟨hT5, h⟩ := h
  refine m_ci (m_runV (rest := []) hX hw (tX10_orderAt h) mtX10_orderAt k_653 ⟨k_655, k_8⟩ cl10 hT5 ⟨⟨rfl, rfl, Nat.le_of_ble_eq_true rfl, Nat.le_of_ble_eq_true rfl⟩, Nat.le_of_ble_eq_true rfl, Nat.le_of_ble_eq_true rfl⟩ rfl hl.1 rfl (Nat.le_of_ble_eq_true rfl) dX10_passFrom_21) hw (fun r3 σ4 H locs h hw => ?_)
  refine lv_istore (lv' := [(6, _), (5, _), (4, _), (0, _), (1, _), (2, _), (3, _)]) hx hb dX10_passFrom_24 hl (by decide) rfl (fun ls hl => ?_)
  refine lv_aload_n hx hb dX10_passFrom_26 rfl (lv_at hl 3 rfl) ?_
  obtain ⟨hT6, h⟩ := h
  obtain ⟨b7, hb7, h⟩ := h
  refine m_get hX hw cl10 hT6 0 (by decide) k_166 (fun _ h => h) (v := .ref b7) (congrArg va_rf hb7) dX10_passFrom_27 ?_
  refine lv_iload hx hb dX10_passFrom_30 (lv_at hl 2 rfl) ?_
  refine lv_aload_n hx hb dX10_passFrom_32 rfl (lv_at hl 3 rfl) ?_
  refine m_get hX hw cl10 hT6 0 (by decide) k_166 (fun _ h => h) (v := .ref b7) (congrArg va_rf hb7) dX10_passFrom_33 ?_
  obtain ⟨hT8, h⟩ := h
  refine m_get hX hw cl6 hT8 1 (by decide) k_82 (fun _ h => h) (v := .int _) rfl dX10_passFrom_36 ?_
  have kM10 : ∀ (v_9 : Int32) (ls : Array Slot), v_9 = (if (gI σ4 b7 1) = 0 then r3 else ((0 : Int32))) → lv_has ls 15 [(6, .int r3), (5, .int x5_2), (0, .ref a0), (1, .int x1), (2, .ref a2), (3, .int x3)] → W p l e rX10_passFrom s m args below meth c H locs 0 0 (MQ below (va_Qv Q (BM D cA z0) (AM z0)) args s 0 0 (AM z0)) (F0 m 48 ls [.int v_9, .int x4_1, .ref b7]) := by
    intro v_9 ls e_v_9 hl
    have h := h v_9 e_v_9
    refine m_ci (m_runV (rest := []) hX hw (tX6_filled h) mtX6_filled k_658 ⟨k_659, k_660⟩ cl6 hT8 ⟨⟨rfl, rfl, Nat.le_of_ble_eq_true rfl, Nat.le_of_ble_eq_true rfl⟩, Nat.le_of_ble_eq_true rfl, Nat.le_of_ble_eq_true rfl⟩ rfl hl.1 rfl (Nat.le_of_ble_eq_true rfl) dX10_passFrom_48) hw (fun r11 σ12 H locs h hw => ?_)
    refine lv_istore (lv' := [(7, _), (6, _), (5, _), (0, _), (1, _), (2, _), (3, _)]) hx hb dX10_passFrom_51 hl (by decide) rfl (fun ls hl => ?_)
    refine lv_aload_n hx hb dX10_passFrom_53 rfl (lv_at hl 3 rfl) ?_
    obtain ⟨hT13, h⟩ := h
    obtain ⟨b14, hb14, h⟩ := h
    refine m_get hX hw cl10 hT13 1 (by decide) k_167 (fun _ h => h) (v := .ref b14) (congrArg va_rf hb14) dX10_passFrom_54 ?_
    refine lv_iload_n hx hb dX10_passFrom_57 rfl (lv_at hl 4 rfl) ?_
    obtain ⟨hT17, h⟩ := h
    refine m_cl (m_runV (rest := []) hX hw (tX8_weightAt h) mtX8_weightAt k_662 ⟨k_663, k_664⟩ cl8 hT17 ⟨⟨rfl, rfl, Nat.le_of_ble_eq_true rfl, Nat.le_of_ble_eq_true rfl⟩, Nat.le_of_ble_eq_true rfl, Nat.le_of_ble_eq_true rfl⟩ rfl hl.1 rfl (Nat.le_of_ble_eq_true rfl) dX10_passFrom_58) hw (fun r15 σ16 H locs h hw => ?_)
    refine lv_lstore (lv' := [(8, _), (7, _), (6, _), (5, _), (0, _), (1, _), (2, _), (3, _)]) hx hb dX10_passFrom_61 hl (by decide) rfl (fun ls hl => ?_)
    refine lv_aload_n hx hb dX10_passFrom_63 rfl (lv_at hl 4 rfl) ?_
    refine lv_dup hx hb dX10_passFrom_64 rfl ?_
    obtain ⟨hT18, h⟩ := h
    refine m_get hX hw cl10 hT18 5 (by decide) k_171 (fun _ h => h) (v := .long _) rfl dX10_passFrom_65 ?_
    refine lv_lload hx hb dX10_passFrom_68 (lv_at hl 0 rfl) ?_
    refine lv_iload_n hx hb dX10_passFrom_70 rfl (lv_at hl 7 rfl) ?_
    refine lv_aload_n hx hb dX10_passFrom_71 rfl (lv_at hl 4 rfl) ?_
    obtain ⟨b19, hb19, h⟩ := h
    refine m_get hX hw cl10 hT18 0 (by decide) k_166 (fun _ h => h) (v := .ref b19) (congrArg va_rf hb19) dX10_passFrom_72 ?_
    refine lv_iload hx hb dX10_passFrom_75 (lv_at hl 2 rfl) ?_
    obtain ⟨hT22, h⟩ := h
    refine m_ci (m_runV (rest := [_, _, _, _]) hX hw (tX6_orderPrice h) mtX6_orderPrice k_666 ⟨k_667, k_668⟩ cl6 hT22 ⟨⟨rfl, rfl, Nat.le_of_ble_eq_true rfl, Nat.le_of_ble_eq_true rfl⟩, Nat.le_of_ble_eq_true rfl, Nat.le_of_ble_eq_true rfl⟩ rfl hl.1 rfl (Nat.le_of_ble_eq_true rfl) dX10_passFrom_77) hw (fun r20 σ21 H locs h hw => ?_)
    refine lv_imul hx hb dX10_passFrom_80 ?_
    refine lv_aload_n hx hb dX10_passFrom_81 rfl (lv_at hl 4 rfl) ?_
    obtain ⟨hT23, h⟩ := h
    obtain ⟨b24, hb24, h⟩ := h
    refine m_get hX hw cl10 hT23 0 (by decide) k_166 (fun _ h => h) (v := .ref b24) (congrArg va_rf hb24) dX10_passFrom_82 ?_
    refine lv_iload hx hb dX10_passFrom_85 (lv_at hl 1 rfl) ?_
    obtain ⟨hT27, h⟩ := h
    refine m_ci (m_runV (rest := [_, _, _, _]) hX hw (tX6_priceFrom h) mtX6_priceFrom k_670 ⟨k_671, k_672⟩ cl6 hT27 ⟨⟨rfl, rfl, Nat.le_of_ble_eq_true rfl, Nat.le_of_ble_eq_true rfl⟩, Nat.le_of_ble_eq_true rfl, Nat.le_of_ble_eq_true rfl⟩ rfl hl.1 rfl (Nat.le_of_ble_eq_true rfl) dX10_passFrom_87) hw (fun r25 σ26 H locs h hw => ?_)
    refine lv_iadd hx hb dX10_passFrom_90 ?_
    refine lv_i2l hx hb dX10_passFrom_91 rfl ?_
    refine lv_lmul hx hb dX10_passFrom_92 ?_
    refine lv_ladd hx hb dX10_passFrom_93 ?_
    obtain ⟨hT28, h⟩ := h
    refine m_putL hX hw cl10 hT28 5 (by decide) k_171 (fun _ h => h) rfl rfl dX10_passFrom_94 (fun H locs hw => ?_)
    let σ29 : Me := sL σ26 a0 5 ((gL σ16 a0 5) + (r15 * (((x3 * r20) + r25).toInt64)))
    have h := h σ29 rfl
    have hw : wS D cA z0 s σ29 H locs := hw
    refine lv_aload_n hx hb dX10_passFrom_97 rfl (lv_at hl 4 rfl) ?_
    refine lv_dup hx hb dX10_passFrom_98 rfl ?_
    refine m_get hX hw cl10 hT28 6 (by decide) k_172 (fun _ h => h) (v := .long _) rfl dX10_passFrom_99 ?_
    refine lv_lload hx hb dX10_passFrom_102 (lv_at hl 0 rfl) ?_
    refine lv_aload_n hx hb dX10_passFrom_104 rfl (lv_at hl 4 rfl) ?_
    obtain ⟨b30, hb30, h⟩ := h
    refine m_get hX hw cl10 hT28 0 (by decide) k_166 (fun _ h => h) (v := .ref b30) (congrArg va_rf hb30) dX10_passFrom_105 ?_
    refine lv_iload hx hb dX10_passFrom_108 (lv_at hl 1 rfl) ?_
    obtain ⟨hT33, h⟩ := h
    refine m_ci (m_runV (rest := [_, _, _]) hX hw (tX6_metFrom h) mtX6_metFrom k_677 ⟨k_678, k_679⟩ cl6 hT33 ⟨⟨rfl, rfl, Nat.le_of_ble_eq_true rfl, Nat.le_of_ble_eq_true rfl⟩, Nat.le_of_ble_eq_true rfl, Nat.le_of_ble_eq_true rfl⟩ rfl hl.1 rfl (Nat.le_of_ble_eq_true rfl) dX10_passFrom_110) hw (fun r31 σ32 H locs h hw => ?_)
    refine lv_i2l hx hb dX10_passFrom_113 rfl ?_
    refine lv_lmul hx hb dX10_passFrom_114 ?_
    refine lv_ladd hx hb dX10_passFrom_115 ?_
    obtain ⟨hT34, h⟩ := h
    refine m_putL hX hw cl10 hT34 6 (by decide) k_172 (fun _ h => h) rfl rfl dX10_passFrom_116 (fun H locs hw => ?_)
    let σ35 : Me := sL σ32 a0 6 ((gL σ29 a0 6) + (r15 * r31.toInt64))
    have h := h σ35 rfl
    have hw : wS D cA z0 s σ35 H locs := hw
    refine lv_aload_n hx hb dX10_passFrom_119 rfl (lv_at hl 4 rfl) ?_
    refine lv_dup hx hb dX10_passFrom_120 rfl ?_
    refine m_get hX hw cl10 hT34 7 (by decide) k_174 (fun _ h => h) (v := .long _) rfl dX10_passFrom_121 ?_
    refine lv_lload hx hb dX10_passFrom_124 (lv_at hl 0 rfl) ?_
    refine lv_aload_n hx hb dX10_passFrom_126 rfl (lv_at hl 4 rfl) ?_
    obtain ⟨b36, hb36, h⟩ := h
    refine m_get hX hw cl10 hT34 0 (by decide) k_166 (fun _ h => h) (v := .ref b36) (congrArg va_rf hb36) dX10_passFrom_127 ?_
    refine lv_iload hx hb dX10_passFrom_130 (lv_at hl 1 rfl) ?_
    obtain ⟨hT39, h⟩ := h
    refine m_ci (m_runV (rest := [_, _, _]) hX hw (tX6_inHandFrom h) mtX6_inHandFrom k_681 ⟨k_682, k_683⟩ cl6 hT39 ⟨⟨rfl, rfl, Nat.le_of_ble_eq_true rfl, Nat.le_of_ble_eq_true rfl⟩, Nat.le_of_ble_eq_true rfl, Nat.le_of_ble_eq_true rfl⟩ rfl hl.1 rfl (Nat.le_of_ble_eq_true rfl) dX10_passFrom_132) hw (fun r37 σ38 H locs h hw => ?_)
    refine lv_i2l hx hb dX10_passFrom_135 rfl ?_
    refine lv_lmul hx hb dX10_passFrom_136 ?_
    refine lv_ladd hx hb dX10_passFrom_137 ?_
    obtain ⟨hT40, h⟩ := h
    refine m_putL hX hw cl10 hT40 7 (by decide) k_174 (fun _ h => h) rfl rfl dX10_passFrom_138 (fun H locs hw => ?_)
    let σ41 : Me := sL σ38 a0 7 ((gL σ35 a0 7) + (r15 * r37.toInt64))
    have h := h σ41 rfl
    have hw : wS D cA z0 s σ41 H locs := hw
    refine lv_aload_n hx hb dX10_passFrom_141 rfl (lv_at hl 4 rfl) ?_
    obtain ⟨b42, hb42, h⟩ := h
    refine m_get hX hw cl10 hT40 0 (by decide) k_166 (fun _ h => h) (v := .ref b42) (congrArg va_rf hb42) dX10_passFrom_142 ?_
    obtain ⟨hT43, h⟩ := h
    refine m_get hX hw cl6 hT43 1 (by decide) k_82 (fun _ h => h) (v := .int _) rfl dX10_passFrom_145 ?_
    refine lv_iconst (v := 2) hx hb dX10_passFrom_148 (by decide) ?_
    have kM45 : ∀ (v_44 : Int32) (ls : Array Slot), v_44 = (if (gI σ41 b42 1) = ((2 : Int32)) then x5_2 else (if (gI σ41 b42 1) = ((1 : Int32)) then r3 else ((0 : Int32)))) → lv_has ls 15 [(8, .long r15), (7, .int r11), (6, .int r3), (0, .ref a0), (2, .ref a2)] → W p l e rX10_passFrom s m args below meth c H locs 0 0 (MQ below (va_Qv Q (BM D cA z0) (AM z0)) args s 0 0 (AM z0)) (F0 m 174 ls [.int v_44]) := by
      intro v_44 ls e_v_44 hl
      have h := h v_44 e_v_44
      refine lv_istore (lv' := [(10, _), (8, _), (7, _), (6, _), (0, _), (2, _)]) hx hb dX10_passFrom_174 hl (by decide) rfl (fun ls hl => ?_)
      refine lv_aload_n hx hb dX10_passFrom_176 rfl (lv_at hl 4 rfl) ?_
      refine m_get hX hw cl10 hT40 0 (by decide) k_166 (fun _ h => h) (v := .ref b42) (congrArg va_rf hb42) dX10_passFrom_177 ?_
      refine m_get hX hw cl6 hT43 1 (by decide) k_82 (fun _ h => h) (v := .int _) rfl dX10_passFrom_180 ?_
      refine lv_iconst (v := 2) hx hb dX10_passFrom_183 (by decide) ?_
      have kM47 : ∀ (v_46 : Int32) (ls : Array Slot), v_46 = (if (gI σ41 b42 1) = ((2 : Int32)) then r3 else ((0 : Int32))) → lv_has ls 15 [(10, .int v_44), (8, .long r15), (7, .int r11), (0, .ref a0), (2, .ref a2)] → W p l e rX10_passFrom s m args below meth c H locs 0 0 (MQ below (va_Qv Q (BM D cA z0) (AM z0)) args s 0 0 (AM z0)) (F0 m 193 ls [.int v_46]) := by
        intro v_46 ls e_v_46 hl
        have h := h v_46 e_v_46
        refine lv_istore (lv' := [(11, _), (10, _), (8, _), (7, _), (0, _), (2, _)]) hx hb dX10_passFrom_193 hl (by decide) rfl (fun ls hl => ?_)
        refine lv_aload_n hx hb dX10_passFrom_195 rfl (lv_at hl 4 rfl) ?_
        refine m_get hX hw cl10 hT40 4 (by decide) k_170 (fun _ h => h) (v := .int _) rfl dX10_passFrom_196 ?_
        have kM49 : ∀ (v_48 : Int32) (ls : Array Slot), v_48 = (if (gI σ41 a0 4) = 0 then ((6 : Int32)) else (if ((6 : Int32)) < (if r11 < ((0 : Int32)) then ((0 : Int32)) else r11) then ((6 : Int32)) else (if r11 < ((0 : Int32)) then ((0 : Int32)) else r11))) → lv_has ls 15 [(11, .int v_46), (10, .int v_44), (8, .long r15), (7, .int r11), (0, .ref a0), (2, .ref a2)] → W p l e rX10_passFrom s m args below meth c H locs 0 0 (MQ below (va_Qv Q (BM D cA z0) (AM z0)) args s 0 0 (AM z0)) (F0 m 218 ls [.int v_48]) := by
          intro v_48 ls e_v_48 hl
          have h := h v_48 e_v_48
          refine lv_istore (lv' := [(12, _), (11, _), (10, _), (8, _), (7, _), (0, _), (2, _)]) hx hb dX10_passFrom_218 hl (by decide) rfl (fun ls hl => ?_)
          refine lv_iconst (v := 0) hx hb dX10_passFrom_220 (by decide) ?_
          refine lv_istore (lv' := [(13, _), (12, _), (11, _), (10, _), (8, _), (7, _), (0, _), (2, _)]) hx hb dX10_passFrom_221 hl (by decide) rfl (fun ls hl => ?_)
          obtain ⟨I223, hI223, n223, h⟩ := h
          have key223 : ∀ (n223 : Nat) (σ50 : Me) (x13_51 : Int32) (H : Heap) (locs : List Loc) (ls : Array Slot), I223 n223 σ50 x13_51 → wS D cA z0 s σ50 H locs → lv_has ls 15 [(0, .ref a0), (2, .ref a2), (7, .int r11), (8, .long r15), (10, .int v_44), (11, .int v_46), (12, .int v_48), (13, .int x13_51)] → W p l e rX10_passFrom s m args below meth c H locs 0 0 (MQ below (va_Qv Q (BM D cA z0) (AM z0)) args s 0 0 (AM z0)) (F0 m 223 ls []) := by
            intro n223
            induction n223 using Nat.strongRecOn with
            | _ n223 ih223 =>
              intro σ50 x13_51 H locs ls h hw hl
              have h := hI223 _ _ _ h
              refine lv_iload hx hb dX10_passFrom_223 (lv_at hl 7 rfl) ?_
              refine lv_iload hx hb dX10_passFrom_225 (lv_at hl 6 rfl) ?_
              refine lv_icmp_gt (tgt := 276) hx hb dX10_passFrom_227 (by decide) (fun hc53 => ?_) (fun hc53 => ?_)
              · have h := h.1 hc53
                exact m_vret hX hlk hr hw h dX10_passFrom_276
              · have h := h.2 hc53
                refine lv_aload_n hx hb dX10_passFrom_230 rfl (lv_at hl 0 rfl) ?_
                obtain ⟨hT54, h⟩ := h
                obtain ⟨b55, hb55, h⟩ := h
                refine m_get hX hw cl10 hT54 0 (by decide) k_166 (fun _ h => h) (v := .ref b55) (congrArg va_rf hb55) dX10_passFrom_231 ?_
                refine lv_iload hx hb dX10_passFrom_234 (lv_at hl 2 rfl) ?_
                refine lv_iload hx hb dX10_passFrom_236 (lv_at hl 7 rfl) ?_
                obtain ⟨hT58, h⟩ := h
                refine m_ci (m_runV (rest := []) hX hw (tX6_leftOf h) mtX6_leftOf k_687 ⟨k_599, k_600⟩ cl6 hT58 ⟨⟨rfl, rfl, Nat.le_of_ble_eq_true rfl, Nat.le_of_ble_eq_true rfl⟩, Nat.le_of_ble_eq_true rfl, Nat.le_of_ble_eq_true rfl⟩ rfl hl.1 rfl (Nat.le_of_ble_eq_true rfl) dX10_passFrom_238) hw (fun r56 σ57 H locs h hw => ?_)
                refine lv_istore (lv' := [(14, _), (0, _), (2, _), (7, _), (8, _), (10, _), (11, _), (12, _), (13, _)]) hx hb dX10_passFrom_241 hl (by decide) rfl (fun ls hl => ?_)
                refine lv_aload_n hx hb dX10_passFrom_243 rfl (lv_at hl 1 rfl) ?_
                obtain ⟨hT59, h⟩ := h
                obtain ⟨b60, hb60, h⟩ := h
                refine m_get hX hw cl10 hT59 1 (by decide) k_167 (fun _ h => h) (v := .ref b60) (congrArg va_rf hb60) dX10_passFrom_244 ?_
                refine lv_iload hx hb dX10_passFrom_247 (lv_at hl 0 rfl) ?_
                refine lv_iload hx hb dX10_passFrom_249 (lv_at hl 5 rfl) ?_
                refine lv_iadd hx hb dX10_passFrom_251 ?_
                refine lv_iload hx hb dX10_passFrom_252 (lv_at hl 6 rfl) ?_
                refine m_ci (m_runS (rest := [_]) hX hw (tX10_placeOf h) mtX10_placeOf k_617 k_618 ⟨⟨rfl, rfl, Nat.le_of_ble_eq_true rfl, Nat.le_of_ble_eq_true rfl⟩, Nat.le_of_ble_eq_true rfl, Nat.le_of_ble_eq_true rfl⟩ rfl hl.1 rfl (Nat.le_of_ble_eq_true rfl) dX10_passFrom_254) hw (fun r61 σ62 H locs h hw => ?_)
                refine lv_lload hx hb dX10_passFrom_257 (lv_at hl 4 rfl) ?_
                refine lv_aload_n hx hb dX10_passFrom_259 rfl (lv_at hl 2 rfl) ?_
                refine lv_iload hx hb dX10_passFrom_260 (lv_at hl 8 rfl) ?_
                obtain ⟨hT65, h⟩ := h
                refine m_ci (m_runV (rest := [_, _, _]) hX hw (tX1_weightOf h) mtX1_weightOf k_688 ⟨k_589, k_590⟩ cl1 hT65 ⟨⟨rfl, rfl, Nat.le_of_ble_eq_true rfl, Nat.le_of_ble_eq_true rfl⟩, Nat.le_of_ble_eq_true rfl, Nat.le_of_ble_eq_true rfl⟩ rfl hl.1 rfl (Nat.le_of_ble_eq_true rfl) dX10_passFrom_262) hw (fun r63 σ64 H locs h hw => ?_)
                refine lv_i2l hx hb dX10_passFrom_265 rfl ?_
                refine lv_lmul hx hb dX10_passFrom_266 ?_
                obtain ⟨hT68, h⟩ := h
                refine m_cv (m_runV (rest := []) hX hw (tX8_add h) mtX8_add k_689 ⟨k_625, k_626⟩ cl8 hT68 ⟨⟨rfl, rfl, Nat.le_of_ble_eq_true rfl, Nat.le_of_ble_eq_true rfl⟩, Nat.le_of_ble_eq_true rfl, Nat.le_of_ble_eq_true rfl⟩ rfl hl.1 rfl (Nat.le_of_ble_eq_true rfl) dX10_passFrom_267) hw (fun σ67 H locs h hw => ?_)
                obtain ⟨x13_69, e_x13_69⟩ : ∃ y : Int32, y = x13_51 + 1 := ⟨_, rfl⟩
                have h := h x13_69 e_x13_69
                refine lv_iinc (v := x13_69) (lv' := [(13, _), (14, _), (0, _), (2, _), (7, _), (8, _), (10, _), (11, _), (12, _)]) hx hb dX10_passFrom_270 hl (k := 8) rfl (by rw [e_x13_69]; rfl) (by decide) rfl (fun ls hl => ?_)
                refine lv_goto (tgt := 223) hx hb dX10_passFrom_273 (by decide) ?_
                obtain ⟨m223, hm223, h⟩ := h
                exact ih223 m223 hm223 _ _ _ _ _ h hw (lv_sub hl [2, 3, 4, 5, 6, 7, 8, 0] rfl)
          exact key223 _ _ _ _ _ _ h hw (lv_sub hl [6, 7, 5, 4, 3, 2, 1, 0] rfl)
        refine lv_if_eq (tgt := 216) hx hb dX10_passFrom_199 (by decide) (fun hc70 => ?_) (fun hc70 => ?_)
        · refine lv_bipush (v := 6) hx hb dX10_passFrom_216 (by decide) ?_
          exact kM49 _ _ (by first | rfl | rw [if_pos hc70] | simp only [if_pos hc70]) (lv_sub hl [0, 1, 2, 3, 4, 5] rfl)
        · refine lv_iload hx hb dX10_passFrom_202 (lv_at hl 3 rfl) ?_
          refine lv_iconst (v := 0) hx hb dX10_passFrom_204 (by decide) ?_
          refine m_max hX k_685 hl.1 (Nat.le_of_ble_eq_true rfl) (Nat.le_of_ble_eq_true rfl) ⟨Nat.le_of_ble_eq_true rfl, Nat.le_of_ble_eq_true rfl⟩ dX10_passFrom_205 ?_
          refine lv_bipush (v := 6) hx hb dX10_passFrom_208 (by decide) ?_
          refine m_min hX k_686 hl.1 (Nat.le_of_ble_eq_true rfl) (Nat.le_of_ble_eq_true rfl) ⟨Nat.le_of_ble_eq_true rfl, Nat.le_of_ble_eq_true rfl⟩ dX10_passFrom_210 ?_
          refine lv_goto (tgt := 218) hx hb dX10_passFrom_213 (by decide) ?_
          exact kM49 _ _ (by first | rfl | rw [if_neg hc70] | simp only [if_neg hc70]) (lv_sub hl [0, 1, 2, 3, 4, 5] rfl)
      refine lv_icmp_ne (tgt := 192) hx hb dX10_passFrom_184 (by decide) (fun hc71 => ?_) (fun hc71 => ?_)
      · refine lv_iconst (v := 0) hx hb dX10_passFrom_192 (by decide) ?_
        exact kM47 _ _ (by first | rfl | rw [if_neg hc71] | simp only [if_neg hc71]) (lv_sub hl [0, 1, 2, 4, 5] rfl)
      · refine lv_iload hx hb dX10_passFrom_187 (lv_at hl 3 rfl) ?_
        refine lv_goto (tgt := 193) hx hb dX10_passFrom_189 (by decide) ?_
        exact kM47 _ _ (by first | rfl | rw [if_pos hc71] | simp only [if_pos hc71]) (lv_sub hl [0, 1, 2, 4, 5] rfl)
    refine lv_icmp_ne (tgt := 157) hx hb dX10_passFrom_149 (by decide) (fun hc72 => ?_) (fun hc72 => ?_)
    · refine lv_aload_n hx hb dX10_passFrom_157 rfl (lv_at hl 4 rfl) ?_
      refine m_get hX hw cl10 hT40 0 (by decide) k_166 (fun _ h => h) (v := .ref b42) (congrArg va_rf hb42) dX10_passFrom_158 ?_
      refine m_get hX hw cl6 hT43 1 (by decide) k_82 (fun _ h => h) (v := .int _) rfl dX10_passFrom_161 ?_
      refine lv_iconst (v := 1) hx hb dX10_passFrom_164 (by decide) ?_
      refine lv_icmp_ne (tgt := 173) hx hb dX10_passFrom_165 (by decide) (fun hc73 => ?_) (fun hc73 => ?_)
      · refine lv_iconst (v := 0) hx hb dX10_passFrom_173 (by decide) ?_
        exact kM45 _ _ (by first | rfl | rw [if_neg hc72, if_neg hc73] | simp only [if_neg hc72, if_neg hc73]) (lv_sub hl [0, 1, 2, 4, 6] rfl)
      · refine lv_iload hx hb dX10_passFrom_168 (lv_at hl 2 rfl) ?_
        refine lv_goto (tgt := 174) hx hb dX10_passFrom_170 (by decide) ?_
        exact kM45 _ _ (by first | rfl | rw [if_neg hc72, if_pos hc73] | simp only [if_neg hc72, if_pos hc73]) (lv_sub hl [0, 1, 2, 4, 6] rfl)
    · refine lv_iload hx hb dX10_passFrom_152 (lv_at hl 3 rfl) ?_
      refine lv_goto (tgt := 174) hx hb dX10_passFrom_154 (by decide) ?_
      exact kM45 _ _ (by first | rfl | rw [if_pos hc72] | simp only [if_pos hc72]) (lv_sub hl [0, 1, 2, 4, 6] rfl)
  refine lv_if_ne (tgt := 47) hx hb dX10_passFrom_39 (by decide) (fun hc74 => ?_) (fun hc74 => ?_)
  · refine lv_iconst (v := 0) hx hb dX10_passFrom_47 (by decide) ?_
    exact kM10 _ _ (by first | rfl | rw [if_neg hc74] | simp only [if_neg hc74]) (lv_sub hl [0, 1, 3, 4, 5, 6] rfl)
  · refine lv_iload hx hb dX10_passFrom_42 (lv_at hl 0 rfl) ?_
    refine lv_goto (tgt := 48) hx hb dX10_passFrom_44 (by decide) ?_
    exact kM10 _ _ (by first | rfl | rw [if_pos hc74] | simp only [if_pos hc74]) (lv_sub hl [0, 1, 3, 4, 5, 6] rfl)
theorem mtX10_passFrom : Mth yX10_passFrom cX10_passFrom 15 none 3 := ⟨k_652, k_47, by decide +kernel⟩
theorem tX10_passFrom {l : Launch} {D : va_G} {cA : Nat → ClassId} {z0 : Nat} {σ : Me} {a0 : Nat} {x1 : Int32} {a2 : Nat} {x3 : Int32} {Q : Me → Prop} (h : pX10_passFrom σ a0 x1 a2 x3 Q) : Met l yX10_passFrom (Cond.code yX10_passFrom cX10_passFrom 15 none :: gTab) rX10_passFrom (PcM D cA z0 σ [.ref a0, .int x1, .ref a2, .int x3]) (va_Qv Q (BM D cA z0) (AM z0)) 0 0 (AM z0) :=
  met_of (by decide) (Nat.le_of_ble_eq_true rfl) (fun hX hlk hr hn hw hl => wX10_passFrom hX hlk hr h hw hl)
