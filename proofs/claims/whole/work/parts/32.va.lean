abbrev rX11_tellOf : Room := { frames := 3, cells := 0, slots := 0, locals := 100 }
def pX11_tellOf (σ : Me) (a0 : Nat) (x1 : Int32) (Q : Int32 → Me → Prop) : Prop := (x1 = 0 → vkindNumber σ a0 (fun r2 σ3 => Q r2 σ3)) ∧ (x1 = 1 → vtopMark σ a0 (fun r4 σ5 => Q r4 σ5)) ∧ (x1 = 2 → vlowMark σ a0 (fun r6 σ7 => Q r6 σ7)) ∧ (x1 = 3 → vlotSize σ a0 (fun r8 σ9 => Q r8 σ9)) ∧ (¬ x1 = 0 → ¬ x1 = 1 → ¬ x1 = 2 → ¬ x1 = 3 → vtableSize σ a0 (fun r10 σ11 => Q r10 σ11))
set_option maxHeartbeats 4000000 in
set_option maxRecDepth 100000 in
theorem wX11_tellOf {p : Program} {l : Launch} {e : Env} {s : State} {m : MethodId} {args : Array Value} {below : List Frame} {meth : Method} {c : Code} {D : va_G} {cA : Nat → ClassId} {z0 : Nat} (hX : Cx p m c cX11_tellOf 2 s args RX11 D cA) (hlk : meth.locks = false) (hr : meth.sig.returnType = (some .int)) {σ : Me} {a0 : Nat} {x1 : Int32} {Q : Int32 → Me → Prop} (h : pX11_tellOf σ a0 x1 Q) {H : Heap} {locs : List Loc} {ls : Array Slot} (hw : wS D cA z0 s σ H locs) (hl : lv_has ls 2 [(0, .ref a0), (1, .int x1)]) : W p l e rX11_tellOf s m args below meth c H locs 0 0 (MQ below (va_Qi Q (BM D cA z0) (AM z0)) args s 0 0 (AM z0)) (F0 m 0 ls []) := by
  have hx := hX.1.1
  have hb := hX.1.2.1
  have hown := hX.1.2.2.2.1
  have hts := hX.1.2.2.2.2
  unfold pX11_tellOf at h
  refine lv_iload_n hx hb dX11_tellOf_0 rfl (lv_at hl 1 rfl) ?_
  by_cases hs1_0 : x1 = 0
  · refine lv_tableIn (off := 31) (tgt := 32) hx hb dX11_tellOf_1 (by rw [hs1_0]; decide) (by rw [hs1_0]; decide) (by rw [hs1_0]; rfl) (by decide) ?_
    have h := h.1 hs1_0
    refine lv_aload_n hx hb dX11_tellOf_32 rfl (lv_at hl 0 rfl) ?_
    refine m_v_kindNumber hX hw h k_464 hl.1 rfl (rest := []) (Nat.le_of_ble_eq_true rfl) dX11_tellOf_33 ⟨Nat.le_of_ble_eq_true rfl, Nat.le_of_ble_eq_true rfl, Nat.le_of_ble_eq_true rfl, Nat.le_of_ble_eq_true rfl⟩ (fun r2 σ3 H locs h hw => ?_)
    exact m_iret hX hlk hr hw h dX11_tellOf_36
  by_cases hs1_1 : x1 = 1
  · refine lv_tableIn (off := 36) (tgt := 37) hx hb dX11_tellOf_1 (by rw [hs1_1]; decide) (by rw [hs1_1]; decide) (by rw [hs1_1]; rfl) (by decide) ?_
    have h := h.2.1 hs1_1
    refine lv_aload_n hx hb dX11_tellOf_37 rfl (lv_at hl 0 rfl) ?_
    refine m_v_topMark hX hw h k_479 hl.1 rfl (rest := []) (Nat.le_of_ble_eq_true rfl) dX11_tellOf_38 ⟨Nat.le_of_ble_eq_true rfl, Nat.le_of_ble_eq_true rfl, Nat.le_of_ble_eq_true rfl, Nat.le_of_ble_eq_true rfl⟩ (fun r4 σ5 H locs h hw => ?_)
    exact m_iret hX hlk hr hw h dX11_tellOf_41
  by_cases hs1_2 : x1 = 2
  · refine lv_tableIn (off := 41) (tgt := 42) hx hb dX11_tellOf_1 (by rw [hs1_2]; decide) (by rw [hs1_2]; decide) (by rw [hs1_2]; rfl) (by decide) ?_
    have h := h.2.2.1 hs1_2
    refine lv_aload_n hx hb dX11_tellOf_42 rfl (lv_at hl 0 rfl) ?_
    refine m_v_lowMark hX hw h k_489 hl.1 rfl (rest := []) (Nat.le_of_ble_eq_true rfl) dX11_tellOf_43 ⟨Nat.le_of_ble_eq_true rfl, Nat.le_of_ble_eq_true rfl, Nat.le_of_ble_eq_true rfl, Nat.le_of_ble_eq_true rfl⟩ (fun r6 σ7 H locs h hw => ?_)
    exact m_iret hX hlk hr hw h dX11_tellOf_46
  by_cases hs1_3 : x1 = 3
  · refine lv_tableIn (off := 46) (tgt := 47) hx hb dX11_tellOf_1 (by rw [hs1_3]; decide) (by rw [hs1_3]; decide) (by rw [hs1_3]; rfl) (by decide) ?_
    have h := h.2.2.2.1 hs1_3
    refine lv_aload_n hx hb dX11_tellOf_47 rfl (lv_at hl 0 rfl) ?_
    refine m_v_lotSize hX hw h k_501 hl.1 rfl (rest := []) (Nat.le_of_ble_eq_true rfl) dX11_tellOf_48 ⟨Nat.le_of_ble_eq_true rfl, Nat.le_of_ble_eq_true rfl, Nat.le_of_ble_eq_true rfl, Nat.le_of_ble_eq_true rfl⟩ (fun r8 σ9 H locs h hw => ?_)
    exact m_iret hX hlk hr hw h dX11_tellOf_51
  refine lv_tableOut (tgt := 52) hx hb dX11_tellOf_1 (by have q0 := lv_neT hs1_0 (show (0 : Int32).toInt = 0 by decide); have q1 := lv_neT hs1_1 (show (1 : Int32).toInt = 1 by decide); have q2 := lv_neT hs1_2 (show (2 : Int32).toInt = 2 by decide); have q3 := lv_neT hs1_3 (show (3 : Int32).toInt = 3 by decide); omega) (by decide) ?_
  have h := h.2.2.2.2 hs1_0 hs1_1 hs1_2 hs1_3
  refine lv_aload_n hx hb dX11_tellOf_52 rfl (lv_at hl 0 rfl) ?_
  refine m_v_tableSize hX hw h k_511 hl.1 rfl (rest := []) (Nat.le_of_ble_eq_true rfl) dX11_tellOf_53 ⟨Nat.le_of_ble_eq_true rfl, Nat.le_of_ble_eq_true rfl, Nat.le_of_ble_eq_true rfl, Nat.le_of_ble_eq_true rfl⟩ (fun r10 σ11 H locs h hw => ?_)
  exact m_iret hX hlk hr hw h dX11_tellOf_56
theorem mtX11_tellOf : Mth yX11_tellOf cX11_tellOf 2 (some .int) 2 := ⟨k_463, k_43, by decide +kernel⟩
theorem tX11_tellOf {l : Launch} {D : va_G} {cA : Nat → ClassId} {z0 : Nat} {σ : Me} {a0 : Nat} {x1 : Int32} {Q : Int32 → Me → Prop} (h : pX11_tellOf σ a0 x1 Q) : Met l yX11_tellOf (Cond.code yX11_tellOf cX11_tellOf 2 (some .int) :: gTab) rX11_tellOf (PcM D cA z0 σ [.ref a0, .int x1]) (va_Qi Q (BM D cA z0) (AM z0)) 0 0 (AM z0) :=
  met_of (by decide) (Nat.le_of_ble_eq_true rfl) (fun hX hlk hr hn hw hl => wX11_tellOf hX hlk hr h hw hl)
abbrev rX11_digestRules : Room := { frames := 4, cells := 0, slots := 0, locals := 121 }
def pX11_digestRules (σ : Me) (a0 : Nat) (y1 : Int64) (Q : Int64 → Me → Prop) : Prop := ∃ I5 : Nat → Me → Int64 → Int32 → Prop, (∀ (n5 : Nat) (σ1 : Me) (x3_2 : Int64) (x5_3 : Int32), I5 n5 σ1 x3_2 x5_3 → gT σ1 a0 = 11 ∧ ((gI σ1 a0 4) ≤ x5_3 → Q x3_2 σ1) ∧ (¬ (gI σ1 a0 4) ≤ x5_3 → ∃ b6 : Nat, gP σ1 a0 3 = some b6 ∧ gT σ1 b6 = 25 ∧ ((nI (gN σ1 b6)) ≤ x5_3 → Q x3_2 σ1) ∧ (¬ (nI (gN σ1 b6)) ≤ x5_3 → vp_in x5_3 (gN σ1 b6) ∧ (gP σ1 b6 x5_3.toNatClampNeg = none → ∀ x3_11 : Int64, x3_11 = ((((31 : Int64)) * x3_2) - ((1 : Int64))) → ∀ x5_12 : Int32, x5_12 = x5_3 + 1 → ∃ m5 : Nat, m5 < n5 ∧ I5 m5 σ1 x3_11 x5_12) ∧ (∀ b10 : Nat, gP σ1 b6 x5_3.toNatClampNeg = some b10 → ∃ I48 : Nat → Me → Int64 → Int32 → Prop, (∀ (n48 : Nat) (σ13 : Me) (x3_14 : Int64) (x6_15 : Int32), I48 n48 σ13 x3_14 x6_15 → (((4 : Int32)) < x6_15 → ∀ x5_18 : Int32, x5_18 = x5_3 + 1 → ∃ m5 : Nat, m5 < n5 ∧ I5 m5 σ13 x3_14 x5_18) ∧ (¬ ((4 : Int32)) < x6_15 → gT σ13 a0 = 11 ∧ ∃ b20 : Nat, gP σ13 a0 3 = some b20 ∧ gT σ13 b20 = 25 ∧ vp_in x5_3 (gN σ13 b20) ∧ ∃ b23 : Nat, gP σ13 b20 x5_3.toNatClampNeg = some b23 ∧ pX11_tellOf σ13 b23 x6_15 (fun r24 σ25 => ∀ x3_26 : Int64, x3_26 = ((((31 : Int64)) * x3_14) + r24.toInt64) → ∀ x6_27 : Int32, x6_27 = x6_15 + 1 → ∃ m48 : Nat, m48 < n48 ∧ I48 m48 σ25 x3_26 x6_27))) ∧ ∃ n48 : Nat, I48 n48 σ1 x3_2 ((0 : Int32)))))) ∧ ∃ n5 : Nat, I5 n5 σ y1 ((0 : Int32))
set_option maxHeartbeats 4000000 in
set_option maxRecDepth 100000 in
theorem wX11_digestRules {p : Program} {l : Launch} {e : Env} {s : State} {m : MethodId} {args : Array Value} {below : List Frame} {meth : Method} {c : Code} {D : va_G} {cA : Nat → ClassId} {z0 : Nat} (hX : Cx p m c cX11_digestRules 7 s args RX11 D cA) (hlk : meth.locks = false) (hr : meth.sig.returnType = (some .long)) {σ : Me} {a0 : Nat} {y1 : Int64} {Q : Int64 → Me → Prop} (h : pX11_digestRules σ a0 y1 Q) {H : Heap} {locs : List Loc} {ls : Array Slot} (hw : wS D cA z0 s σ H locs) (hl : lv_has ls 7 [(0, .ref a0), (1, .long y1)]) : W p l e rX11_digestRules s m args below meth c H locs 0 0 (MQ below (va_Ql Q (BM D cA z0) (AM z0)) args s 0 0 (AM z0)) (F0 m 0 ls []) := by
  have hx := hX.1.1
  have hb := hX.1.2.1
  have hown := hX.1.2.2.2.1
  have hts := hX.1.2.2.2.2
  unfold pX11_digestRules at h
  refine lv_lload_n hx hb dX11_digestRules_0 rfl (lv_at hl 1 rfl) ?_
  refine lv_lstore_n (lv' := [(3, _), (0, _), (1, _)]) hx hb dX11_digestRules_1 rfl hl (by decide) rfl (fun ls hl => ?_)
  refine lv_iconst (v := 0) hx hb dX11_digestRules_2 (by decide) ?_
  refine lv_istore (lv' := [(5, _), (3, _), (0, _), (1, _)]) hx hb dX11_digestRules_3 hl (by decide) rfl (fun ls hl => ?_)
  obtain ⟨I5, hI5, n5, h⟩ := h
  have key5 : ∀ (n5 : Nat) (σ1 : Me) (x3_2 : Int64) (x5_3 : Int32) (H : Heap) (locs : List Loc) (ls : Array Slot), I5 n5 σ1 x3_2 x5_3 → wS D cA z0 s σ1 H locs → lv_has ls 7 [(0, .ref a0), (3, .long x3_2), (5, .int x5_3)] → W p l e rX11_digestRules s m args below meth c H locs 0 0 (MQ below (va_Ql Q (BM D cA z0) (AM z0)) args s 0 0 (AM z0)) (F0 m 5 ls []) := by
    intro n5
    induction n5 using Nat.strongRecOn with
    | _ n5 ih5 =>
      intro σ1 x3_2 x5_3 H locs ls h hw hl
      have h := hI5 _ _ _ _ h
      refine lv_iload hx hb dX11_digestRules_5 (lv_at hl 2 rfl) ?_
      refine lv_aload_n hx hb dX11_digestRules_7 rfl (lv_at hl 0 rfl) ?_
      obtain ⟨hT4, h⟩ := h
      refine m_get hX hw cl11 hT4 4 (by decide) k_253 (fun _ h => h) (v := .int _) rfl dX11_digestRules_8 ?_
      refine lv_icmp_ge (tgt := 86) hx hb dX11_digestRules_11 (by decide) (fun hc5 => ?_) (fun hc5 => ?_)
      · have h := h.1 hc5
        refine lv_lload_n hx hb dX11_digestRules_86 rfl (lv_at hl 1 rfl) ?_
        exact m_lret hX hlk hr hw h dX11_digestRules_87
      · have h := h.2 hc5
        refine lv_iload hx hb dX11_digestRules_14 (lv_at hl 2 rfl) ?_
        refine lv_aload_n hx hb dX11_digestRules_16 rfl (lv_at hl 0 rfl) ?_
        obtain ⟨b6, hb6, h⟩ := h
        refine m_get hX hw cl11 hT4 3 (by decide) k_252 (fun _ h => h) (v := .ref b6) (congrArg va_rf hb6) dX11_digestRules_17 ?_
        obtain ⟨hT7, h⟩ := h
        refine m_alen hX hw (t := 5) (by decide) hT7 dX11_digestRules_20 ?_
        refine lv_icmp_ge (tgt := 86) hx hb dX11_digestRules_21 (by decide) (fun hc8 => ?_) (fun hc8 => ?_)
        · have h := h.1 hc8
          refine lv_lload_n hx hb dX11_digestRules_86 rfl (lv_at hl 1 rfl) ?_
          exact m_lret hX hlk hr hw h dX11_digestRules_87
        · have h := h.2 hc8
          refine lv_aload_n hx hb dX11_digestRules_24 rfl (lv_at hl 0 rfl) ?_
          refine m_get hX hw cl11 hT4 3 (by decide) k_252 (fun _ h => h) (v := .ref b6) (congrArg va_rf hb6) dX11_digestRules_25 ?_
          refine lv_iload hx hb dX11_digestRules_28 (lv_at hl 2 rfl) ?_
          obtain ⟨hc9, h⟩ := h
          refine m_aald hX hw (t := 5) (by decide) hT7 hc9 dX11_digestRules_30 ?_
          refine m_ifnonnull (tgt := 45) hX dX11_digestRules_31 (by decide) (fun b10 hb10 => ?_) (fun hn => ?_)
          · have h := h.2 b10 hb10
            refine lv_iconst (v := 0) hx hb dX11_digestRules_45 (by decide) ?_
            refine lv_istore (lv' := [(6, _), (0, _), (3, _), (5, _)]) hx hb dX11_digestRules_46 hl (by decide) rfl (fun ls hl => ?_)
            obtain ⟨I48, hI48, n48, h⟩ := h
            have key48 : ∀ (n48 : Nat) (σ13 : Me) (x3_14 : Int64) (x6_15 : Int32) (H : Heap) (locs : List Loc) (ls : Array Slot), I48 n48 σ13 x3_14 x6_15 → wS D cA z0 s σ13 H locs → lv_has ls 7 [(0, .ref a0), (3, .long x3_14), (5, .int x5_3), (6, .int x6_15)] → W p l e rX11_digestRules s m args below meth c H locs 0 0 (MQ below (va_Ql Q (BM D cA z0) (AM z0)) args s 0 0 (AM z0)) (F0 m 48 ls []) := by
              intro n48
              induction n48 using Nat.strongRecOn with
              | _ n48 ih48 =>
                intro σ13 x3_14 x6_15 H locs ls h hw hl
                have h := hI48 _ _ _ _ h
                refine lv_iload hx hb dX11_digestRules_48 (lv_at hl 3 rfl) ?_
                refine lv_iconst (v := 4) hx hb dX11_digestRules_50 (by decide) ?_
                refine lv_icmp_gt (tgt := 80) hx hb dX11_digestRules_51 (by decide) (fun hc17 => ?_) (fun hc17 => ?_)
                · have h := h.1 hc17
                  obtain ⟨x5_18, e_x5_18⟩ : ∃ y : Int32, y = x5_3 + 1 := ⟨_, rfl⟩
                  have h := h x5_18 e_x5_18
                  refine lv_iinc (v := x5_18) (lv' := [(5, _), (0, _), (3, _), (6, _)]) hx hb dX11_digestRules_80 hl (k := 2) rfl (by rw [e_x5_18]; rfl) (by decide) rfl (fun ls hl => ?_)
                  refine lv_goto (tgt := 5) hx hb dX11_digestRules_83 (by decide) ?_
                  obtain ⟨m5, hm5, h⟩ := h
                  exact ih5 m5 hm5 _ _ _ _ _ _ h hw (lv_sub hl [1, 2, 0] rfl)
                · have h := h.2 hc17
                  refine lv_ldc2 hx hb hown (hts _ k_854) dX11_digestRules_54 ?_
                  refine lv_lload_n hx hb dX11_digestRules_57 rfl (lv_at hl 1 rfl) ?_
                  refine lv_lmul hx hb dX11_digestRules_58 ?_
                  refine lv_aload_n hx hb dX11_digestRules_59 rfl (lv_at hl 0 rfl) ?_
                  obtain ⟨hT19, h⟩ := h
                  obtain ⟨b20, hb20, h⟩ := h
                  refine m_get hX hw cl11 hT19 3 (by decide) k_252 (fun _ h => h) (v := .ref b20) (congrArg va_rf hb20) dX11_digestRules_60 ?_
                  refine lv_iload hx hb dX11_digestRules_63 (lv_at hl 2 rfl) ?_
                  obtain ⟨hT21, h⟩ := h
                  obtain ⟨hc22, h⟩ := h
                  refine m_aald hX hw (t := 5) (by decide) hT21 hc22 dX11_digestRules_65 ?_
                  obtain ⟨b23, hb23, h⟩ := h
                  rw [hb23]
                  refine W.eq (g2 := F0 _ _ _ (.ref b23 :: _)) rfl ?_
                  refine lv_iload hx hb dX11_digestRules_66 (lv_at hl 3 rfl) ?_
                  refine m_ci (m_runS (rest := [_]) hX hw (tX11_tellOf h) mtX11_tellOf k_461 k_462 ⟨⟨rfl, rfl, Nat.le_of_ble_eq_true rfl, Nat.le_of_ble_eq_true rfl⟩, Nat.le_of_ble_eq_true rfl, Nat.le_of_ble_eq_true rfl⟩ rfl hl.1 rfl (Nat.le_of_ble_eq_true rfl) dX11_digestRules_68) hw (fun r24 σ25 H locs h hw => ?_)
                  refine lv_i2l hx hb dX11_digestRules_71 rfl ?_
                  refine lv_ladd hx hb dX11_digestRules_72 ?_
                  refine lv_topl (fun x3_26 e_x3_26 => ?_)
                  have h := h x3_26 e_x3_26
                  refine lv_lstore_n (lv' := [(3, _), (0, _), (5, _), (6, _)]) hx hb dX11_digestRules_73 rfl hl (by decide) rfl (fun ls hl => ?_)
                  obtain ⟨x6_27, e_x6_27⟩ : ∃ y : Int32, y = x6_15 + 1 := ⟨_, rfl⟩
                  have h := h x6_27 e_x6_27
                  refine lv_iinc (v := x6_27) (lv' := [(6, _), (3, _), (0, _), (5, _)]) hx hb dX11_digestRules_74 hl (k := 3) rfl (by rw [e_x6_27]; rfl) (by decide) rfl (fun ls hl => ?_)
                  refine lv_goto (tgt := 48) hx hb dX11_digestRules_77 (by decide) ?_
                  obtain ⟨m48, hm48, h⟩ := h
                  exact ih48 m48 hm48 _ _ _ _ _ _ h hw (lv_sub hl [2, 1, 3, 0] rfl)
            exact key48 _ _ _ _ _ _ _ h hw (lv_sub hl [1, 2, 3, 0] rfl)
          · have h := h.1 hn
            refine lv_ldc2 hx hb hown (hts _ k_854) dX11_digestRules_34 ?_
            refine lv_lload_n hx hb dX11_digestRules_37 rfl (lv_at hl 1 rfl) ?_
            refine lv_lmul hx hb dX11_digestRules_38 ?_
            refine lv_lconst (v := 1) hx hb dX11_digestRules_39 (by decide) ?_
            refine lv_lsub hx hb dX11_digestRules_40 ?_
            refine lv_topl (fun x3_11 e_x3_11 => ?_)
            have h := h x3_11 e_x3_11
            refine lv_lstore_n (lv' := [(3, _), (0, _), (5, _)]) hx hb dX11_digestRules_41 rfl hl (by decide) rfl (fun ls hl => ?_)
            refine lv_goto (tgt := 80) hx hb dX11_digestRules_42 (by decide) ?_
            obtain ⟨x5_12, e_x5_12⟩ : ∃ y : Int32, y = x5_3 + 1 := ⟨_, rfl⟩
            have h := h x5_12 e_x5_12
            refine lv_iinc (v := x5_12) (lv' := [(5, _), (3, _), (0, _)]) hx hb dX11_digestRules_80 hl (k := 2) rfl (by rw [e_x5_12]; rfl) (by decide) rfl (fun ls hl => ?_)
            refine lv_goto (tgt := 5) hx hb dX11_digestRules_83 (by decide) ?_
            obtain ⟨m5, hm5, h⟩ := h
            exact ih5 m5 hm5 _ _ _ _ _ _ h hw (lv_sub hl [2, 1, 0] rfl)
  exact key5 _ _ _ _ _ _ _ h hw (lv_sub hl [2, 1, 0] rfl)
theorem mtX11_digestRules : Mth yX11_digestRules cX11_digestRules 7 (some .long) 1 := ⟨k_863, k_43, by decide +kernel⟩
theorem tX11_digestRules {l : Launch} {D : va_G} {cA : Nat → ClassId} {z0 : Nat} {σ : Me} {a0 : Nat} {y1 : Int64} {Q : Int64 → Me → Prop} (h : pX11_digestRules σ a0 y1 Q) : Met l yX11_digestRules (Cond.code yX11_digestRules cX11_digestRules 7 (some .long) :: gTab) rX11_digestRules (PcM D cA z0 σ [.ref a0, .long y1]) (va_Ql Q (BM D cA z0) (AM z0)) 0 0 (AM z0) :=
  met_of (by decide) (Nat.le_of_ble_eq_true rfl) (fun hX hlk hr hn hw hl => wX11_digestRules hX hlk hr h hw hl)
abbrev rX10_useRule : Room := { frames := 3, cells := 0, slots := 0, locals := 100 }
def pX10_useRule (σ : Me) (a0 : Nat) (a1 : Nat) (Q : Me → Prop) : Prop := ∃ I2 : Nat → Me → Int32 → Prop, (∀ (n2 : Nat) (σ1 : Me) (x2_2 : Int32), I2 n2 σ1 x2_2 → gT σ1 a0 = 10 ∧ ∃ b4 : Nat, gP σ1 a0 2 = some b4 ∧ gT σ1 b4 = 20 ∧ ((nI (gN σ1 b4)) ≤ x2_2 → Q σ1) ∧ (¬ (nI (gN σ1 b4)) ≤ x2_2 → vwants σ1 a1 (x2_2 + ((-12 : Int32))) (fun r7 σ8 => pX11_cutOrder σ8 r7 (fun r9 σ10 => gT σ10 b4 = 20 ∧ vp_in x2_2 (gN σ10 b4) ∧ ∀ σ13 : Me, σ13 = sI σ10 b4 x2_2.toNatClampNeg r9 → ∀ x2_14 : Int32, x2_14 = x2_2 + 1 → ∃ m2 : Nat, m2 < n2 ∧ I2 m2 σ13 x2_14)))) ∧ ∃ n2 : Nat, I2 n2 σ ((0 : Int32))
set_option maxHeartbeats 4000000 in
set_option maxRecDepth 100000 in
theorem wX10_useRule {p : Program} {l : Launch} {e : Env} {s : State} {m : MethodId} {args : Array Value} {below : List Frame} {meth : Method} {c : Code} {D : va_G} {cA : Nat → ClassId} {z0 : Nat} (hX : Cx p m c cX10_useRule 3 s args RX10 D cA) (hlk : meth.locks = false) (hr : meth.sig.returnType = none) {σ : Me} {a0 : Nat} {a1 : Nat} {Q : Me → Prop} (h : pX10_useRule σ a0 a1 Q) {H : Heap} {locs : List Loc} {ls : Array Slot} (hw : wS D cA z0 s σ H locs) (hl : lv_has ls 3 [(0, .ref a0), (1, .ref a1)]) : W p l e rX10_useRule s m args below meth c H locs 0 0 (MQ below (va_Qv Q (BM D cA z0) (AM z0)) args s 0 0 (AM z0)) (F0 m 0 ls []) := by
  have hx := hX.1.1
  have hb := hX.1.2.1
  have hown := hX.1.2.2.2.1
  have hts := hX.1.2.2.2.2
  unfold pX10_useRule at h
  refine lv_iconst (v := 0) hx hb dX10_useRule_0 (by decide) ?_
  refine lv_istore_n (lv' := [(2, _), (0, _), (1, _)]) hx hb dX10_useRule_1 rfl hl (by decide) rfl (fun ls hl => ?_)
  obtain ⟨I2, hI2, n2, h⟩ := h
  have key2 : ∀ (n2 : Nat) (σ1 : Me) (x2_2 : Int32) (H : Heap) (locs : List Loc) (ls : Array Slot), I2 n2 σ1 x2_2 → wS D cA z0 s σ1 H locs → lv_has ls 3 [(0, .ref a0), (1, .ref a1), (2, .int x2_2)] → W p l e rX10_useRule s m args below meth c H locs 0 0 (MQ below (va_Qv Q (BM D cA z0) (AM z0)) args s 0 0 (AM z0)) (F0 m 2 ls []) := by
    intro n2
    induction n2 using Nat.strongRecOn with
    | _ n2 ih2 =>
      intro σ1 x2_2 H locs ls h hw hl
      have h := hI2 _ _ _ h
      refine lv_iload_n hx hb dX10_useRule_2 rfl (lv_at hl 2 rfl) ?_
      refine lv_aload_n hx hb dX10_useRule_3 rfl (lv_at hl 0 rfl) ?_
      obtain ⟨hT3, h⟩ := h
      obtain ⟨b4, hb4, h⟩ := h
      refine m_get hX hw cl10 hT3 2 (by decide) k_168 (fun _ h => h) (v := .ref b4) (congrArg va_rf hb4) dX10_useRule_4 ?_
      obtain ⟨hT5, h⟩ := h
      refine m_alen hX hw (t := 0) (by decide) hT5 dX10_useRule_7 ?_
      refine lv_icmp_ge (tgt := 34) hx hb dX10_useRule_8 (by decide) (fun hc6 => ?_) (fun hc6 => ?_)
      · have h := h.1 hc6
        exact m_vret hX hlk hr hw h dX10_useRule_34
      · have h := h.2 hc6
        refine lv_aload_n hx hb dX10_useRule_11 rfl (lv_at hl 0 rfl) ?_
        refine m_get hX hw cl10 hT3 2 (by decide) k_168 (fun _ h => h) (v := .ref b4) (congrArg va_rf hb4) dX10_useRule_12 ?_
        refine lv_iload_n hx hb dX10_useRule_15 rfl (lv_at hl 2 rfl) ?_
        refine lv_aload_n hx hb dX10_useRule_16 rfl (lv_at hl 1 rfl) ?_
        refine lv_iload_n hx hb dX10_useRule_17 rfl (lv_at hl 2 rfl) ?_
        refine lv_bipush (v := (-12)) hx hb dX10_useRule_18 (by decide) ?_
        refine lv_iadd hx hb dX10_useRule_20 ?_
        refine m_v_wants hX hw h k_606 hl.1 rfl (rest := [_, _]) (Nat.le_of_ble_eq_true rfl) dX10_useRule_21 ⟨Nat.le_of_ble_eq_true rfl, Nat.le_of_ble_eq_true rfl, Nat.le_of_ble_eq_true rfl, Nat.le_of_ble_eq_true rfl⟩ (fun r7 σ8 H locs h hw => ?_)
        refine m_ci (m_runSN (rest := [_, _]) hX hw (tX11_cutOrder h) mtX11_cutOrder (List.mem_of_getElem? (i := 7) rfl) k_552 ⟨⟨rfl, rfl, Nat.le_of_ble_eq_true rfl, Nat.le_of_ble_eq_true rfl⟩, Nat.le_of_ble_eq_true rfl, Nat.le_of_ble_eq_true rfl⟩ rfl hl.1 rfl (Nat.le_of_ble_eq_true rfl) dX10_useRule_24) hw (fun r9 σ10 H locs h hw => ?_)
        obtain ⟨hT11, h⟩ := h
        obtain ⟨hc12, h⟩ := h
        refine m_iast hX hw hT11 hc12 dX10_useRule_27 (fun H locs hw => ?_)
        let σ13 : Me := sI σ10 b4 x2_2.toNatClampNeg r9
        have h := h σ13 rfl
        have hw : wS D cA z0 s σ13 H locs := hw
        obtain ⟨x2_14, e_x2_14⟩ : ∃ y : Int32, y = x2_2 + 1 := ⟨_, rfl⟩
        have h := h x2_14 e_x2_14
        refine lv_iinc (v := x2_14) (lv' := [(2, _), (0, _), (1, _)]) hx hb dX10_useRule_28 hl (k := 2) rfl (by rw [e_x2_14]; rfl) (by decide) rfl (fun ls hl => ?_)
        refine lv_goto (tgt := 2) hx hb dX10_useRule_31 (by decide) ?_
        obtain ⟨m2, hm2, h⟩ := h
        exact ih2 m2 hm2 _ _ _ _ _ h hw (lv_sub hl [1, 2, 0] rfl)
  exact key2 _ _ _ _ _ _ h hw (lv_sub hl [1, 2, 0] rfl)
theorem mtX10_useRule : Mth yX10_useRule cX10_useRule 3 none 1 := ⟨k_605, k_47, by decide +kernel⟩
theorem tX10_useRule {l : Launch} {D : va_G} {cA : Nat → ClassId} {z0 : Nat} {σ : Me} {a0 : Nat} {a1 : Nat} {Q : Me → Prop} (h : pX10_useRule σ a0 a1 Q) : Met l yX10_useRule (Cond.code yX10_useRule cX10_useRule 3 none :: gTab) rX10_useRule (PcM D cA z0 σ [.ref a0, .ref a1]) (va_Qv Q (BM D cA z0) (AM z0)) 0 0 (AM z0) :=
  met_of (by decide) (Nat.le_of_ble_eq_true rfl) (fun hX hlk hr hn hw hl => wX10_useRule hX hlk hr h hw hl)
abbrev rX11_told : Room := { frames := 4, cells := 0, slots := 0, locals := 121 }
def pX11_told (σ : Me) (a0 : Nat) (x1 : Int32) (x2 : Int32) (Q : Int32 → Me → Prop) : Prop := gT σ a0 = 11 ∧ pX11_isRule σ a0 x1 (fun r1 σ2 => (r1 = 0 → Q ((-1 : Int32)) σ2) ∧ (¬ r1 = 0 → pX11_isWithin σ2 x2 ((0 : Int32)) ((4 : Int32)) (fun r5 σ6 => (r5 = 0 → Q ((-1 : Int32)) σ6) ∧ (¬ r5 = 0 → gT σ6 a0 = 11 ∧ ∃ b9 : Nat, gP σ6 a0 3 = some b9 ∧ gT σ6 b9 = 25 ∧ vp_in x1 (gN σ6 b9) ∧ (gP σ6 b9 x1.toNatClampNeg = none → pX11_refuse σ6 a0 ((1 : Int32)) (fun r13 σ14 => Q r13 σ14)) ∧ (∀ b12 : Nat, gP σ6 b9 x1.toNatClampNeg = some b12 → vp_in x1 (gN σ6 b9) ∧ ∃ b16 : Nat, gP σ6 b9 x1.toNatClampNeg = some b16 ∧ pX11_tellOf σ6 b16 x2 (fun r17 σ18 => Q r17 σ18))))))
set_option maxHeartbeats 4000000 in
set_option maxRecDepth 100000 in
theorem wX11_told {p : Program} {l : Launch} {e : Env} {s : State} {m : MethodId} {args : Array Value} {below : List Frame} {meth : Method} {c : Code} {D : va_G} {cA : Nat → ClassId} {z0 : Nat} (hX : Cx p m c cX11_told 3 s args RX11 D cA) (hlk : meth.locks = false) (hr : meth.sig.returnType = (some .int)) {σ : Me} {a0 : Nat} {x1 : Int32} {x2 : Int32} {Q : Int32 → Me → Prop} (h : pX11_told σ a0 x1 x2 Q) {H : Heap} {locs : List Loc} {ls : Array Slot} (hw : wS D cA z0 s σ H locs) (hl : lv_has ls 3 [(0, .ref a0), (1, .int x1), (2, .int x2)]) : W p l e rX11_told s m args below meth c H locs 0 0 (MQ below (va_Qi Q (BM D cA z0) (AM z0)) args s 0 0 (AM z0)) (F0 m 0 ls []) := by
  have hx := hX.1.1
  have hb := hX.1.2.1
  have hown := hX.1.2.2.2.1
  have hts := hX.1.2.2.2.2
  unfold pX11_told at h
  refine lv_aload_n hx hb dX11_told_0 rfl (lv_at hl 0 rfl) ?_
  refine lv_iload_n hx hb dX11_told_1 rfl (lv_at hl 1 rfl) ?_
  obtain ⟨hT3, h⟩ := h
  refine m_ci (m_runV (rest := []) hX hw (tX11_isRule h) mtX11_isRule k_452 ⟨k_454, k_2⟩ cl11 hT3 ⟨⟨rfl, rfl, Nat.le_of_ble_eq_true rfl, Nat.le_of_ble_eq_true rfl⟩, Nat.le_of_ble_eq_true rfl, Nat.le_of_ble_eq_true rfl⟩ rfl hl.1 rfl (Nat.le_of_ble_eq_true rfl) dX11_told_2) hw (fun r1 σ2 H locs h hw => ?_)
  refine lv_if_eq (tgt := 17) hx hb dX11_told_5 (by decide) (fun hc4 => ?_) (fun hc4 => ?_)
  · have h := h.1 hc4
    refine lv_iconst (v := (-1)) hx hb dX11_told_17 (by decide) ?_
    exact m_iret hX hlk hr hw h dX11_told_18
  · have h := h.2 hc4
    refine lv_iload_n hx hb dX11_told_8 rfl (lv_at hl 2 rfl) ?_
    refine lv_iconst (v := 0) hx hb dX11_told_9 (by decide) ?_
    refine lv_iconst (v := 4) hx hb dX11_told_10 (by decide) ?_
    refine m_ci (m_runS (rest := []) hX hw (tX11_isWithin h) mtX11_isWithin k_311 k_312 ⟨⟨rfl, rfl, Nat.le_of_ble_eq_true rfl, Nat.le_of_ble_eq_true rfl⟩, Nat.le_of_ble_eq_true rfl, Nat.le_of_ble_eq_true rfl⟩ rfl hl.1 rfl (Nat.le_of_ble_eq_true rfl) dX11_told_11) hw (fun r5 σ6 H locs h hw => ?_)
    refine lv_if_ne (tgt := 19) hx hb dX11_told_14 (by decide) (fun hc7 => ?_) (fun hc7 => ?_)
    · have h := h.2 hc7
      refine lv_aload_n hx hb dX11_told_19 rfl (lv_at hl 0 rfl) ?_
      obtain ⟨hT8, h⟩ := h
      obtain ⟨b9, hb9, h⟩ := h
      refine m_get hX hw cl11 hT8 3 (by decide) k_252 (fun _ h => h) (v := .ref b9) (congrArg va_rf hb9) dX11_told_20 ?_
      refine lv_iload_n hx hb dX11_told_23 rfl (lv_at hl 1 rfl) ?_
      obtain ⟨hT10, h⟩ := h
      obtain ⟨hc11, h⟩ := h
      refine m_aald hX hw (t := 5) (by decide) hT10 hc11 dX11_told_24 ?_
      refine m_ifnonnull (tgt := 34) hX dX11_told_25 (by decide) (fun b12 hb12 => ?_) (fun hn => ?_)
      · have h := h.2 b12 hb12
        refine lv_aload_n hx hb dX11_told_34 rfl (lv_at hl 0 rfl) ?_
        refine m_get hX hw cl11 hT8 3 (by decide) k_252 (fun _ h => h) (v := .ref b9) (congrArg va_rf hb9) dX11_told_35 ?_
        refine lv_iload_n hx hb dX11_told_38 rfl (lv_at hl 1 rfl) ?_
        obtain ⟨hc15, h⟩ := h
        refine m_aald hX hw (t := 5) (by decide) hT10 hc15 dX11_told_39 ?_
        obtain ⟨b16, hb16, h⟩ := h
        rw [hb16]
        refine W.eq (g2 := F0 _ _ _ (.ref b16 :: _)) rfl ?_
        refine lv_iload_n hx hb dX11_told_40 rfl (lv_at hl 2 rfl) ?_
        refine m_ci (m_runS (rest := []) hX hw (tX11_tellOf h) mtX11_tellOf k_461 k_462 ⟨⟨rfl, rfl, Nat.le_of_ble_eq_true rfl, Nat.le_of_ble_eq_true rfl⟩, Nat.le_of_ble_eq_true rfl, Nat.le_of_ble_eq_true rfl⟩ rfl hl.1 rfl (Nat.le_of_ble_eq_true rfl) dX11_told_41) hw (fun r17 σ18 H locs h hw => ?_)
        exact m_iret hX hlk hr hw h dX11_told_44
      · have h := h.1 hn
        refine lv_aload_n hx hb dX11_told_28 rfl (lv_at hl 0 rfl) ?_
        refine lv_iconst (v := 1) hx hb dX11_told_29 (by decide) ?_
        refine m_ci (m_runV (rest := []) hX hw (tX11_refuse h) mtX11_refuse k_322 ⟨k_324, k_0⟩ cl11 hT8 ⟨⟨rfl, rfl, Nat.le_of_ble_eq_true rfl, Nat.le_of_ble_eq_true rfl⟩, Nat.le_of_ble_eq_true rfl, Nat.le_of_ble_eq_true rfl⟩ rfl hl.1 rfl (Nat.le_of_ble_eq_true rfl) dX11_told_30) hw (fun r13 σ14 H locs h hw => ?_)
        exact m_iret hX hlk hr hw h dX11_told_33
    · have h := h.1 hc7
      refine lv_iconst (v := (-1)) hx hb dX11_told_17 (by decide) ?_
      exact m_iret hX hlk hr hw h dX11_told_18
theorem mtX11_told : Mth yX11_told cX11_told 3 (some .int) 2 := ⟨k_460, k_43, by decide +kernel⟩
theorem tX11_told {l : Launch} {D : va_G} {cA : Nat → ClassId} {z0 : Nat} {σ : Me} {a0 : Nat} {x1 : Int32} {x2 : Int32} {Q : Int32 → Me → Prop} (h : pX11_told σ a0 x1 x2 Q) : Met l yX11_told (Cond.code yX11_told cX11_told 3 (some .int) :: gTab) rX11_told (PcM D cA z0 σ [.ref a0, .int x1, .int x2]) (va_Qi Q (BM D cA z0) (AM z0)) 0 0 (AM z0) :=
  met_of (by decide) (Nat.le_of_ble_eq_true rfl) (fun hX hlk hr hn hw hl => wX11_told hX hlk hr h hw hl)
abbrev rX11_order : Room := { frames := 3, cells := 0, slots := 0, locals := 100 }
def pX11_order (σ : Me) (a0 : Nat) (x1 : Int32) (x2 : Int32) (Q : Int32 → Me → Prop) : Prop := gT σ a0 = 11 ∧ pX11_isRule σ a0 x1 (fun r1 σ2 => (r1 = 0 → Q ((-1 : Int32)) σ2) ∧ (¬ r1 = 0 → pX11_isPosition σ2 x2 (fun r5 σ6 => (r5 = 0 → Q ((-1 : Int32)) σ6) ∧ (¬ r5 = 0 → gT σ6 a0 = 11 ∧ ∃ b9 : Nat, gP σ6 a0 3 = some b9 ∧ gT σ6 b9 = 25 ∧ vp_in x1 (gN σ6 b9) ∧ (gP σ6 b9 x1.toNatClampNeg = none → pX11_refuse σ6 a0 ((1 : Int32)) (fun r13 σ14 => Q r13 σ14)) ∧ (∀ b12 : Nat, gP σ6 b9 x1.toNatClampNeg = some b12 → vp_in x1 (gN σ6 b9) ∧ ∃ b16 : Nat, gP σ6 b9 x1.toNatClampNeg = some b16 ∧ vwants σ6 b16 x2 (fun r17 σ18 => pX11_cutOrder σ18 r17 (fun r19 σ20 => Q r19 σ20)))))))
set_option maxHeartbeats 4000000 in
set_option maxRecDepth 100000 in
theorem wX11_order {p : Program} {l : Launch} {e : Env} {s : State} {m : MethodId} {args : Array Value} {below : List Frame} {meth : Method} {c : Code} {D : va_G} {cA : Nat → ClassId} {z0 : Nat} (hX : Cx p m c cX11_order 3 s args RX11 D cA) (hlk : meth.locks = false) (hr : meth.sig.returnType = (some .int)) {σ : Me} {a0 : Nat} {x1 : Int32} {x2 : Int32} {Q : Int32 → Me → Prop} (h : pX11_order σ a0 x1 x2 Q) {H : Heap} {locs : List Loc} {ls : Array Slot} (hw : wS D cA z0 s σ H locs) (hl : lv_has ls 3 [(0, .ref a0), (1, .int x1), (2, .int x2)]) : W p l e rX11_order s m args below meth c H locs 0 0 (MQ below (va_Qi Q (BM D cA z0) (AM z0)) args s 0 0 (AM z0)) (F0 m 0 ls []) := by
  have hx := hX.1.1
  have hb := hX.1.2.1
  have hown := hX.1.2.2.2.1
  have hts := hX.1.2.2.2.2
  unfold pX11_order at h
  refine lv_aload_n hx hb dX11_order_0 rfl (lv_at hl 0 rfl) ?_
  refine lv_iload_n hx hb dX11_order_1 rfl (lv_at hl 1 rfl) ?_
  obtain ⟨hT3, h⟩ := h
  refine m_ci (m_runV (rest := []) hX hw (tX11_isRule h) mtX11_isRule k_452 ⟨k_454, k_2⟩ cl11 hT3 ⟨⟨rfl, rfl, Nat.le_of_ble_eq_true rfl, Nat.le_of_ble_eq_true rfl⟩, Nat.le_of_ble_eq_true rfl, Nat.le_of_ble_eq_true rfl⟩ rfl hl.1 rfl (Nat.le_of_ble_eq_true rfl) dX11_order_2) hw (fun r1 σ2 H locs h hw => ?_)
  refine lv_if_eq (tgt := 15) hx hb dX11_order_5 (by decide) (fun hc4 => ?_) (fun hc4 => ?_)
  · have h := h.1 hc4
    refine lv_iconst (v := (-1)) hx hb dX11_order_15 (by decide) ?_
    exact m_iret hX hlk hr hw h dX11_order_16
  · have h := h.2 hc4
    refine lv_iload_n hx hb dX11_order_8 rfl (lv_at hl 2 rfl) ?_
    refine m_ci (m_runS (rest := []) hX hw (tX11_isPosition h) mtX11_isPosition k_529 k_530 ⟨⟨rfl, rfl, Nat.le_of_ble_eq_true rfl, Nat.le_of_ble_eq_true rfl⟩, Nat.le_of_ble_eq_true rfl, Nat.le_of_ble_eq_true rfl⟩ rfl hl.1 rfl (Nat.le_of_ble_eq_true rfl) dX11_order_9) hw (fun r5 σ6 H locs h hw => ?_)
    refine lv_if_ne (tgt := 17) hx hb dX11_order_12 (by decide) (fun hc7 => ?_) (fun hc7 => ?_)
    · have h := h.2 hc7
      refine lv_aload_n hx hb dX11_order_17 rfl (lv_at hl 0 rfl) ?_
      obtain ⟨hT8, h⟩ := h
      obtain ⟨b9, hb9, h⟩ := h
      refine m_get hX hw cl11 hT8 3 (by decide) k_252 (fun _ h => h) (v := .ref b9) (congrArg va_rf hb9) dX11_order_18 ?_
      refine lv_iload_n hx hb dX11_order_21 rfl (lv_at hl 1 rfl) ?_
      obtain ⟨hT10, h⟩ := h
      obtain ⟨hc11, h⟩ := h
      refine m_aald hX hw (t := 5) (by decide) hT10 hc11 dX11_order_22 ?_
      refine m_ifnonnull (tgt := 32) hX dX11_order_23 (by decide) (fun b12 hb12 => ?_) (fun hn => ?_)
      · have h := h.2 b12 hb12
        refine lv_aload_n hx hb dX11_order_32 rfl (lv_at hl 0 rfl) ?_
        refine m_get hX hw cl11 hT8 3 (by decide) k_252 (fun _ h => h) (v := .ref b9) (congrArg va_rf hb9) dX11_order_33 ?_
        refine lv_iload_n hx hb dX11_order_36 rfl (lv_at hl 1 rfl) ?_
        obtain ⟨hc15, h⟩ := h
        refine m_aald hX hw (t := 5) (by decide) hT10 hc15 dX11_order_37 ?_
        obtain ⟨b16, hb16, h⟩ := h
        rw [hb16]
        refine W.eq (g2 := F0 _ _ _ (.ref b16 :: _)) rfl ?_
        refine lv_iload_n hx hb dX11_order_38 rfl (lv_at hl 2 rfl) ?_
        refine m_v_wants hX hw h k_532 hl.1 rfl (rest := []) (Nat.le_of_ble_eq_true rfl) dX11_order_39 ⟨Nat.le_of_ble_eq_true rfl, Nat.le_of_ble_eq_true rfl, Nat.le_of_ble_eq_true rfl, Nat.le_of_ble_eq_true rfl⟩ (fun r17 σ18 H locs h hw => ?_)
        refine m_ci (m_runS (rest := []) hX hw (tX11_cutOrder h) mtX11_cutOrder k_551 k_552 ⟨⟨rfl, rfl, Nat.le_of_ble_eq_true rfl, Nat.le_of_ble_eq_true rfl⟩, Nat.le_of_ble_eq_true rfl, Nat.le_of_ble_eq_true rfl⟩ rfl hl.1 rfl (Nat.le_of_ble_eq_true rfl) dX11_order_42) hw (fun r19 σ20 H locs h hw => ?_)
        exact m_iret hX hlk hr hw h dX11_order_45
      · have h := h.1 hn
        refine lv_aload_n hx hb dX11_order_26 rfl (lv_at hl 0 rfl) ?_
        refine lv_iconst (v := 1) hx hb dX11_order_27 (by decide) ?_
        refine m_ci (m_runV (rest := []) hX hw (tX11_refuse h) mtX11_refuse k_322 ⟨k_324, k_0⟩ cl11 hT8 ⟨⟨rfl, rfl, Nat.le_of_ble_eq_true rfl, Nat.le_of_ble_eq_true rfl⟩, Nat.le_of_ble_eq_true rfl, Nat.le_of_ble_eq_true rfl⟩ rfl hl.1 rfl (Nat.le_of_ble_eq_true rfl) dX11_order_28) hw (fun r13 σ14 H locs h hw => ?_)
        exact m_iret hX hlk hr hw h dX11_order_31
    · have h := h.1 hc7
      refine lv_iconst (v := (-1)) hx hb dX11_order_15 (by decide) ?_
      exact m_iret hX hlk hr hw h dX11_order_16
theorem mtX11_order : Mth yX11_order cX11_order 3 (some .int) 2 := ⟨k_528, k_43, by decide +kernel⟩
theorem tX11_order {l : Launch} {D : va_G} {cA : Nat → ClassId} {z0 : Nat} {σ : Me} {a0 : Nat} {x1 : Int32} {x2 : Int32} {Q : Int32 → Me → Prop} (h : pX11_order σ a0 x1 x2 Q) : Met l yX11_order (Cond.code yX11_order cX11_order 3 (some .int) :: gTab) rX11_order (PcM D cA z0 σ [.ref a0, .int x1, .int x2]) (va_Qi Q (BM D cA z0) (AM z0)) 0 0 (AM z0) :=
  met_of (by decide) (Nat.le_of_ble_eq_true rfl) (fun hX hlk hr hn hw hl => wX11_order hX hlk hr h hw hl)
abbrev rX11_digest : Room := { frames := 5, cells := 0, slots := 0, locals := 147 }
def pX11_digest (σ : Me) (a0 : Nat) (Q : Int64 → Me → Prop) : Prop := ∃ I6 : Nat → Me → Int64 → Int32 → Prop, (∀ (n6 : Nat) (σ1 : Me) (x1_2 : Int64) (x3_3 : Int32), I6 n6 σ1 x1_2 x3_3 → (((5 : Int32)) < x3_3 → gT σ1 a0 = 11 ∧ ∃ b12 : Nat, gP σ1 a0 5 = some b12 ∧ gT σ1 b12 = 6 ∧ ∀ x1_14 : Int64, x1_14 = ((((31 : Int64)) * x1_2) + ((gI σ1 b12 3).toInt64)) → ∀ x1_15 : Int64, x1_15 = ((((31 : Int64)) * x1_14) + ((gI σ1 b12 4).toInt64)) → ∀ x1_16 : Int64, x1_16 = ((((31 : Int64)) * x1_15) + ((gI σ1 b12 5).toInt64)) → ∀ x1_17 : Int64, x1_17 = ((((31 : Int64)) * x1_16) + ((gI σ1 b12 6).toInt64)) → pX11_digestBooks σ1 a0 x1_17 (fun r18 σ19 => gT σ19 a0 = 11 ∧ pX11_digestRules σ19 a0 r18 (fun r20 σ21 => gT σ21 a0 = 11 ∧ pX11_digestSheets σ21 a0 r20 (fun r23 σ24 => Q r23 σ24)))) ∧ (¬ ((5 : Int32)) < x3_3 → gT σ1 a0 = 11 ∧ pX11_count σ1 a0 x3_3 (fun r26 σ27 => ∀ x1_29 : Int64, x1_29 = ((((31 : Int64)) * x1_2) + r26.toInt64) → ∀ x3_30 : Int32, x3_30 = x3_3 + 1 → ∃ m6 : Nat, m6 < n6 ∧ I6 m6 σ27 x1_29 x3_30))) ∧ ∃ n6 : Nat, I6 n6 σ ((17 : Int64)) ((0 : Int32))
set_option maxHeartbeats 4000000 in
set_option maxRecDepth 100000 in
theorem wX11_digest {p : Program} {l : Launch} {e : Env} {s : State} {m : MethodId} {args : Array Value} {below : List Frame} {meth : Method} {c : Code} {D : va_G} {cA : Nat → ClassId} {z0 : Nat} (hX : Cx p m c cX11_digest 4 s args RX11 D cA) (hlk : meth.locks = false) (hr : meth.sig.returnType = (some .long)) {σ : Me} {a0 : Nat} {Q : Int64 → Me → Prop} (h : pX11_digest σ a0 Q) {H : Heap} {locs : List Loc} {ls : Array Slot} (hw : wS D cA z0 s σ H locs) (hl : lv_has ls 4 [(0, .ref a0)]) : W p l e rX11_digest s m args below meth c H locs 0 0 (MQ below (va_Ql Q (BM D cA z0) (AM z0)) args s 0 0 (AM z0)) (F0 m 0 ls []) := by
  have hx := hX.1.1
  have hb := hX.1.2.1
  have hown := hX.1.2.2.2.1
  have hts := hX.1.2.2.2.2
  unfold pX11_digest at h
  refine lv_ldc2 hx hb hown (hts _ k_853) dX11_digest_0 ?_
  refine lv_lstore_n (lv' := [(1, _), (0, _)]) hx hb dX11_digest_3 rfl hl (by decide) rfl (fun ls hl => ?_)
  refine lv_iconst (v := 0) hx hb dX11_digest_4 (by decide) ?_
  refine lv_istore_n (lv' := [(3, _), (1, _), (0, _)]) hx hb dX11_digest_5 rfl hl (by decide) rfl (fun ls hl => ?_)
  obtain ⟨I6, hI6, n6, h⟩ := h
  have key6 : ∀ (n6 : Nat) (σ1 : Me) (x1_2 : Int64) (x3_3 : Int32) (H : Heap) (locs : List Loc) (ls : Array Slot), I6 n6 σ1 x1_2 x3_3 → wS D cA z0 s σ1 H locs → lv_has ls 4 [(0, .ref a0), (1, .long x1_2), (3, .int x3_3)] → W p l e rX11_digest s m args below meth c H locs 0 0 (MQ below (va_Ql Q (BM D cA z0) (AM z0)) args s 0 0 (AM z0)) (F0 m 6 ls []) := by
    intro n6
    induction n6 using Nat.strongRecOn with
    | _ n6 ih6 =>
      intro σ1 x1_2 x3_3 H locs ls h hw hl
      have h := hI6 _ _ _ _ h
      refine lv_iload_n hx hb dX11_digest_6 rfl (lv_at hl 2 rfl) ?_
      refine lv_iconst (v := 5) hx hb dX11_digest_7 (by decide) ?_
      refine lv_icmp_gt (tgt := 30) hx hb dX11_digest_8 (by decide) (fun hc10 => ?_) (fun hc10 => ?_)
      · have h := h.1 hc10
        refine lv_ldc2 hx hb hown (hts _ k_854) dX11_digest_30 ?_
        refine lv_lload_n hx hb dX11_digest_33 rfl (lv_at hl 1 rfl) ?_
        refine lv_lmul hx hb dX11_digest_34 ?_
        refine lv_aload_n hx hb dX11_digest_35 rfl (lv_at hl 0 rfl) ?_
        obtain ⟨hT11, h⟩ := h
        obtain ⟨b12, hb12, h⟩ := h
        refine m_get hX hw cl11 hT11 5 (by decide) k_254 (fun _ h => h) (v := .ref b12) (congrArg va_rf hb12) dX11_digest_36 ?_
        obtain ⟨hT13, h⟩ := h
        refine m_get hX hw cl6 hT13 3 (by decide) k_87 (fun _ h => h) (v := .int _) rfl dX11_digest_39 ?_
        refine lv_i2l hx hb dX11_digest_42 rfl ?_
        refine lv_ladd hx hb dX11_digest_43 ?_
        refine lv_topl (fun x1_14 e_x1_14 => ?_)
        have h := h x1_14 e_x1_14
        refine lv_lstore_n (lv' := [(1, _), (0, _), (3, _)]) hx hb dX11_digest_44 rfl hl (by decide) rfl (fun ls hl => ?_)
        refine lv_ldc2 hx hb hown (hts _ k_854) dX11_digest_45 ?_
        refine lv_lload_n hx hb dX11_digest_48 rfl (lv_at hl 0 rfl) ?_
        refine lv_lmul hx hb dX11_digest_49 ?_
        refine lv_aload_n hx hb dX11_digest_50 rfl (lv_at hl 1 rfl) ?_
        refine m_get hX hw cl11 hT11 5 (by decide) k_254 (fun _ h => h) (v := .ref b12) (congrArg va_rf hb12) dX11_digest_51 ?_
        refine m_get hX hw cl6 hT13 4 (by decide) k_89 (fun _ h => h) (v := .int _) rfl dX11_digest_54 ?_
        refine lv_i2l hx hb dX11_digest_57 rfl ?_
        refine lv_ladd hx hb dX11_digest_58 ?_
        refine lv_topl (fun x1_15 e_x1_15 => ?_)
        have h := h x1_15 e_x1_15
        refine lv_lstore_n (lv' := [(1, _), (0, _), (3, _)]) hx hb dX11_digest_59 rfl hl (by decide) rfl (fun ls hl => ?_)
        refine lv_ldc2 hx hb hown (hts _ k_854) dX11_digest_60 ?_
        refine lv_lload_n hx hb dX11_digest_63 rfl (lv_at hl 0 rfl) ?_
        refine lv_lmul hx hb dX11_digest_64 ?_
        refine lv_aload_n hx hb dX11_digest_65 rfl (lv_at hl 1 rfl) ?_
        refine m_get hX hw cl11 hT11 5 (by decide) k_254 (fun _ h => h) (v := .ref b12) (congrArg va_rf hb12) dX11_digest_66 ?_
        refine m_get hX hw cl6 hT13 5 (by decide) k_91 (fun _ h => h) (v := .int _) rfl dX11_digest_69 ?_
        refine lv_i2l hx hb dX11_digest_72 rfl ?_
        refine lv_ladd hx hb dX11_digest_73 ?_
        refine lv_topl (fun x1_16 e_x1_16 => ?_)
        have h := h x1_16 e_x1_16
        refine lv_lstore_n (lv' := [(1, _), (0, _), (3, _)]) hx hb dX11_digest_74 rfl hl (by decide) rfl (fun ls hl => ?_)
        refine lv_ldc2 hx hb hown (hts _ k_854) dX11_digest_75 ?_
        refine lv_lload_n hx hb dX11_digest_78 rfl (lv_at hl 0 rfl) ?_
        refine lv_lmul hx hb dX11_digest_79 ?_
        refine lv_aload_n hx hb dX11_digest_80 rfl (lv_at hl 1 rfl) ?_
        refine m_get hX hw cl11 hT11 5 (by decide) k_254 (fun _ h => h) (v := .ref b12) (congrArg va_rf hb12) dX11_digest_81 ?_
        refine m_get hX hw cl6 hT13 6 (by decide) k_93 (fun _ h => h) (v := .int _) rfl dX11_digest_84 ?_
        refine lv_i2l hx hb dX11_digest_87 rfl ?_
        refine lv_ladd hx hb dX11_digest_88 ?_
        refine lv_topl (fun x1_17 e_x1_17 => ?_)
        have h := h x1_17 e_x1_17
        refine lv_lstore_n (lv' := [(1, _), (0, _), (3, _)]) hx hb dX11_digest_89 rfl hl (by decide) rfl (fun ls hl => ?_)
        refine lv_aload_n hx hb dX11_digest_90 rfl (lv_at hl 1 rfl) ?_
        refine lv_aload_n hx hb dX11_digest_91 rfl (lv_at hl 1 rfl) ?_
        refine lv_aload_n hx hb dX11_digest_92 rfl (lv_at hl 1 rfl) ?_
        refine lv_lload_n hx hb dX11_digest_93 rfl (lv_at hl 0 rfl) ?_
        refine m_cl (m_runV (rest := [_, _]) hX hw (tX11_digestBooks h) mtX11_digestBooks k_856 ⟨k_858, k_21⟩ cl11 hT11 ⟨⟨rfl, rfl, Nat.le_of_ble_eq_true rfl, Nat.le_of_ble_eq_true rfl⟩, Nat.le_of_ble_eq_true rfl, Nat.le_of_ble_eq_true rfl⟩ rfl hl.1 rfl (Nat.le_of_ble_eq_true rfl) dX11_digest_94) hw (fun r18 σ19 H locs h hw => ?_)
        obtain ⟨hT22, h⟩ := h
        refine m_cl (m_runV (rest := [_]) hX hw (tX11_digestRules h) mtX11_digestRules k_860 ⟨k_862, k_22⟩ cl11 hT22 ⟨⟨rfl, rfl, Nat.le_of_ble_eq_true rfl, Nat.le_of_ble_eq_true rfl⟩, Nat.le_of_ble_eq_true rfl, Nat.le_of_ble_eq_true rfl⟩ rfl hl.1 rfl (Nat.le_of_ble_eq_true rfl) dX11_digest_97) hw (fun r20 σ21 H locs h hw => ?_)
        obtain ⟨hT25, h⟩ := h
        refine m_cl (m_runV (rest := []) hX hw (tX11_digestSheets h) mtX11_digestSheets k_864 ⟨k_866, k_23⟩ cl11 hT25 ⟨⟨rfl, rfl, Nat.le_of_ble_eq_true rfl, Nat.le_of_ble_eq_true rfl⟩, Nat.le_of_ble_eq_true rfl, Nat.le_of_ble_eq_true rfl⟩ rfl hl.1 rfl (Nat.le_of_ble_eq_true rfl) dX11_digest_100) hw (fun r23 σ24 H locs h hw => ?_)
        exact m_lret hX hlk hr hw h dX11_digest_103
      · have h := h.2 hc10
        refine lv_ldc2 hx hb hown (hts _ k_854) dX11_digest_11 ?_
        refine lv_lload_n hx hb dX11_digest_14 rfl (lv_at hl 1 rfl) ?_
        refine lv_lmul hx hb dX11_digest_15 ?_
        refine lv_aload_n hx hb dX11_digest_16 rfl (lv_at hl 0 rfl) ?_
        refine lv_iload_n hx hb dX11_digest_17 rfl (lv_at hl 2 rfl) ?_
        obtain ⟨hT28, h⟩ := h
        refine m_ci (m_runV (rest := [_]) hX hw (tX11_count h) mtX11_count k_855 ⟨k_834, k_835⟩ cl11 hT28 ⟨⟨rfl, rfl, Nat.le_of_ble_eq_true rfl, Nat.le_of_ble_eq_true rfl⟩, Nat.le_of_ble_eq_true rfl, Nat.le_of_ble_eq_true rfl⟩ rfl hl.1 rfl (Nat.le_of_ble_eq_true rfl) dX11_digest_18) hw (fun r26 σ27 H locs h hw => ?_)
        refine lv_i2l hx hb dX11_digest_21 rfl ?_
        refine lv_ladd hx hb dX11_digest_22 ?_
        refine lv_topl (fun x1_29 e_x1_29 => ?_)
        have h := h x1_29 e_x1_29
        refine lv_lstore_n (lv' := [(1, _), (0, _), (3, _)]) hx hb dX11_digest_23 rfl hl (by decide) rfl (fun ls hl => ?_)
        obtain ⟨x3_30, e_x3_30⟩ : ∃ y : Int32, y = x3_3 + 1 := ⟨_, rfl⟩
        have h := h x3_30 e_x3_30
        refine lv_iinc (v := x3_30) (lv' := [(3, _), (1, _), (0, _)]) hx hb dX11_digest_24 hl (k := 2) rfl (by rw [e_x3_30]; rfl) (by decide) rfl (fun ls hl => ?_)
        refine lv_goto (tgt := 6) hx hb dX11_digest_27 (by decide) ?_
        obtain ⟨m6, hm6, h⟩ := h
        exact ih6 m6 hm6 _ _ _ _ _ _ h hw (lv_sub hl [2, 1, 0] rfl)
  exact key6 _ _ _ _ _ _ _ h hw (lv_sub hl [2, 1, 0] rfl)
theorem mtX11_digest : Mth yX11_digest cX11_digest 4 (some .long) 0 := ⟨k_852, k_43, by decide +kernel⟩
theorem tX11_digest {l : Launch} {D : va_G} {cA : Nat → ClassId} {z0 : Nat} {σ : Me} {a0 : Nat} {Q : Int64 → Me → Prop} (h : pX11_digest σ a0 Q) : Met l yX11_digest (Cond.code yX11_digest cX11_digest 4 (some .long) :: gTab) rX11_digest (PcM D cA z0 σ [.ref a0]) (va_Ql Q (BM D cA z0) (AM z0)) 0 0 (AM z0) :=
  met_of (by decide) (Nat.le_of_ble_eq_true rfl) (fun hX hlk hr hn hw hl => wX11_digest hX hlk hr h hw hl)
abbrev rX11_cost : Room := { frames := 6, cells := 0, slots := 0, locals := 148 }
def pX11_cost (σ : Me) (a0 : Nat) (x1 : Int32) (x2 : Int32) (x3 : Int32) (x4 : Int32) (Q : Int32 → Me → Prop) : Prop := gT σ a0 = 11 ∧ pX11_isRule σ a0 x1 (fun r1 σ2 => (r1 = 0 → Q ((-1 : Int32)) σ2) ∧ (¬ r1 = 0 → gT σ2 a0 = 11 ∧ pX11_isStart σ2 a0 x2 x3 x4 (fun r5 σ6 => (r5 = 0 → Q ((-1 : Int32)) σ6) ∧ (¬ r5 = 0 → gT σ6 a0 = 11 ∧ ∃ b10 : Nat, gP σ6 a0 3 = some b10 ∧ gT σ6 b10 = 25 ∧ vp_in x1 (gN σ6 b10) ∧ ∃ b13 : Nat, gP σ6 a0 0 = some b13 ∧ gT σ6 b13 = 24 ∧ vp_in x2 (gN σ6 b13) ∧ ∃ b16 : Nat, gP σ6 b13 x2.toNatClampNeg = some b16 ∧ pX11_lackOf_ σ6 (gP σ6 b10 x1.toNatClampNeg) b16 (fun r17 σ18 => (r17 = 0 → gT σ18 a0 = 11 ∧ ∃ b21 : Nat, gP σ18 a0 5 = some b21 ∧ ∃ b22 : Nat, gP σ18 a0 0 = some b22 ∧ gT σ18 b22 = 24 ∧ vp_in x2 (gN σ18 b22) ∧ ∃ b25 : Nat, gP σ18 b22 x2.toNatClampNeg = some b25 ∧ gT σ18 b21 = 6 ∧ pX6_reckon σ18 b21 b25 (fun σ27 => gT σ27 a0 = 11 ∧ ∃ b30 : Nat, gP σ27 a0 6 = some b30 ∧ ∃ b31 : Nat, gP σ27 a0 3 = some b31 ∧ gT σ27 b31 = 25 ∧ vp_in x1 (gN σ27 b31) ∧ ∃ b34 : Nat, gP σ27 b31 x1.toNatClampNeg = some b34 ∧ gT σ27 b30 = 10 ∧ pX10_useRule σ27 b30 b34 (fun σ36 => gT σ36 a0 = 11 ∧ ∃ b39 : Nat, gP σ36 a0 6 = some b39 ∧ ∃ b40 : Nat, gP σ36 a0 0 = some b40 ∧ gT σ36 b40 = 24 ∧ vp_in x2 (gN σ36 b40) ∧ ∃ b43 : Nat, gP σ36 b40 x2.toNatClampNeg = some b43 ∧ gT σ36 b39 = 10 ∧ pX10_follow σ36 b39 b43 x3 x4 ((4611686018427387904 : Int64)) (fun r44 σ45 => gT σ45 a0 = 11 ∧ ∃ b48 : Nat, gP σ45 a0 0 = some b48 ∧ gT σ45 b48 = 24 ∧ vp_in x2 (gN σ45 b48) ∧ ∃ b51 : Nat, gP σ45 b48 x2.toNatClampNeg = some b51 ∧ pX11_rowsOf σ45 b51 x4 (fun r52 σ53 => gT σ53 a0 = 11 ∧ pX11_tell σ53 a0 r44 r52 (fun r54 σ55 => Q r54 σ55)))))) ∧ (¬ r17 = 0 → gT σ18 a0 = 11 ∧ pX11_refuse σ18 a0 r17 (fun r57 σ58 => Q r57 σ58)))))))
set_option maxHeartbeats 4000000 in
set_option maxRecDepth 100000 in
theorem wX11_cost {p : Program} {l : Launch} {e : Env} {s : State} {m : MethodId} {args : Array Value} {below : List Frame} {meth : Method} {c : Code} {D : va_G} {cA : Nat → ClassId} {z0 : Nat} (hX : Cx p m c cX11_cost 8 s args RX11 D cA) (hlk : meth.locks = false) (hr : meth.sig.returnType = (some .int)) {σ : Me} {a0 : Nat} {x1 : Int32} {x2 : Int32} {x3 : Int32} {x4 : Int32} {Q : Int32 → Me → Prop} (h : pX11_cost σ a0 x1 x2 x3 x4 Q) {H : Heap} {locs : List Loc} {ls : Array Slot} (hw : wS D cA z0 s σ H locs) (hl : lv_has ls 8 [(0, .ref a0), (1, .int x1), (2, .int x2), (3, .int x3), (4, .int x4)]) : W p l e rX11_cost s m args below meth c H locs 0 0 (MQ below (va_Qi Q (BM D cA z0) (AM z0)) args s 0 0 (AM z0)) (F0 m 0 ls []) := by
  have hx := hX.1.1
  have hb := hX.1.2.1
  have hown := hX.1.2.2.2.1
  have hts := hX.1.2.2.2.2
  unfold pX11_cost at h
  refine lv_aload_n hx hb dX11_cost_0 rfl (lv_at hl 0 rfl) ?_
  refine lv_iload_n hx hb dX11_cost_1 rfl (lv_at hl 1 rfl) ?_
  obtain ⟨hT3, h⟩ := h
  refine m_ci (m_runV (rest := []) hX hw (tX11_isRule h) mtX11_isRule k_452 ⟨k_454, k_2⟩ cl11 hT3 ⟨⟨rfl, rfl, Nat.le_of_ble_eq_true rfl, Nat.le_of_ble_eq_true rfl⟩, Nat.le_of_ble_eq_true rfl, Nat.le_of_ble_eq_true rfl⟩ rfl hl.1 rfl (Nat.le_of_ble_eq_true rfl) dX11_cost_2) hw (fun r1 σ2 H locs h hw => ?_)
  refine lv_if_eq (tgt := 19) hx hb dX11_cost_5 (by decide) (fun hc4 => ?_) (fun hc4 => ?_)
  · have h := h.1 hc4
    refine lv_iconst (v := (-1)) hx hb dX11_cost_19 (by decide) ?_
    exact m_iret hX hlk hr hw h dX11_cost_20
  · have h := h.2 hc4
    refine lv_aload_n hx hb dX11_cost_8 rfl (lv_at hl 0 rfl) ?_
    refine lv_iload_n hx hb dX11_cost_9 rfl (lv_at hl 2 rfl) ?_
    refine lv_iload_n hx hb dX11_cost_10 rfl (lv_at hl 3 rfl) ?_
    refine lv_iload hx hb dX11_cost_11 (lv_at hl 4 rfl) ?_
    obtain ⟨hT7, h⟩ := h
    refine m_ci (m_runV (rest := []) hX hw (tX11_isStart h) mtX11_isStart k_570 ⟨k_572, k_3⟩ cl11 hT7 ⟨⟨rfl, rfl, Nat.le_of_ble_eq_true rfl, Nat.le_of_ble_eq_true rfl⟩, Nat.le_of_ble_eq_true rfl, Nat.le_of_ble_eq_true rfl⟩ rfl hl.1 rfl (Nat.le_of_ble_eq_true rfl) dX11_cost_13) hw (fun r5 σ6 H locs h hw => ?_)
    refine lv_if_ne (tgt := 21) hx hb dX11_cost_16 (by decide) (fun hc8 => ?_) (fun hc8 => ?_)
    · have h := h.2 hc8
      refine lv_aload_n hx hb dX11_cost_21 rfl (lv_at hl 0 rfl) ?_
      obtain ⟨hT9, h⟩ := h
      obtain ⟨b10, hb10, h⟩ := h
      refine m_get hX hw cl11 hT9 3 (by decide) k_252 (fun _ h => h) (v := .ref b10) (congrArg va_rf hb10) dX11_cost_22 ?_
      refine lv_iload_n hx hb dX11_cost_25 rfl (lv_at hl 1 rfl) ?_
      obtain ⟨hT11, h⟩ := h
      obtain ⟨hc12, h⟩ := h
      refine m_aald hX hw (t := 5) (by decide) hT11 hc12 dX11_cost_26 ?_
      refine lv_aload_n hx hb dX11_cost_27 rfl (lv_at hl 0 rfl) ?_
      obtain ⟨b13, hb13, h⟩ := h
      refine m_get hX hw cl11 hT9 0 (by decide) k_249 (fun _ h => h) (v := .ref b13) (congrArg va_rf hb13) dX11_cost_28 ?_
      refine lv_iload_n hx hb dX11_cost_31 rfl (lv_at hl 2 rfl) ?_
      obtain ⟨hT14, h⟩ := h
      obtain ⟨hc15, h⟩ := h
      refine m_aald hX hw (t := 4) (by decide) hT14 hc15 dX11_cost_32 ?_
      obtain ⟨b16, hb16, h⟩ := h
      rw [hb16]
      refine W.eq (g2 := F0 _ _ _ (.ref b16 :: _)) rfl ?_
      refine m_ci (m_runS (rest := []) hX hw (tX11_lackOf_ h) mtX11_lackOf_ k_581 k_582 ⟨⟨rfl, rfl, Nat.le_of_ble_eq_true rfl, Nat.le_of_ble_eq_true rfl⟩, Nat.le_of_ble_eq_true rfl, Nat.le_of_ble_eq_true rfl⟩ rfl hl.1 rfl (Nat.le_of_ble_eq_true rfl) dX11_cost_33) hw (fun r17 σ18 H locs h hw => ?_)
      refine lv_istore (lv' := [(5, _), (0, _), (1, _), (2, _), (3, _), (4, _)]) hx hb dX11_cost_36 hl (by decide) rfl (fun ls hl => ?_)
      refine lv_iload hx hb dX11_cost_38 (lv_at hl 0 rfl) ?_
      refine lv_if_eq (tgt := 50) hx hb dX11_cost_40 (by decide) (fun hc19 => ?_) (fun hc19 => ?_)
      · have h := h.1 hc19
        refine lv_aload_n hx hb dX11_cost_50 rfl (lv_at hl 1 rfl) ?_
        obtain ⟨hT20, h⟩ := h
        obtain ⟨b21, hb21, h⟩ := h
        refine m_get hX hw cl11 hT20 5 (by decide) k_254 (fun _ h => h) (v := .ref b21) (congrArg va_rf hb21) dX11_cost_51 ?_
        refine lv_aload_n hx hb dX11_cost_54 rfl (lv_at hl 1 rfl) ?_
        obtain ⟨b22, hb22, h⟩ := h
        refine m_get hX hw cl11 hT20 0 (by decide) k_249 (fun _ h => h) (v := .ref b22) (congrArg va_rf hb22) dX11_cost_55 ?_
        refine lv_iload_n hx hb dX11_cost_58 rfl (lv_at hl 3 rfl) ?_
        obtain ⟨hT23, h⟩ := h
        obtain ⟨hc24, h⟩ := h
        refine m_aald hX hw (t := 4) (by decide) hT23 hc24 dX11_cost_59 ?_
        obtain ⟨b25, hb25, h⟩ := h
        rw [hb25]
        refine W.eq (g2 := F0 _ _ _ (.ref b25 :: _)) rfl ?_
        obtain ⟨hT28, h⟩ := h
        refine m_cv (m_runV (rest := []) hX hw (tX6_reckon h) mtX6_reckon k_584 ⟨k_585, k_586⟩ cl6 hT28 ⟨⟨rfl, rfl, Nat.le_of_ble_eq_true rfl, Nat.le_of_ble_eq_true rfl⟩, Nat.le_of_ble_eq_true rfl, Nat.le_of_ble_eq_true rfl⟩ rfl hl.1 rfl (Nat.le_of_ble_eq_true rfl) dX11_cost_60) hw (fun σ27 H locs h hw => ?_)
        refine lv_aload_n hx hb dX11_cost_63 rfl (lv_at hl 1 rfl) ?_
        obtain ⟨hT29, h⟩ := h
        obtain ⟨b30, hb30, h⟩ := h
        refine m_get hX hw cl11 hT29 6 (by decide) k_255 (fun _ h => h) (v := .ref b30) (congrArg va_rf hb30) dX11_cost_64 ?_
        refine lv_aload_n hx hb dX11_cost_67 rfl (lv_at hl 1 rfl) ?_
        obtain ⟨b31, hb31, h⟩ := h
        refine m_get hX hw cl11 hT29 3 (by decide) k_252 (fun _ h => h) (v := .ref b31) (congrArg va_rf hb31) dX11_cost_68 ?_
        refine lv_iload_n hx hb dX11_cost_71 rfl (lv_at hl 2 rfl) ?_
        obtain ⟨hT32, h⟩ := h
        obtain ⟨hc33, h⟩ := h
        refine m_aald hX hw (t := 5) (by decide) hT32 hc33 dX11_cost_72 ?_
        obtain ⟨b34, hb34, h⟩ := h
        rw [hb34]
        refine W.eq (g2 := F0 _ _ _ (.ref b34 :: _)) rfl ?_
        obtain ⟨hT37, h⟩ := h
        refine m_cv (m_runV (rest := []) hX hw (tX10_useRule h) mtX10_useRule k_602 ⟨k_603, k_604⟩ cl10 hT37 ⟨⟨rfl, rfl, Nat.le_of_ble_eq_true rfl, Nat.le_of_ble_eq_true rfl⟩, Nat.le_of_ble_eq_true rfl, Nat.le_of_ble_eq_true rfl⟩ rfl hl.1 rfl (Nat.le_of_ble_eq_true rfl) dX11_cost_73) hw (fun σ36 H locs h hw => ?_)
        refine lv_aload_n hx hb dX11_cost_76 rfl (lv_at hl 1 rfl) ?_
        obtain ⟨hT38, h⟩ := h
        obtain ⟨b39, hb39, h⟩ := h
        refine m_get hX hw cl11 hT38 6 (by decide) k_255 (fun _ h => h) (v := .ref b39) (congrArg va_rf hb39) dX11_cost_77 ?_
        refine lv_aload_n hx hb dX11_cost_80 rfl (lv_at hl 1 rfl) ?_
        obtain ⟨b40, hb40, h⟩ := h
        refine m_get hX hw cl11 hT38 0 (by decide) k_249 (fun _ h => h) (v := .ref b40) (congrArg va_rf hb40) dX11_cost_81 ?_
        refine lv_iload_n hx hb dX11_cost_84 rfl (lv_at hl 3 rfl) ?_
        obtain ⟨hT41, h⟩ := h
        obtain ⟨hc42, h⟩ := h
        refine m_aald hX hw (t := 4) (by decide) hT41 hc42 dX11_cost_85 ?_
        obtain ⟨b43, hb43, h⟩ := h
        rw [hb43]
        refine W.eq (g2 := F0 _ _ _ (.ref b43 :: _)) rfl ?_
        refine lv_iload_n hx hb dX11_cost_86 rfl (lv_at hl 4 rfl) ?_
        refine lv_iload hx hb dX11_cost_87 (lv_at hl 5 rfl) ?_
        refine lv_ldc2 hx hb hown (hts _ k_608) dX11_cost_89 ?_
        obtain ⟨hT46, h⟩ := h
        refine m_cl (m_runV (rest := []) hX hw (tX10_follow h) mtX10_follow k_609 ⟨k_610, k_611⟩ cl10 hT46 ⟨⟨rfl, rfl, Nat.le_of_ble_eq_true rfl, Nat.le_of_ble_eq_true rfl⟩, Nat.le_of_ble_eq_true rfl, Nat.le_of_ble_eq_true rfl⟩ rfl hl.1 rfl (Nat.le_of_ble_eq_true rfl) dX11_cost_92) hw (fun r44 σ45 H locs h hw => ?_)
        refine lv_lstore (lv' := [(6, _), (5, _), (0, _), (1, _), (2, _), (3, _), (4, _)]) hx hb dX11_cost_95 hl (by decide) rfl (fun ls hl => ?_)
        refine lv_aload_n hx hb dX11_cost_97 rfl (lv_at hl 2 rfl) ?_
        refine lv_lload hx hb dX11_cost_98 (lv_at hl 0 rfl) ?_
        refine lv_aload_n hx hb dX11_cost_100 rfl (lv_at hl 2 rfl) ?_
        obtain ⟨hT47, h⟩ := h
        obtain ⟨b48, hb48, h⟩ := h
        refine m_get hX hw cl11 hT47 0 (by decide) k_249 (fun _ h => h) (v := .ref b48) (congrArg va_rf hb48) dX11_cost_101 ?_
        refine lv_iload_n hx hb dX11_cost_104 rfl (lv_at hl 4 rfl) ?_
        obtain ⟨hT49, h⟩ := h
        obtain ⟨hc50, h⟩ := h
        refine m_aald hX hw (t := 4) (by decide) hT49 hc50 dX11_cost_105 ?_
        obtain ⟨b51, hb51, h⟩ := h
        rw [hb51]
        refine W.eq (g2 := F0 _ _ _ (.ref b51 :: _)) rfl ?_
        refine lv_iload hx hb dX11_cost_106 (lv_at hl 6 rfl) ?_
        refine m_cl (m_runS (rest := [_, _]) hX hw (tX11_rowsOf h) mtX11_rowsOf k_694 k_692 ⟨⟨rfl, rfl, Nat.le_of_ble_eq_true rfl, Nat.le_of_ble_eq_true rfl⟩, Nat.le_of_ble_eq_true rfl, Nat.le_of_ble_eq_true rfl⟩ rfl hl.1 rfl (Nat.le_of_ble_eq_true rfl) dX11_cost_108) hw (fun r52 σ53 H locs h hw => ?_)
        obtain ⟨hT56, h⟩ := h
        refine m_ci (m_runV (rest := []) hX hw (tX11_tell h) mtX11_tell k_695 ⟨k_697, k_9⟩ cl11 hT56 ⟨⟨rfl, rfl, Nat.le_of_ble_eq_true rfl, Nat.le_of_ble_eq_true rfl⟩, Nat.le_of_ble_eq_true rfl, Nat.le_of_ble_eq_true rfl⟩ rfl hl.1 rfl (Nat.le_of_ble_eq_true rfl) dX11_cost_111) hw (fun r54 σ55 H locs h hw => ?_)
        exact m_iret hX hlk hr hw h dX11_cost_114
      · have h := h.2 hc19
        refine lv_aload_n hx hb dX11_cost_43 rfl (lv_at hl 1 rfl) ?_
        refine lv_iload hx hb dX11_cost_44 (lv_at hl 0 rfl) ?_
        obtain ⟨hT59, h⟩ := h
        refine m_ci (m_runV (rest := []) hX hw (tX11_refuse h) mtX11_refuse k_322 ⟨k_324, k_0⟩ cl11 hT59 ⟨⟨rfl, rfl, Nat.le_of_ble_eq_true rfl, Nat.le_of_ble_eq_true rfl⟩, Nat.le_of_ble_eq_true rfl, Nat.le_of_ble_eq_true rfl⟩ rfl hl.1 rfl (Nat.le_of_ble_eq_true rfl) dX11_cost_46) hw (fun r57 σ58 H locs h hw => ?_)
        exact m_iret hX hlk hr hw h dX11_cost_49
    · have h := h.1 hc8
      refine lv_iconst (v := (-1)) hx hb dX11_cost_19 (by decide) ?_
      exact m_iret hX hlk hr hw h dX11_cost_20
theorem mtX11_cost : Mth yX11_cost cX11_cost 8 (some .int) 4 := ⟨k_569, k_43, by decide +kernel⟩
theorem tX11_cost {l : Launch} {D : va_G} {cA : Nat → ClassId} {z0 : Nat} {σ : Me} {a0 : Nat} {x1 : Int32} {x2 : Int32} {x3 : Int32} {x4 : Int32} {Q : Int32 → Me → Prop} (h : pX11_cost σ a0 x1 x2 x3 x4 Q) : Met l yX11_cost (Cond.code yX11_cost cX11_cost 8 (some .int) :: gTab) rX11_cost (PcM D cA z0 σ [.ref a0, .int x1, .int x2, .int x3, .int x4]) (va_Qi Q (BM D cA z0) (AM z0)) 0 0 (AM z0) :=
  met_of (by decide) (Nat.le_of_ble_eq_true rfl) (fun hX hlk hr hn hw hl => wX11_cost hX hlk hr h hw hl)
abbrev rX11_service : Room := { frames := 6, cells := 0, slots := 0, locals := 148 }
def pX11_service (σ : Me) (a0 : Nat) (x1 : Int32) (x2 : Int32) (x3 : Int32) (x4 : Int32) (x5 : Int32) (Q : Int32 → Me → Prop) : Prop := pX11_isWithin σ x1 ((0 : Int32)) ((2 : Int32)) (fun r1 σ2 => (r1 = 0 → Q ((-1 : Int32)) σ2) ∧ (¬ r1 = 0 → gT σ2 a0 = 11 ∧ pX11_isRule σ2 a0 x2 (fun r4 σ5 => (r4 = 0 → Q ((-1 : Int32)) σ5) ∧ (¬ r4 = 0 → gT σ5 a0 = 11 ∧ pX11_isStart σ5 a0 x3 x4 x5 (fun r8 σ9 => (r8 = 0 → Q ((-1 : Int32)) σ9) ∧ (¬ r8 = 0 → gT σ9 a0 = 11 ∧ ∃ b13 : Nat, gP σ9 a0 3 = some b13 ∧ gT σ9 b13 = 25 ∧ vp_in x2 (gN σ9 b13) ∧ ∃ b16 : Nat, gP σ9 a0 0 = some b16 ∧ gT σ9 b16 = 24 ∧ vp_in x3 (gN σ9 b16) ∧ ∃ b19 : Nat, gP σ9 b16 x3.toNatClampNeg = some b19 ∧ pX11_lackOf_ σ9 (gP σ9 b13 x2.toNatClampNeg) b19 (fun r20 σ21 => (r20 = 0 → gT σ21 a0 = 11 ∧ ∃ b24 : Nat, gP σ21 a0 0 = some b24 ∧ gT σ21 b24 = 24 ∧ vp_in x3 (gN σ21 b24) ∧ ∃ b27 : Nat, gP σ21 b24 x3.toNatClampNeg = some b27 ∧ ∃ b28 : Nat, gP σ21 a0 5 = some b28 ∧ gT σ21 b28 = 6 ∧ pX6_reckon σ21 b28 b27 (fun σ30 => gT σ30 a0 = 11 ∧ ∃ b33 : Nat, gP σ30 a0 6 = some b33 ∧ ∃ b34 : Nat, gP σ30 a0 3 = some b34 ∧ gT σ30 b34 = 25 ∧ vp_in x2 (gN σ30 b34) ∧ ∃ b37 : Nat, gP σ30 b34 x2.toNatClampNeg = some b37 ∧ gT σ30 b33 = 10 ∧ pX10_useRule σ30 b33 b37 (fun σ39 => (x1 = 0 → gT σ39 a0 = 11 ∧ ∃ b68 : Nat, gP σ39 a0 6 = some b68 ∧ gT σ39 b68 = 10 ∧ pX10_followUnbroken σ39 b68 b27 x4 x5 (fun r69 σ70 => pX11_rowsOf σ70 b27 x5 (fun r72 σ73 => gT σ73 a0 = 11 ∧ pX11_tell σ73 a0 r69 r72 (fun r74 σ75 => Q r74 σ75)))) ∧ (¬ x1 = 0 → gT σ39 a0 = 11 ∧ ∃ b43 : Nat, gP σ39 a0 6 = some b43 ∧ gT σ39 b43 = 10 ∧ pX10_follow σ39 b43 b27 x4 x5 ((4611686018427387904 : Int64)) (fun r44 σ45 => (x1 = ((1 : Int32)) → gT σ45 a0 = 11 ∧ ∃ b57 : Nat, gP σ45 a0 6 = some b57 ∧ gT σ45 b57 = 10 ∧ gT σ45 b27 = 1 ∧ pX1_weightedDemands σ45 b27 (fun r59 σ60 => pX11_rowsOf σ60 b27 (x5 - ((1 : Int32))) (fun r62 σ63 => gT σ63 a0 = 11 ∧ pX11_tell σ63 a0 (gL σ45 b57 6) (((x5 * r59).toInt64) * r62) (fun r64 σ65 => Q r64 σ65)))) ∧ (¬ x1 = ((1 : Int32)) → gT σ45 a0 = 11 ∧ ∃ b49 : Nat, gP σ45 a0 6 = some b49 ∧ gT σ45 b49 = 10 ∧ pX11_rowsOf σ45 b27 x5 (fun r51 σ52 => gT σ52 a0 = 11 ∧ pX11_tell σ52 a0 (gL σ45 b49 7) (x5.toInt64 * r51) (fun r53 σ54 => Q r53 σ54)))))))) ∧ (¬ r20 = 0 → gT σ21 a0 = 11 ∧ pX11_refuse σ21 a0 r20 (fun r77 σ78 => Q r77 σ78)))))))))
set_option maxHeartbeats 4000000 in
set_option maxRecDepth 100000 in
theorem wX11_service {p : Program} {l : Launch} {e : Env} {s : State} {m : MethodId} {args : Array Value} {below : List Frame} {meth : Method} {c : Code} {D : va_G} {cA : Nat → ClassId} {z0 : Nat} (hX : Cx p m c cX11_service 8 s args RX11 D cA) (hlk : meth.locks = false) (hr : meth.sig.returnType = (some .int)) {σ : Me} {a0 : Nat} {x1 : Int32} {x2 : Int32} {x3 : Int32} {x4 : Int32} {x5 : Int32} {Q : Int32 → Me → Prop} (h : pX11_service σ a0 x1 x2 x3 x4 x5 Q) {H : Heap} {locs : List Loc} {ls : Array Slot} (hw : wS D cA z0 s σ H locs) (hl : lv_has ls 8 [(0, .ref a0), (1, .int x1), (2, .int x2), (3, .int x3), (4, .int x4), (5, .int x5)]) : W p l e rX11_service s m args below meth c H locs 0 0 (MQ below (va_Qi Q (BM D cA z0) (AM z0)) args s 0 0 (AM z0)) (F0 m 0 ls []) := by
  have hx := hX.1.1
  have hb := hX.1.2.1
  have hown := hX.1.2.2.2.1
  have hts := hX.1.2.2.2.2
  unfold pX11_service at h
  refine lv_iload_n hx hb dX11_service_0 rfl (lv_at hl 1 rfl) ?_
  refine lv_iconst (v := 0) hx hb dX11_service_1 (by decide) ?_
  refine lv_iconst (v := 2) hx hb dX11_service_2 (by decide) ?_
  refine m_ci (m_runS (rest := []) hX hw (tX11_isWithin h) mtX11_isWithin k_311 k_312 ⟨⟨rfl, rfl, Nat.le_of_ble_eq_true rfl, Nat.le_of_ble_eq_true rfl⟩, Nat.le_of_ble_eq_true rfl, Nat.le_of_ble_eq_true rfl⟩ rfl hl.1 rfl (Nat.le_of_ble_eq_true rfl) dX11_service_3) hw (fun r1 σ2 H locs h hw => ?_)
  refine lv_if_eq (tgt := 29) hx hb dX11_service_6 (by decide) (fun hc3 => ?_) (fun hc3 => ?_)
  · have h := h.1 hc3
    refine lv_iconst (v := (-1)) hx hb dX11_service_29 (by decide) ?_
    exact m_iret hX hlk hr hw h dX11_service_30
  · have h := h.2 hc3
    refine lv_aload_n hx hb dX11_service_9 rfl (lv_at hl 0 rfl) ?_
    refine lv_iload_n hx hb dX11_service_10 rfl (lv_at hl 2 rfl) ?_
    obtain ⟨hT6, h⟩ := h
    refine m_ci (m_runV (rest := []) hX hw (tX11_isRule h) mtX11_isRule k_452 ⟨k_454, k_2⟩ cl11 hT6 ⟨⟨rfl, rfl, Nat.le_of_ble_eq_true rfl, Nat.le_of_ble_eq_true rfl⟩, Nat.le_of_ble_eq_true rfl, Nat.le_of_ble_eq_true rfl⟩ rfl hl.1 rfl (Nat.le_of_ble_eq_true rfl) dX11_service_11) hw (fun r4 σ5 H locs h hw => ?_)
    refine lv_if_eq (tgt := 29) hx hb dX11_service_14 (by decide) (fun hc7 => ?_) (fun hc7 => ?_)
    · have h := h.1 hc7
      refine lv_iconst (v := (-1)) hx hb dX11_service_29 (by decide) ?_
      exact m_iret hX hlk hr hw h dX11_service_30
    · have h := h.2 hc7
      refine lv_aload_n hx hb dX11_service_17 rfl (lv_at hl 0 rfl) ?_
      refine lv_iload_n hx hb dX11_service_18 rfl (lv_at hl 3 rfl) ?_
      refine lv_iload hx hb dX11_service_19 (lv_at hl 4 rfl) ?_
      refine lv_iload hx hb dX11_service_21 (lv_at hl 5 rfl) ?_
      obtain ⟨hT10, h⟩ := h
      refine m_ci (m_runV (rest := []) hX hw (tX11_isStart h) mtX11_isStart k_570 ⟨k_572, k_3⟩ cl11 hT10 ⟨⟨rfl, rfl, Nat.le_of_ble_eq_true rfl, Nat.le_of_ble_eq_true rfl⟩, Nat.le_of_ble_eq_true rfl, Nat.le_of_ble_eq_true rfl⟩ rfl hl.1 rfl (Nat.le_of_ble_eq_true rfl) dX11_service_23) hw (fun r8 σ9 H locs h hw => ?_)
      refine lv_if_ne (tgt := 31) hx hb dX11_service_26 (by decide) (fun hc11 => ?_) (fun hc11 => ?_)
      · have h := h.2 hc11
        refine lv_aload_n hx hb dX11_service_31 rfl (lv_at hl 0 rfl) ?_
        obtain ⟨hT12, h⟩ := h
        obtain ⟨b13, hb13, h⟩ := h
        refine m_get hX hw cl11 hT12 3 (by decide) k_252 (fun _ h => h) (v := .ref b13) (congrArg va_rf hb13) dX11_service_32 ?_
        refine lv_iload_n hx hb dX11_service_35 rfl (lv_at hl 2 rfl) ?_
        obtain ⟨hT14, h⟩ := h
        obtain ⟨hc15, h⟩ := h
        refine m_aald hX hw (t := 5) (by decide) hT14 hc15 dX11_service_36 ?_
        refine lv_aload_n hx hb dX11_service_37 rfl (lv_at hl 0 rfl) ?_
        obtain ⟨b16, hb16, h⟩ := h
        refine m_get hX hw cl11 hT12 0 (by decide) k_249 (fun _ h => h) (v := .ref b16) (congrArg va_rf hb16) dX11_service_38 ?_
        refine lv_iload_n hx hb dX11_service_41 rfl (lv_at hl 3 rfl) ?_
        obtain ⟨hT17, h⟩ := h
        obtain ⟨hc18, h⟩ := h
        refine m_aald hX hw (t := 4) (by decide) hT17 hc18 dX11_service_42 ?_
        obtain ⟨b19, hb19, h⟩ := h
        rw [hb19]
        refine W.eq (g2 := F0 _ _ _ (.ref b19 :: _)) rfl ?_
        refine m_ci (m_runS (rest := []) hX hw (tX11_lackOf_ h) mtX11_lackOf_ k_581 k_582 ⟨⟨rfl, rfl, Nat.le_of_ble_eq_true rfl, Nat.le_of_ble_eq_true rfl⟩, Nat.le_of_ble_eq_true rfl, Nat.le_of_ble_eq_true rfl⟩ rfl hl.1 rfl (Nat.le_of_ble_eq_true rfl) dX11_service_43) hw (fun r20 σ21 H locs h hw => ?_)
        refine lv_istore (lv' := [(6, _), (0, _), (1, _), (2, _), (3, _), (4, _), (5, _)]) hx hb dX11_service_46 hl (by decide) rfl (fun ls hl => ?_)
        refine lv_iload hx hb dX11_service_48 (lv_at hl 0 rfl) ?_
        refine lv_if_eq (tgt := 60) hx hb dX11_service_50 (by decide) (fun hc22 => ?_) (fun hc22 => ?_)
        · have h := h.1 hc22
          refine lv_aload_n hx hb dX11_service_60 rfl (lv_at hl 1 rfl) ?_
          obtain ⟨hT23, h⟩ := h
          obtain ⟨b24, hb24, h⟩ := h
          refine m_get hX hw cl11 hT23 0 (by decide) k_249 (fun _ h => h) (v := .ref b24) (congrArg va_rf hb24) dX11_service_61 ?_
          refine lv_iload_n hx hb dX11_service_64 rfl (lv_at hl 4 rfl) ?_
          obtain ⟨hT25, h⟩ := h
          obtain ⟨hc26, h⟩ := h
          refine m_aald hX hw (t := 4) (by decide) hT25 hc26 dX11_service_65 ?_
          obtain ⟨b27, hb27, h⟩ := h
          rw [hb27]
          refine W.eq (g2 := F0 _ _ _ (.ref b27 :: _)) rfl ?_
          refine lv_astore (lv' := [(7, _), (6, _), (0, _), (1, _), (2, _), (3, _), (4, _), (5, _)]) hx hb dX11_service_66 hl (by decide) rfl (fun ls hl => ?_)
          refine lv_aload_n hx hb dX11_service_68 rfl (lv_at hl 2 rfl) ?_
          obtain ⟨b28, hb28, h⟩ := h
          refine m_get hX hw cl11 hT23 5 (by decide) k_254 (fun _ h => h) (v := .ref b28) (congrArg va_rf hb28) dX11_service_69 ?_
          refine lv_aload hx hb dX11_service_72 (lv_at hl 0 rfl) ?_
          obtain ⟨hT31, h⟩ := h
          refine m_cv (m_runV (rest := []) hX hw (tX6_reckon h) mtX6_reckon k_584 ⟨k_585, k_586⟩ cl6 hT31 ⟨⟨rfl, rfl, Nat.le_of_ble_eq_true rfl, Nat.le_of_ble_eq_true rfl⟩, Nat.le_of_ble_eq_true rfl, Nat.le_of_ble_eq_true rfl⟩ rfl hl.1 rfl (Nat.le_of_ble_eq_true rfl) dX11_service_74) hw (fun σ30 H locs h hw => ?_)
          refine lv_aload_n hx hb dX11_service_77 rfl (lv_at hl 2 rfl) ?_
          obtain ⟨hT32, h⟩ := h
          obtain ⟨b33, hb33, h⟩ := h
          refine m_get hX hw cl11 hT32 6 (by decide) k_255 (fun _ h => h) (v := .ref b33) (congrArg va_rf hb33) dX11_service_78 ?_
          refine lv_aload_n hx hb dX11_service_81 rfl (lv_at hl 2 rfl) ?_
          obtain ⟨b34, hb34, h⟩ := h
          refine m_get hX hw cl11 hT32 3 (by decide) k_252 (fun _ h => h) (v := .ref b34) (congrArg va_rf hb34) dX11_service_82 ?_
          refine lv_iload_n hx hb dX11_service_85 rfl (lv_at hl 4 rfl) ?_
          obtain ⟨hT35, h⟩ := h
          obtain ⟨hc36, h⟩ := h
          refine m_aald hX hw (t := 5) (by decide) hT35 hc36 dX11_service_86 ?_
          obtain ⟨b37, hb37, h⟩ := h
          rw [hb37]
          refine W.eq (g2 := F0 _ _ _ (.ref b37 :: _)) rfl ?_
          obtain ⟨hT40, h⟩ := h
          refine m_cv (m_runV (rest := []) hX hw (tX10_useRule h) mtX10_useRule k_602 ⟨k_603, k_604⟩ cl10 hT40 ⟨⟨rfl, rfl, Nat.le_of_ble_eq_true rfl, Nat.le_of_ble_eq_true rfl⟩, Nat.le_of_ble_eq_true rfl, Nat.le_of_ble_eq_true rfl⟩ rfl hl.1 rfl (Nat.le_of_ble_eq_true rfl) dX11_service_87) hw (fun σ39 H locs h hw => ?_)
          refine lv_iload_n hx hb dX11_service_90 rfl (lv_at hl 3 rfl) ?_
          refine lv_if_ne (tgt := 119) hx hb dX11_service_91 (by decide) (fun hc41 => ?_) (fun hc41 => ?_)
          · have h := h.2 hc41
            refine lv_aload_n hx hb dX11_service_119 rfl (lv_at hl 2 rfl) ?_
            obtain ⟨hT42, h⟩ := h
            obtain ⟨b43, hb43, h⟩ := h
            refine m_get hX hw cl11 hT42 6 (by decide) k_255 (fun _ h => h) (v := .ref b43) (congrArg va_rf hb43) dX11_service_120 ?_
            refine lv_aload hx hb dX11_service_123 (lv_at hl 0 rfl) ?_
            refine lv_iload hx hb dX11_service_125 (lv_at hl 6 rfl) ?_
            refine lv_iload hx hb dX11_service_127 (lv_at hl 7 rfl) ?_
            refine lv_ldc2 hx hb hown (hts _ k_608) dX11_service_129 ?_
            obtain ⟨hT46, h⟩ := h
            refine m_cl (m_runV (rest := []) hX hw (tX10_follow h) mtX10_follow k_609 ⟨k_610, k_611⟩ cl10 hT46 ⟨⟨rfl, rfl, Nat.le_of_ble_eq_true rfl, Nat.le_of_ble_eq_true rfl⟩, Nat.le_of_ble_eq_true rfl, Nat.le_of_ble_eq_true rfl⟩ rfl hl.1 rfl (Nat.le_of_ble_eq_true rfl) dX11_service_132) hw (fun r44 σ45 H locs h hw => ?_)
            refine lv_pop2_2 hx hb dX11_service_135 rfl ?_
            refine lv_iload_n hx hb dX11_service_136 rfl (lv_at hl 3 rfl) ?_
            refine lv_iconst (v := 1) hx hb dX11_service_137 (by decide) ?_
            refine lv_icmp_ne (tgt := 172) hx hb dX11_service_138 (by decide) (fun hc47 => ?_) (fun hc47 => ?_)
            · have h := h.2 hc47
              refine lv_aload_n hx hb dX11_service_172 rfl (lv_at hl 2 rfl) ?_
              refine lv_aload_n hx hb dX11_service_173 rfl (lv_at hl 2 rfl) ?_
              obtain ⟨hT48, h⟩ := h
              obtain ⟨b49, hb49, h⟩ := h
              refine m_get hX hw cl11 hT48 6 (by decide) k_255 (fun _ h => h) (v := .ref b49) (congrArg va_rf hb49) dX11_service_174 ?_
              obtain ⟨hT50, h⟩ := h
              refine m_get hX hw cl10 hT50 7 (by decide) k_175 (fun _ h => h) (v := .long _) rfl dX11_service_177 ?_
              refine lv_iload hx hb dX11_service_180 (lv_at hl 7 rfl) ?_
              refine lv_i2l hx hb dX11_service_182 rfl ?_
              refine lv_aload hx hb dX11_service_183 (lv_at hl 0 rfl) ?_
              refine lv_iload hx hb dX11_service_185 (lv_at hl 7 rfl) ?_
              refine m_cl (m_runS (rest := [_, _, _]) hX hw (tX11_rowsOf h) mtX11_rowsOf k_694 k_692 ⟨⟨rfl, rfl, Nat.le_of_ble_eq_true rfl, Nat.le_of_ble_eq_true rfl⟩, Nat.le_of_ble_eq_true rfl, Nat.le_of_ble_eq_true rfl⟩ rfl hl.1 rfl (Nat.le_of_ble_eq_true rfl) dX11_service_187) hw (fun r51 σ52 H locs h hw => ?_)
              refine lv_lmul hx hb dX11_service_190 ?_
              obtain ⟨hT55, h⟩ := h
              refine m_ci (m_runV (rest := []) hX hw (tX11_tell h) mtX11_tell k_695 ⟨k_697, k_9⟩ cl11 hT55 ⟨⟨rfl, rfl, Nat.le_of_ble_eq_true rfl, Nat.le_of_ble_eq_true rfl⟩, Nat.le_of_ble_eq_true rfl, Nat.le_of_ble_eq_true rfl⟩ rfl hl.1 rfl (Nat.le_of_ble_eq_true rfl) dX11_service_191) hw (fun r53 σ54 H locs h hw => ?_)
              exact m_iret hX hlk hr hw h dX11_service_194
            · have h := h.1 hc47
              refine lv_aload_n hx hb dX11_service_141 rfl (lv_at hl 2 rfl) ?_
              refine lv_aload_n hx hb dX11_service_142 rfl (lv_at hl 2 rfl) ?_
              obtain ⟨hT56, h⟩ := h
              obtain ⟨b57, hb57, h⟩ := h
              refine m_get hX hw cl11 hT56 6 (by decide) k_255 (fun _ h => h) (v := .ref b57) (congrArg va_rf hb57) dX11_service_143 ?_
              obtain ⟨hT58, h⟩ := h
              refine m_get hX hw cl10 hT58 6 (by decide) k_173 (fun _ h => h) (v := .long _) rfl dX11_service_146 ?_
              refine lv_iload hx hb dX11_service_149 (lv_at hl 7 rfl) ?_
              refine lv_aload hx hb dX11_service_151 (lv_at hl 0 rfl) ?_
              obtain ⟨hT61, h⟩ := h
              refine m_ci (m_runV (rest := [_, _, _]) hX hw (tX1_weightedDemands h) mtX1_weightedDemands k_354 ⟨k_355, k_356⟩ cl1 hT61 ⟨⟨rfl, rfl, Nat.le_of_ble_eq_true rfl, Nat.le_of_ble_eq_true rfl⟩, Nat.le_of_ble_eq_true rfl, Nat.le_of_ble_eq_true rfl⟩ rfl hl.1 rfl (Nat.le_of_ble_eq_true rfl) dX11_service_153) hw (fun r59 σ60 H locs h hw => ?_)
              refine lv_imul hx hb dX11_service_156 ?_
              refine lv_i2l hx hb dX11_service_157 rfl ?_
              refine lv_aload hx hb dX11_service_158 (lv_at hl 0 rfl) ?_
              refine lv_iload hx hb dX11_service_160 (lv_at hl 7 rfl) ?_
              refine lv_iconst (v := 1) hx hb dX11_service_162 (by decide) ?_
              refine lv_isub hx hb dX11_service_163 ?_
              refine m_cl (m_runS (rest := [_, _, _]) hX hw (tX11_rowsOf h) mtX11_rowsOf k_694 k_692 ⟨⟨rfl, rfl, Nat.le_of_ble_eq_true rfl, Nat.le_of_ble_eq_true rfl⟩, Nat.le_of_ble_eq_true rfl, Nat.le_of_ble_eq_true rfl⟩ rfl hl.1 rfl (Nat.le_of_ble_eq_true rfl) dX11_service_164) hw (fun r62 σ63 H locs h hw => ?_)
              refine lv_lmul hx hb dX11_service_167 ?_
              obtain ⟨hT66, h⟩ := h
              refine m_ci (m_runV (rest := []) hX hw (tX11_tell h) mtX11_tell k_695 ⟨k_697, k_9⟩ cl11 hT66 ⟨⟨rfl, rfl, Nat.le_of_ble_eq_true rfl, Nat.le_of_ble_eq_true rfl⟩, Nat.le_of_ble_eq_true rfl, Nat.le_of_ble_eq_true rfl⟩ rfl hl.1 rfl (Nat.le_of_ble_eq_true rfl) dX11_service_168) hw (fun r64 σ65 H locs h hw => ?_)
              exact m_iret hX hlk hr hw h dX11_service_171
          · have h := h.1 hc41
            refine lv_aload_n hx hb dX11_service_94 rfl (lv_at hl 2 rfl) ?_
            refine lv_aload_n hx hb dX11_service_95 rfl (lv_at hl 2 rfl) ?_
            obtain ⟨hT67, h⟩ := h
            obtain ⟨b68, hb68, h⟩ := h
            refine m_get hX hw cl11 hT67 6 (by decide) k_255 (fun _ h => h) (v := .ref b68) (congrArg va_rf hb68) dX11_service_96 ?_
            refine lv_aload hx hb dX11_service_99 (lv_at hl 0 rfl) ?_
            refine lv_iload hx hb dX11_service_101 (lv_at hl 6 rfl) ?_
            refine lv_iload hx hb dX11_service_103 (lv_at hl 7 rfl) ?_
            obtain ⟨hT71, h⟩ := h
            refine m_cl (m_runV (rest := [_]) hX hw (tX10_followUnbroken h) mtX10_followUnbroken k_706 ⟨k_707, k_708⟩ cl10 hT71 ⟨⟨rfl, rfl, Nat.le_of_ble_eq_true rfl, Nat.le_of_ble_eq_true rfl⟩, Nat.le_of_ble_eq_true rfl, Nat.le_of_ble_eq_true rfl⟩ rfl hl.1 rfl (Nat.le_of_ble_eq_true rfl) dX11_service_105) hw (fun r69 σ70 H locs h hw => ?_)
            refine lv_aload hx hb dX11_service_108 (lv_at hl 0 rfl) ?_
            refine lv_iload hx hb dX11_service_110 (lv_at hl 7 rfl) ?_
            refine m_cl (m_runS (rest := [_, _]) hX hw (tX11_rowsOf h) mtX11_rowsOf k_694 k_692 ⟨⟨rfl, rfl, Nat.le_of_ble_eq_true rfl, Nat.le_of_ble_eq_true rfl⟩, Nat.le_of_ble_eq_true rfl, Nat.le_of_ble_eq_true rfl⟩ rfl hl.1 rfl (Nat.le_of_ble_eq_true rfl) dX11_service_112) hw (fun r72 σ73 H locs h hw => ?_)
            obtain ⟨hT76, h⟩ := h
            refine m_ci (m_runV (rest := []) hX hw (tX11_tell h) mtX11_tell k_695 ⟨k_697, k_9⟩ cl11 hT76 ⟨⟨rfl, rfl, Nat.le_of_ble_eq_true rfl, Nat.le_of_ble_eq_true rfl⟩, Nat.le_of_ble_eq_true rfl, Nat.le_of_ble_eq_true rfl⟩ rfl hl.1 rfl (Nat.le_of_ble_eq_true rfl) dX11_service_115) hw (fun r74 σ75 H locs h hw => ?_)
            exact m_iret hX hlk hr hw h dX11_service_118
        · have h := h.2 hc22
          refine lv_aload_n hx hb dX11_service_53 rfl (lv_at hl 1 rfl) ?_
          refine lv_iload hx hb dX11_service_54 (lv_at hl 0 rfl) ?_
          obtain ⟨hT79, h⟩ := h
          refine m_ci (m_runV (rest := []) hX hw (tX11_refuse h) mtX11_refuse k_322 ⟨k_324, k_0⟩ cl11 hT79 ⟨⟨rfl, rfl, Nat.le_of_ble_eq_true rfl, Nat.le_of_ble_eq_true rfl⟩, Nat.le_of_ble_eq_true rfl, Nat.le_of_ble_eq_true rfl⟩ rfl hl.1 rfl (Nat.le_of_ble_eq_true rfl) dX11_service_56) hw (fun r77 σ78 H locs h hw => ?_)
          exact m_iret hX hlk hr hw h dX11_service_59
      · have h := h.1 hc11
        refine lv_iconst (v := (-1)) hx hb dX11_service_29 (by decide) ?_
        exact m_iret hX hlk hr hw h dX11_service_30
theorem mtX11_service : Mth yX11_service cX11_service 8 (some .int) 5 := ⟨k_705, k_43, by decide +kernel⟩
theorem tX11_service {l : Launch} {D : va_G} {cA : Nat → ClassId} {z0 : Nat} {σ : Me} {a0 : Nat} {x1 : Int32} {x2 : Int32} {x3 : Int32} {x4 : Int32} {x5 : Int32} {Q : Int32 → Me → Prop} (h : pX11_service σ a0 x1 x2 x3 x4 x5 Q) : Met l yX11_service (Cond.code yX11_service cX11_service 8 (some .int) :: gTab) rX11_service (PcM D cA z0 σ [.ref a0, .int x1, .int x2, .int x3, .int x4, .int x5]) (va_Qi Q (BM D cA z0) (AM z0)) 0 0 (AM z0) :=
  met_of (by decide) (Nat.le_of_ble_eq_true rfl) (fun hX hlk hr hn hw hl => wX11_service hX hlk hr h hw hl)
