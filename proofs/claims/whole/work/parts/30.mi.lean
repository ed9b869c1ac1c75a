abbrev rX11_doubt : Room := { frames := 2, cells := 0, slots := 0, locals := 56 }
def pX11_doubt (σ : Me) (a0 : Nat) (x1 : Int32) (x2 : Int32) (x3 : Int32) (x4 : Int32) (Q : Int32 → Me → Prop) : Prop := pX11_isBook σ x1 (fun r1 σ2 => (r1 = 0 → Q ((-1 : Int32)) σ2) ∧ (¬ r1 = 0 → pX11_isBook σ2 x2 (fun r4 σ5 => (r4 = 0 → Q ((-1 : Int32)) σ5) ∧ (¬ r4 = 0 → (x1 = x2 → Q ((-1 : Int32)) σ5) ∧ (¬ x1 = x2 → pX11_isWithin σ5 x3 ((1 : Int32)) ((9 : Int32)) (fun r8 σ9 => (r8 = 0 → Q ((-1 : Int32)) σ9) ∧ (¬ r8 = 0 → pX11_isWithin σ9 x4 ((1 : Int32)) ((9 : Int32)) (fun r11 σ12 => (r11 = 0 → Q ((-1 : Int32)) σ12) ∧ (¬ r11 = 0 → gT σ12 a0 = 11 ∧ ∃ b15 : Nat, gP σ12 a0 0 = some b15 ∧ gT σ12 b15 = 24 ∧ vp_in x1 (gN σ12 b15) ∧ ∃ b18 : Nat, gP σ12 b15 x1.toNatClampNeg = some b18 ∧ gT σ12 b18 = 1 ∧ ((gI σ12 b18 0) = 0 → pX11_refuse σ12 a0 ((1 : Int32)) (fun r21 σ22 => Q r21 σ22)) ∧ (¬ (gI σ12 b18 0) = 0 → vp_in x2 (gN σ12 b15) ∧ ∃ b24 : Nat, gP σ12 b15 x2.toNatClampNeg = some b24 ∧ gT σ12 b24 = 1 ∧ ((gI σ12 b24 0) = 0 → pX11_refuse σ12 a0 ((1 : Int32)) (fun r92 σ93 => Q r92 σ93)) ∧ (¬ (gI σ12 b24 0) = 0 → vp_in x1 (gN σ12 b15) ∧ ∃ b28 : Nat, gP σ12 b15 x1.toNatClampNeg = some b28 ∧ gT σ12 b28 = 1 ∧ pX1_weightOfAll σ12 b28 (fun r29 σ30 => (r29 = 0 → gT σ30 a0 = 11 ∧ pX11_refuse σ30 a0 ((4 : Int32)) (fun r33 σ34 => Q r33 σ34)) ∧ (¬ r29 = 0 → gT σ30 a0 = 11 ∧ ∃ b37 : Nat, gP σ30 a0 0 = some b37 ∧ gT σ30 b37 = 24 ∧ vp_in x2 (gN σ30 b37) ∧ ∃ b40 : Nat, gP σ30 b37 x2.toNatClampNeg = some b40 ∧ gT σ30 b40 = 1 ∧ pX1_weightOfAll σ30 b40 (fun r41 σ42 => (r41 = 0 → gT σ42 a0 = 11 ∧ pX11_refuse σ42 a0 ((4 : Int32)) (fun r89 σ90 => Q r89 σ90)) ∧ (¬ r41 = 0 → gT σ42 a0 = 11 ∧ ∃ b46 : Nat, gP σ42 a0 0 = some b46 ∧ gT σ42 b46 = 24 ∧ vp_in x1 (gN σ42 b46) ∧ ∃ b49 : Nat, gP σ42 b46 x1.toNatClampNeg = some b49 ∧ pX11_weightOfSeen σ42 a0 b49 (fun r50 σ51 => gT σ51 a0 = 11 ∧ ∃ b53 : Nat, gP σ51 a0 0 = some b53 ∧ gT σ51 b53 = 24 ∧ vp_in x2 (gN σ51 b53) ∧ ∃ b56 : Nat, gP σ51 b53 x2.toNatClampNeg = some b56 ∧ pX11_rowsOf σ51 b56 (gI σ51 a0 13) (fun r57 σ58 => ∀ x5_59 : Int64, x5_59 = ((x3.toInt64 * r50) * r57) → gT σ58 a0 = 11 ∧ ∃ b61 : Nat, gP σ58 a0 0 = some b61 ∧ gT σ58 b61 = 24 ∧ vp_in x2 (gN σ58 b61) ∧ ∃ b64 : Nat, gP σ58 b61 x2.toNatClampNeg = some b64 ∧ pX11_weightOfSeen σ58 a0 b64 (fun r65 σ66 => gT σ66 a0 = 11 ∧ ∃ b68 : Nat, gP σ66 a0 0 = some b68 ∧ gT σ66 b68 = 24 ∧ vp_in x1 (gN σ66 b68) ∧ ∃ b71 : Nat, gP σ66 b68 x1.toNatClampNeg = some b71 ∧ pX11_rowsOf σ66 b71 (gI σ66 a0 13) (fun r72 σ73 => ∀ x7_74 : Int64, x7_74 = ((x4.toInt64 * r65) * r72) → ((x5_59 + x7_74) = ((0 : Int64)) → gT σ73 a0 = 11 ∧ pX11_refuse σ73 a0 ((4 : Int32)) (fun r86 σ87 => Q r86 σ87)) ∧ (¬ (x5_59 + x7_74) = ((0 : Int64)) → gT σ73 a0 = 11 ∧ pX11_tell σ73 a0 x5_59 (x5_59 + x7_74) (fun r83 σ84 => Q r83 σ84)))))))))))))))))))))
set_option maxHeartbeats 4000000 in
set_option maxRecDepth 100000 in
theorem wX11_doubt {p : Program} {l : Launch} {e : Env} {s : State} {m : MethodId} {args : Array Value} {below : List Frame} {meth : Method} {c : Code} {D : va_G} {cA : Nat → ClassId} {z0 : Nat} (hX : Cx p m c cX11_doubt 9 s args RX11 D cA) (hlk : meth.locks = false) (hr : meth.sig.returnType = (some .int)) {σ : Me} {a0 : Nat} {x1 : Int32} {x2 : Int32} {x3 : Int32} {x4 : Int32} {Q : Int32 → Me → Prop} (h : pX11_doubt σ a0 x1 x2 x3 x4 Q) {H : Heap} {locs : List Loc} {ls : Array Slot} (hw : wS D cA z0 s σ H locs) (hl : lv_has ls 9 [(0, .ref a0), (1, .int x1), (2, .int x2), (3, .int x3), (4, .int x4)]) : W p l e rX11_doubt s m args below meth c H locs 0 0 (MQ below (va_Qi Q (BM D cA z0) (AM z0)) args s 0 0 (AM z0)) (F0 m 0 ls []) := by
  have hx := hX.1.1
  have hb := hX.1.2.1
  have hown := hX.1.2.2.2.1
  have hts := hX.1.2.2.2.2
  unfold pX11_doubt at h
  refine lv_iload_n hx hb dX11_doubt_0 rfl (lv_at hl 1 rfl) ?_
  refine m_ci (m_runS (rest := []) hX hw (tX11_isBook h) mtX11_isBook k_308 k_309 ⟨⟨rfl, rfl, Nat.le_of_ble_eq_true rfl, Nat.le_of_ble_eq_true rfl⟩, Nat.le_of_ble_eq_true rfl, Nat.le_of_ble_eq_true rfl⟩ rfl hl.1 rfl (Nat.le_of_ble_eq_true rfl) dX11_doubt_1) hw (fun r1 σ2 H locs h hw => ?_)
  refine lv_if_eq (tgt := 19) hx hb dX11_doubt_4 (by decide) (fun hc3 => ?_) (fun hc3 => ?_)
  · have h := h.1 hc3
    refine lv_iconst (v := (-1)) hx hb dX11_doubt_19 (by decide) ?_
    exact m_iret hX hlk hr hw h dX11_doubt_20
  · have h := h.2 hc3
    refine lv_iload_n hx hb dX11_doubt_7 rfl (lv_at hl 2 rfl) ?_
    refine m_ci (m_runS (rest := []) hX hw (tX11_isBook h) mtX11_isBook k_308 k_309 ⟨⟨rfl, rfl, Nat.le_of_ble_eq_true rfl, Nat.le_of_ble_eq_true rfl⟩, Nat.le_of_ble_eq_true rfl, Nat.le_of_ble_eq_true rfl⟩ rfl hl.1 rfl (Nat.le_of_ble_eq_true rfl) dX11_doubt_8) hw (fun r4 σ5 H locs h hw => ?_)
    refine lv_if_eq (tgt := 19) hx hb dX11_doubt_11 (by decide) (fun hc6 => ?_) (fun hc6 => ?_)
    · have h := h.1 hc6
      refine lv_iconst (v := (-1)) hx hb dX11_doubt_19 (by decide) ?_
      exact m_iret hX hlk hr hw h dX11_doubt_20
    · have h := h.2 hc6
      refine lv_iload_n hx hb dX11_doubt_14 rfl (lv_at hl 1 rfl) ?_
      refine lv_iload_n hx hb dX11_doubt_15 rfl (lv_at hl 2 rfl) ?_
      refine lv_icmp_ne (tgt := 21) hx hb dX11_doubt_16 (by decide) (fun hc7 => ?_) (fun hc7 => ?_)
      · have h := h.2 hc7
        refine lv_iload_n hx hb dX11_doubt_21 rfl (lv_at hl 3 rfl) ?_
        refine lv_iconst (v := 1) hx hb dX11_doubt_22 (by decide) ?_
        refine lv_bipush (v := 9) hx hb dX11_doubt_23 (by decide) ?_
        refine m_ci (m_runS (rest := []) hX hw (tX11_isWithin h) mtX11_isWithin k_311 k_312 ⟨⟨rfl, rfl, Nat.le_of_ble_eq_true rfl, Nat.le_of_ble_eq_true rfl⟩, Nat.le_of_ble_eq_true rfl, Nat.le_of_ble_eq_true rfl⟩ rfl hl.1 rfl (Nat.le_of_ble_eq_true rfl) dX11_doubt_25) hw (fun r8 σ9 H locs h hw => ?_)
        refine lv_if_eq (tgt := 42) hx hb dX11_doubt_28 (by decide) (fun hc10 => ?_) (fun hc10 => ?_)
        · have h := h.1 hc10
          refine lv_iconst (v := (-1)) hx hb dX11_doubt_42 (by decide) ?_
          exact m_iret hX hlk hr hw h dX11_doubt_43
        · have h := h.2 hc10
          refine lv_iload hx hb dX11_doubt_31 (lv_at hl 4 rfl) ?_
          refine lv_iconst (v := 1) hx hb dX11_doubt_33 (by decide) ?_
          refine lv_bipush (v := 9) hx hb dX11_doubt_34 (by decide) ?_
          refine m_ci (m_runS (rest := []) hX hw (tX11_isWithin h) mtX11_isWithin k_311 k_312 ⟨⟨rfl, rfl, Nat.le_of_ble_eq_true rfl, Nat.le_of_ble_eq_true rfl⟩, Nat.le_of_ble_eq_true rfl, Nat.le_of_ble_eq_true rfl⟩ rfl hl.1 rfl (Nat.le_of_ble_eq_true rfl) dX11_doubt_36) hw (fun r11 σ12 H locs h hw => ?_)
          refine lv_if_ne (tgt := 44) hx hb dX11_doubt_39 (by decide) (fun hc13 => ?_) (fun hc13 => ?_)
          · have h := h.2 hc13
            refine lv_aload_n hx hb dX11_doubt_44 rfl (lv_at hl 0 rfl) ?_
            obtain ⟨hT14, h⟩ := h
            obtain ⟨b15, hb15, h⟩ := h
            refine m_get hX hw cl11 hT14 0 (by decide) k_249 (fun _ h => h) (v := .ref b15) (congrArg va_rf hb15) dX11_doubt_45 ?_
            refine lv_iload_n hx hb dX11_doubt_48 rfl (lv_at hl 1 rfl) ?_
            obtain ⟨hT16, h⟩ := h
            obtain ⟨hc17, h⟩ := h
            refine m_aald hX hw (t := 4) (by decide) hT16 hc17 dX11_doubt_49 ?_
            obtain ⟨b18, hb18, h⟩ := h
            rw [hb18]
            refine W.eq (g2 := F0 _ _ _ (.ref b18 :: _)) rfl ?_
            obtain ⟨hT19, h⟩ := h
            refine m_get hX hw cl1 hT19 0 (by decide) k_126 (fun _ h => h) (v := .int _) rfl dX11_doubt_50 ?_
            refine lv_if_eq (tgt := 68) hx hb dX11_doubt_53 (by decide) (fun hc20 => ?_) (fun hc20 => ?_)
            · have h := h.1 hc20
              refine lv_aload_n hx hb dX11_doubt_68 rfl (lv_at hl 0 rfl) ?_
              refine lv_iconst (v := 1) hx hb dX11_doubt_69 (by decide) ?_
              refine m_ci (m_runV (rest := []) hX hw (tX11_refuse h) mtX11_refuse k_322 ⟨k_324, k_0⟩ cl11 hT14 ⟨⟨rfl, rfl, Nat.le_of_ble_eq_true rfl, Nat.le_of_ble_eq_true rfl⟩, Nat.le_of_ble_eq_true rfl, Nat.le_of_ble_eq_true rfl⟩ rfl hl.1 rfl (Nat.le_of_ble_eq_true rfl) dX11_doubt_70) hw (fun r21 σ22 H locs h hw => ?_)
              exact m_iret hX hlk hr hw h dX11_doubt_73
            · have h := h.2 hc20
              refine lv_aload_n hx hb dX11_doubt_56 rfl (lv_at hl 0 rfl) ?_
              refine m_get hX hw cl11 hT14 0 (by decide) k_249 (fun _ h => h) (v := .ref b15) (congrArg va_rf hb15) dX11_doubt_57 ?_
              refine lv_iload_n hx hb dX11_doubt_60 rfl (lv_at hl 2 rfl) ?_
              obtain ⟨hc23, h⟩ := h
              refine m_aald hX hw (t := 4) (by decide) hT16 hc23 dX11_doubt_61 ?_
              obtain ⟨b24, hb24, h⟩ := h
              rw [hb24]
              refine W.eq (g2 := F0 _ _ _ (.ref b24 :: _)) rfl ?_
              obtain ⟨hT25, h⟩ := h
              refine m_get hX hw cl1 hT25 0 (by decide) k_126 (fun _ h => h) (v := .int _) rfl dX11_doubt_62 ?_
              refine lv_if_ne (tgt := 74) hx hb dX11_doubt_65 (by decide) (fun hc26 => ?_) (fun hc26 => ?_)
              · have h := h.2 hc26
                refine lv_aload_n hx hb dX11_doubt_74 rfl (lv_at hl 0 rfl) ?_
                refine m_get hX hw cl11 hT14 0 (by decide) k_249 (fun _ h => h) (v := .ref b15) (congrArg va_rf hb15) dX11_doubt_75 ?_
                refine lv_iload_n hx hb dX11_doubt_78 rfl (lv_at hl 1 rfl) ?_
                obtain ⟨hc27, h⟩ := h
                refine m_aald hX hw (t := 4) (by decide) hT16 hc27 dX11_doubt_79 ?_
                obtain ⟨b28, hb28, h⟩ := h
                rw [hb28]
                refine W.eq (g2 := F0 _ _ _ (.ref b28 :: _)) rfl ?_
                obtain ⟨hT31, h⟩ := h
                refine m_ci (m_runV (rest := []) hX hw (tX1_weightOfAll h) mtX1_weightOfAll k_350 ⟨k_351, k_352⟩ cl1 hT31 ⟨⟨rfl, rfl, Nat.le_of_ble_eq_true rfl, Nat.le_of_ble_eq_true rfl⟩, Nat.le_of_ble_eq_true rfl, Nat.le_of_ble_eq_true rfl⟩ rfl hl.1 rfl (Nat.le_of_ble_eq_true rfl) dX11_doubt_80) hw (fun r29 σ30 H locs h hw => ?_)
                refine lv_if_eq (tgt := 98) hx hb dX11_doubt_83 (by decide) (fun hc32 => ?_) (fun hc32 => ?_)
                · have h := h.1 hc32
                  refine lv_aload_n hx hb dX11_doubt_98 rfl (lv_at hl 0 rfl) ?_
                  refine lv_iconst (v := 4) hx hb dX11_doubt_99 (by decide) ?_
                  obtain ⟨hT35, h⟩ := h
                  refine m_ci (m_runV (rest := []) hX hw (tX11_refuse h) mtX11_refuse k_322 ⟨k_324, k_0⟩ cl11 hT35 ⟨⟨rfl, rfl, Nat.le_of_ble_eq_true rfl, Nat.le_of_ble_eq_true rfl⟩, Nat.le_of_ble_eq_true rfl, Nat.le_of_ble_eq_true rfl⟩ rfl hl.1 rfl (Nat.le_of_ble_eq_true rfl) dX11_doubt_100) hw (fun r33 σ34 H locs h hw => ?_)
                  exact m_iret hX hlk hr hw h dX11_doubt_103
                · have h := h.2 hc32
                  refine lv_aload_n hx hb dX11_doubt_86 rfl (lv_at hl 0 rfl) ?_
                  obtain ⟨hT36, h⟩ := h
                  obtain ⟨b37, hb37, h⟩ := h
                  refine m_get hX hw cl11 hT36 0 (by decide) k_249 (fun _ h => h) (v := .ref b37) (congrArg va_rf hb37) dX11_doubt_87 ?_
                  refine lv_iload_n hx hb dX11_doubt_90 rfl (lv_at hl 2 rfl) ?_
                  obtain ⟨hT38, h⟩ := h
                  obtain ⟨hc39, h⟩ := h
                  refine m_aald hX hw (t := 4) (by decide) hT38 hc39 dX11_doubt_91 ?_
                  obtain ⟨b40, hb40, h⟩ := h
                  rw [hb40]
                  refine W.eq (g2 := F0 _ _ _ (.ref b40 :: _)) rfl ?_
                  obtain ⟨hT43, h⟩ := h
                  refine m_ci (m_runV (rest := []) hX hw (tX1_weightOfAll h) mtX1_weightOfAll k_350 ⟨k_351, k_352⟩ cl1 hT43 ⟨⟨rfl, rfl, Nat.le_of_ble_eq_true rfl, Nat.le_of_ble_eq_true rfl⟩, Nat.le_of_ble_eq_true rfl, Nat.le_of_ble_eq_true rfl⟩ rfl hl.1 rfl (Nat.le_of_ble_eq_true rfl) dX11_doubt_92) hw (fun r41 σ42 H locs h hw => ?_)
                  refine lv_if_ne (tgt := 104) hx hb dX11_doubt_95 (by decide) (fun hc44 => ?_) (fun hc44 => ?_)
                  · have h := h.2 hc44
                    refine lv_iload_n hx hb dX11_doubt_104 rfl (lv_at hl 3 rfl) ?_
                    refine lv_i2l hx hb dX11_doubt_105 rfl ?_
                    refine lv_aload_n hx hb dX11_doubt_106 rfl (lv_at hl 0 rfl) ?_
                    refine lv_aload_n hx hb dX11_doubt_107 rfl (lv_at hl 0 rfl) ?_
                    obtain ⟨hT45, h⟩ := h
                    obtain ⟨b46, hb46, h⟩ := h
                    refine m_get hX hw cl11 hT45 0 (by decide) k_249 (fun _ h => h) (v := .ref b46) (congrArg va_rf hb46) dX11_doubt_108 ?_
                    refine lv_iload_n hx hb dX11_doubt_111 rfl (lv_at hl 1 rfl) ?_
                    obtain ⟨hT47, h⟩ := h
                    obtain ⟨hc48, h⟩ := h
                    refine m_aald hX hw (t := 4) (by decide) hT47 hc48 dX11_doubt_112 ?_
                    obtain ⟨b49, hb49, h⟩ := h
                    rw [hb49]
                    refine W.eq (g2 := F0 _ _ _ (.ref b49 :: _)) rfl ?_
                    refine m_cl (m_runV (rest := [_]) hX hw (tX11_weightOfSeen h) mtX11_weightOfSeen k_820 ⟨k_822, k_19⟩ cl11 hT45 ⟨⟨rfl, rfl, Nat.le_of_ble_eq_true rfl, Nat.le_of_ble_eq_true rfl⟩, Nat.le_of_ble_eq_true rfl, Nat.le_of_ble_eq_true rfl⟩ rfl hl.1 rfl (Nat.le_of_ble_eq_true rfl) dX11_doubt_113) hw (fun r50 σ51 H locs h hw => ?_)
                    refine lv_lmul hx hb dX11_doubt_116 ?_
                    refine lv_aload_n hx hb dX11_doubt_117 rfl (lv_at hl 0 rfl) ?_
                    obtain ⟨hT52, h⟩ := h
                    obtain ⟨b53, hb53, h⟩ := h
                    refine m_get hX hw cl11 hT52 0 (by decide) k_249 (fun _ h => h) (v := .ref b53) (congrArg va_rf hb53) dX11_doubt_118 ?_
                    refine lv_iload_n hx hb dX11_doubt_121 rfl (lv_at hl 2 rfl) ?_
                    obtain ⟨hT54, h⟩ := h
                    obtain ⟨hc55, h⟩ := h
                    refine m_aald hX hw (t := 4) (by decide) hT54 hc55 dX11_doubt_122 ?_
                    obtain ⟨b56, hb56, h⟩ := h
                    rw [hb56]
                    refine W.eq (g2 := F0 _ _ _ (.ref b56 :: _)) rfl ?_
                    refine lv_aload_n hx hb dX11_doubt_123 rfl (lv_at hl 0 rfl) ?_
                    refine m_get hX hw cl11 hT52 13 (by decide) k_262 (fun _ h => h) (v := .int _) rfl dX11_doubt_124 ?_
                    refine m_cl (m_runS (rest := [_]) hX hw (tX11_rowsOf h) mtX11_rowsOf k_694 k_692 ⟨⟨rfl, rfl, Nat.le_of_ble_eq_true rfl, Nat.le_of_ble_eq_true rfl⟩, Nat.le_of_ble_eq_true rfl, Nat.le_of_ble_eq_true rfl⟩ rfl hl.1 rfl (Nat.le_of_ble_eq_true rfl) dX11_doubt_127) hw (fun r57 σ58 H locs h hw => ?_)
                    refine lv_lmul hx hb dX11_doubt_130 ?_
                    refine lv_topl (fun x5_59 e_x5_59 => ?_)
                    have h := h x5_59 e_x5_59
                    refine lv_lstore (lv' := [(5, _), (0, _), (1, _), (2, _), (3, _), (4, _)]) hx hb dX11_doubt_131 hl (by decide) rfl (fun ls hl => ?_)
                    refine lv_iload hx hb dX11_doubt_133 (lv_at hl 5 rfl) ?_
                    refine lv_i2l hx hb dX11_doubt_135 rfl ?_
                    refine lv_aload_n hx hb dX11_doubt_136 rfl (lv_at hl 1 rfl) ?_
                    refine lv_aload_n hx hb dX11_doubt_137 rfl (lv_at hl 1 rfl) ?_
                    obtain ⟨hT60, h⟩ := h
                    obtain ⟨b61, hb61, h⟩ := h
                    refine m_get hX hw cl11 hT60 0 (by decide) k_249 (fun _ h => h) (v := .ref b61) (congrArg va_rf hb61) dX11_doubt_138 ?_
                    refine lv_iload_n hx hb dX11_doubt_141 rfl (lv_at hl 3 rfl) ?_
                    obtain ⟨hT62, h⟩ := h
                    obtain ⟨hc63, h⟩ := h
                    refine m_aald hX hw (t := 4) (by decide) hT62 hc63 dX11_doubt_142 ?_
                    obtain ⟨b64, hb64, h⟩ := h
                    rw [hb64]
                    refine W.eq (g2 := F0 _ _ _ (.ref b64 :: _)) rfl ?_
                    refine m_cl (m_runV (rest := [_]) hX hw (tX11_weightOfSeen h) mtX11_weightOfSeen k_820 ⟨k_822, k_19⟩ cl11 hT60 ⟨⟨rfl, rfl, Nat.le_of_ble_eq_true rfl, Nat.le_of_ble_eq_true rfl⟩, Nat.le_of_ble_eq_true rfl, Nat.le_of_ble_eq_true rfl⟩ rfl hl.1 rfl (Nat.le_of_ble_eq_true rfl) dX11_doubt_143) hw (fun r65 σ66 H locs h hw => ?_)
                    refine lv_lmul hx hb dX11_doubt_146 ?_
                    refine lv_aload_n hx hb dX11_doubt_147 rfl (lv_at hl 1 rfl) ?_
                    obtain ⟨hT67, h⟩ := h
                    obtain ⟨b68, hb68, h⟩ := h
                    refine m_get hX hw cl11 hT67 0 (by decide) k_249 (fun _ h => h) (v := .ref b68) (congrArg va_rf hb68) dX11_doubt_148 ?_
                    refine lv_iload_n hx hb dX11_doubt_151 rfl (lv_at hl 2 rfl) ?_
                    obtain ⟨hT69, h⟩ := h
                    obtain ⟨hc70, h⟩ := h
                    refine m_aald hX hw (t := 4) (by decide) hT69 hc70 dX11_doubt_152 ?_
                    obtain ⟨b71, hb71, h⟩ := h
                    rw [hb71]
                    refine W.eq (g2 := F0 _ _ _ (.ref b71 :: _)) rfl ?_
                    refine lv_aload_n hx hb dX11_doubt_153 rfl (lv_at hl 1 rfl) ?_
                    refine m_get hX hw cl11 hT67 13 (by decide) k_262 (fun _ h => h) (v := .int _) rfl dX11_doubt_154 ?_
                    refine m_cl (m_runS (rest := [_]) hX hw (tX11_rowsOf h) mtX11_rowsOf k_694 k_692 ⟨⟨rfl, rfl, Nat.le_of_ble_eq_true rfl, Nat.le_of_ble_eq_true rfl⟩, Nat.le_of_ble_eq_true rfl, Nat.le_of_ble_eq_true rfl⟩ rfl hl.1 rfl (Nat.le_of_ble_eq_true rfl) dX11_doubt_157) hw (fun r72 σ73 H locs h hw => ?_)
                    refine lv_lmul hx hb dX11_doubt_160 ?_
                    refine lv_topl (fun x7_74 e_x7_74 => ?_)
                    have h := h x7_74 e_x7_74
                    refine lv_lstore (lv' := [(7, _), (5, _), (0, _), (1, _), (2, _), (3, _), (4, _)]) hx hb dX11_doubt_161 hl (by decide) rfl (fun ls hl => ?_)
                    refine lv_lload hx hb dX11_doubt_163 (lv_at hl 1 rfl) ?_
                    refine lv_lload hx hb dX11_doubt_165 (lv_at hl 0 rfl) ?_
                    refine lv_ladd hx hb dX11_doubt_167 ?_
                    refine lv_lconst (v := 0) hx hb dX11_doubt_168 (by decide) ?_
                    refine m_lne (tgt := 179) hX dX11_doubt_169 dX11_doubt_170 (by decide) (fun hc82 => ?_) (fun hc82 => ?_)
                    · have h := h.2 hc82
                      refine lv_aload_n hx hb dX11_doubt_179 rfl (lv_at hl 2 rfl) ?_
                      refine lv_lload hx hb dX11_doubt_180 (lv_at hl 1 rfl) ?_
                      refine lv_lload hx hb dX11_doubt_182 (lv_at hl 1 rfl) ?_
                      refine lv_lload hx hb dX11_doubt_184 (lv_at hl 0 rfl) ?_
                      refine lv_ladd hx hb dX11_doubt_186 ?_
                      obtain ⟨hT85, h⟩ := h
                      refine m_ci (m_runV (rest := []) hX hw (tX11_tell h) mtX11_tell k_695 ⟨k_697, k_9⟩ cl11 hT85 ⟨⟨rfl, rfl, Nat.le_of_ble_eq_true rfl, Nat.le_of_ble_eq_true rfl⟩, Nat.le_of_ble_eq_true rfl, Nat.le_of_ble_eq_true rfl⟩ rfl hl.1 rfl (Nat.le_of_ble_eq_true rfl) dX11_doubt_187) hw (fun r83 σ84 H locs h hw => ?_)
                      exact m_iret hX hlk hr hw h dX11_doubt_190
                    · have h := h.1 hc82
                      refine lv_aload_n hx hb dX11_doubt_173 rfl (lv_at hl 2 rfl) ?_
                      refine lv_iconst (v := 4) hx hb dX11_doubt_174 (by decide) ?_
                      obtain ⟨hT88, h⟩ := h
                      refine m_ci (m_runV (rest := []) hX hw (tX11_refuse h) mtX11_refuse k_322 ⟨k_324, k_0⟩ cl11 hT88 ⟨⟨rfl, rfl, Nat.le_of_ble_eq_true rfl, Nat.le_of_ble_eq_true rfl⟩, Nat.le_of_ble_eq_true rfl, Nat.le_of_ble_eq_true rfl⟩ rfl hl.1 rfl (Nat.le_of_ble_eq_true rfl) dX11_doubt_175) hw (fun r86 σ87 H locs h hw => ?_)
                      exact m_iret hX hlk hr hw h dX11_doubt_178
                  · have h := h.1 hc44
                    refine lv_aload_n hx hb dX11_doubt_98 rfl (lv_at hl 0 rfl) ?_
                    refine lv_iconst (v := 4) hx hb dX11_doubt_99 (by decide) ?_
                    obtain ⟨hT91, h⟩ := h
                    refine m_ci (m_runV (rest := []) hX hw (tX11_refuse h) mtX11_refuse k_322 ⟨k_324, k_0⟩ cl11 hT91 ⟨⟨rfl, rfl, Nat.le_of_ble_eq_true rfl, Nat.le_of_ble_eq_true rfl⟩, Nat.le_of_ble_eq_true rfl, Nat.le_of_ble_eq_true rfl⟩ rfl hl.1 rfl (Nat.le_of_ble_eq_true rfl) dX11_doubt_100) hw (fun r89 σ90 H locs h hw => ?_)
                    exact m_iret hX hlk hr hw h dX11_doubt_103
              · have h := h.1 hc26
                refine lv_aload_n hx hb dX11_doubt_68 rfl (lv_at hl 0 rfl) ?_
                refine lv_iconst (v := 1) hx hb dX11_doubt_69 (by decide) ?_
                refine m_ci (m_runV (rest := []) hX hw (tX11_refuse h) mtX11_refuse k_322 ⟨k_324, k_0⟩ cl11 hT14 ⟨⟨rfl, rfl, Nat.le_of_ble_eq_true rfl, Nat.le_of_ble_eq_true rfl⟩, Nat.le_of_ble_eq_true rfl, Nat.le_of_ble_eq_true rfl⟩ rfl hl.1 rfl (Nat.le_of_ble_eq_true rfl) dX11_doubt_70) hw (fun r92 σ93 H locs h hw => ?_)
                exact m_iret hX hlk hr hw h dX11_doubt_73
          · have h := h.1 hc13
            refine lv_iconst (v := (-1)) hx hb dX11_doubt_42 (by decide) ?_
            exact m_iret hX hlk hr hw h dX11_doubt_43
      · have h := h.1 hc7
        refine lv_iconst (v := (-1)) hx hb dX11_doubt_19 (by decide) ?_
        exact m_iret hX hlk hr hw h dX11_doubt_20
theorem mtX11_doubt : Mth yX11_doubt cX11_doubt 9 (some .int) 4 := ⟨k_819, k_43, by decide +kernel⟩
theorem tX11_doubt {l : Launch} {D : va_G} {cA : Nat → ClassId} {z0 : Nat} {σ : Me} {a0 : Nat} {x1 : Int32} {x2 : Int32} {x3 : Int32} {x4 : Int32} {Q : Int32 → Me → Prop} (h : pX11_doubt σ a0 x1 x2 x3 x4 Q) : Met l yX11_doubt (Cond.code yX11_doubt cX11_doubt 9 (some .int) :: gTab) rX11_doubt (PcM D cA z0 σ [.ref a0, .int x1, .int x2, .int x3, .int x4]) (va_Qi Q (BM D cA z0) (AM z0)) 0 0 (AM z0) :=
  met_of (by decide) (Nat.le_of_ble_eq_true rfl) (fun hX hlk hr hn hw hl => wX11_doubt hX hlk hr h hw hl)
abbrev rX4_choose : Room := { frames := 3, cells := 0, slots := 0, locals := 75 }
def pX4_choose (σ : Me) (a0 : Nat) (a1 : Nat) (x2 : Int32) (x3 : Int32) (x4 : Int32) (Q : Me → Prop) : Prop := gT σ a0 = 4 ∧ pX4_priceOf σ a0 a1 x2 x3 ((0 : Int32)) (fun r1 σ2 => gT σ2 a0 = 4 ∧ ∀ σ5 : Me, σ5 = sL σ2 a0 5 r1 → ∀ σ6 : Me, σ6 = sI σ5 a0 6 ((0 : Int32)) → ∃ I20 : Nat → Me → Int32 → Prop, (∀ (n20 : Nat) (σ7 : Me) (x5_8 : Int32), I20 n20 σ7 x5_8 → (x4 < x5_8 → Q σ7) ∧ (¬ x4 < x5_8 → gT σ7 a0 = 4 ∧ pX4_priceOf σ7 a0 a1 x2 x3 x5_8 (fun r10 σ11 => gT σ11 a0 = 4 ∧ ((gL σ11 a0 5) ≤ r10 → ∀ x5_16 : Int32, x5_16 = x5_8 + 1 → ∃ m20 : Nat, m20 < n20 ∧ I20 m20 σ11 x5_16) ∧ (¬ (gL σ11 a0 5) ≤ r10 → ∀ σ17 : Me, σ17 = sL σ11 a0 5 r10 → ∀ σ18 : Me, σ18 = sI σ17 a0 6 x5_8 → ∀ x5_19 : Int32, x5_19 = x5_8 + 1 → ∃ m20 : Nat, m20 < n20 ∧ I20 m20 σ18 x5_19)))) ∧ ∃ n20 : Nat, I20 n20 σ6 ((1 : Int32)))
set_option maxHeartbeats 4000000 in
set_option maxRecDepth 100000 in
theorem wX4_choose {p : Program} {l : Launch} {e : Env} {s : State} {m : MethodId} {args : Array Value} {below : List Frame} {meth : Method} {c : Code} {D : va_G} {cA : Nat → ClassId} {z0 : Nat} (hX : Cx p m c cX4_choose 8 s args RX4 D cA) (hlk : meth.locks = false) (hr : meth.sig.returnType = none) {σ : Me} {a0 : Nat} {a1 : Nat} {x2 : Int32} {x3 : Int32} {x4 : Int32} {Q : Me → Prop} (h : pX4_choose σ a0 a1 x2 x3 x4 Q) {H : Heap} {locs : List Loc} {ls : Array Slot} (hw : wS D cA z0 s σ H locs) (hl : lv_has ls 8 [(0, .ref a0), (1, .ref a1), (2, .int x2), (3, .int x3), (4, .int x4)]) : W p l e rX4_choose s m args below meth c H locs 0 0 (MQ below (va_Qv Q (BM D cA z0) (AM z0)) args s 0 0 (AM z0)) (F0 m 0 ls []) := by
  have hx := hX.1.1
  have hb := hX.1.2.1
  have hown := hX.1.2.2.2.1
  have hts := hX.1.2.2.2.2
  unfold pX4_choose at h
  refine lv_aload_n hx hb dX4_choose_0 rfl (lv_at hl 0 rfl) ?_
  refine lv_aload_n hx hb dX4_choose_1 rfl (lv_at hl 0 rfl) ?_
  refine lv_aload_n hx hb dX4_choose_2 rfl (lv_at hl 1 rfl) ?_
  refine lv_iload_n hx hb dX4_choose_3 rfl (lv_at hl 2 rfl) ?_
  refine lv_iload_n hx hb dX4_choose_4 rfl (lv_at hl 3 rfl) ?_
  refine lv_iconst (v := 0) hx hb dX4_choose_5 (by decide) ?_
  obtain ⟨hT3, h⟩ := h
  refine m_cl (m_runV (rest := [_]) hX hw (tX4_priceOf h) mtX4_priceOf k_741 ⟨k_743, k_14⟩ cl4 hT3 ⟨⟨rfl, rfl, Nat.le_of_ble_eq_true rfl, Nat.le_of_ble_eq_true rfl⟩, Nat.le_of_ble_eq_true rfl, Nat.le_of_ble_eq_true rfl⟩ rfl hl.1 rfl (Nat.le_of_ble_eq_true rfl) dX4_choose_6) hw (fun r1 σ2 H locs h hw => ?_)
  obtain ⟨hT4, h⟩ := h
  refine m_putL hX hw cl4 hT4 5 (by decide) k_205 (fun _ h => h) rfl rfl dX4_choose_9 (fun H locs hw => ?_)
  let σ5 : Me := sL σ2 a0 5 r1
  have h := h σ5 rfl
  have hw : wS D cA z0 s σ5 H locs := hw
  refine lv_aload_n hx hb dX4_choose_12 rfl (lv_at hl 0 rfl) ?_
  refine lv_iconst (v := 0) hx hb dX4_choose_13 (by decide) ?_
  refine m_putI hX hw cl4 hT4 6 (by decide) k_207 (fun _ h => h) rfl rfl dX4_choose_14 (fun H locs hw => ?_)
  let σ6 : Me := sI σ5 a0 6 ((0 : Int32))
  have h := h σ6 rfl
  have hw : wS D cA z0 s σ6 H locs := hw
  refine lv_iconst (v := 1) hx hb dX4_choose_17 (by decide) ?_
  refine lv_istore (lv' := [(5, _), (0, _), (1, _), (2, _), (3, _), (4, _)]) hx hb dX4_choose_18 hl (by decide) rfl (fun ls hl => ?_)
  obtain ⟨I20, hI20, n20, h⟩ := h
  have key20 : ∀ (n20 : Nat) (σ7 : Me) (x5_8 : Int32) (H : Heap) (locs : List Loc) (ls : Array Slot), I20 n20 σ7 x5_8 → wS D cA z0 s σ7 H locs → lv_has ls 8 [(0, .ref a0), (1, .ref a1), (2, .int x2), (3, .int x3), (4, .int x4), (5, .int x5_8)] → W p l e rX4_choose s m args below meth c H locs 0 0 (MQ below (va_Qv Q (BM D cA z0) (AM z0)) args s 0 0 (AM z0)) (F0 m 20 ls []) := by
    intro n20
    induction n20 using Nat.strongRecOn with
    | _ n20 ih20 =>
      intro σ7 x5_8 H locs ls h hw hl
      have h := hI20 _ _ _ h
      refine lv_iload hx hb dX4_choose_20 (lv_at hl 5 rfl) ?_
      refine lv_iload hx hb dX4_choose_22 (lv_at hl 4 rfl) ?_
      refine lv_icmp_gt (tgt := 66) hx hb dX4_choose_24 (by decide) (fun hc9 => ?_) (fun hc9 => ?_)
      · have h := h.1 hc9
        exact m_vret hX hlk hr hw h dX4_choose_66
      · have h := h.2 hc9
        refine lv_aload_n hx hb dX4_choose_27 rfl (lv_at hl 0 rfl) ?_
        refine lv_aload_n hx hb dX4_choose_28 rfl (lv_at hl 1 rfl) ?_
        refine lv_iload_n hx hb dX4_choose_29 rfl (lv_at hl 2 rfl) ?_
        refine lv_iload_n hx hb dX4_choose_30 rfl (lv_at hl 3 rfl) ?_
        refine lv_iload hx hb dX4_choose_31 (lv_at hl 5 rfl) ?_
        obtain ⟨hT12, h⟩ := h
        refine m_cl (m_runV (rest := []) hX hw (tX4_priceOf h) mtX4_priceOf k_741 ⟨k_743, k_14⟩ cl4 hT12 ⟨⟨rfl, rfl, Nat.le_of_ble_eq_true rfl, Nat.le_of_ble_eq_true rfl⟩, Nat.le_of_ble_eq_true rfl, Nat.le_of_ble_eq_true rfl⟩ rfl hl.1 rfl (Nat.le_of_ble_eq_true rfl) dX4_choose_33) hw (fun r10 σ11 H locs h hw => ?_)
        refine lv_lstore (lv' := [(6, _), (0, _), (1, _), (2, _), (3, _), (4, _), (5, _)]) hx hb dX4_choose_36 hl (by decide) rfl (fun ls hl => ?_)
        refine lv_lload hx hb dX4_choose_38 (lv_at hl 0 rfl) ?_
        refine lv_aload_n hx hb dX4_choose_40 rfl (lv_at hl 1 rfl) ?_
        obtain ⟨hT13, h⟩ := h
        refine m_get hX hw cl4 hT13 5 (by decide) k_205 (fun _ h => h) (v := .long _) rfl dX4_choose_41 ?_
        refine m_lge (tgt := 60) hX dX4_choose_44 dX4_choose_45 (by decide) (fun hc15 => ?_) (fun hc15 => ?_)
        · have h := h.1 hc15
          obtain ⟨x5_16, e_x5_16⟩ : ∃ y : Int32, y = x5_8 + 1 := ⟨_, rfl⟩
          have h := h x5_16 e_x5_16
          refine lv_iinc (v := x5_16) (lv' := [(5, _), (6, _), (0, _), (1, _), (2, _), (3, _), (4, _)]) hx hb dX4_choose_60 hl (k := 6) rfl (by rw [e_x5_16]; rfl) (by decide) rfl (fun ls hl => ?_)
          refine lv_goto (tgt := 20) hx hb dX4_choose_63 (by decide) ?_
          obtain ⟨m20, hm20, h⟩ := h
          exact ih20 m20 hm20 _ _ _ _ _ h hw (lv_sub hl [2, 3, 4, 5, 6, 0] rfl)
        · have h := h.2 hc15
          refine lv_aload_n hx hb dX4_choose_48 rfl (lv_at hl 1 rfl) ?_
          refine lv_lload hx hb dX4_choose_49 (lv_at hl 0 rfl) ?_
          refine m_putL hX hw cl4 hT13 5 (by decide) k_205 (fun _ h => h) rfl rfl dX4_choose_51 (fun H locs hw => ?_)
          let σ17 : Me := sL σ11 a0 5 r10
          have h := h σ17 rfl
          have hw : wS D cA z0 s σ17 H locs := hw
          refine lv_aload_n hx hb dX4_choose_54 rfl (lv_at hl 1 rfl) ?_
          refine lv_iload hx hb dX4_choose_55 (lv_at hl 6 rfl) ?_
          refine m_putI hX hw cl4 hT13 6 (by decide) k_207 (fun _ h => h) rfl rfl dX4_choose_57 (fun H locs hw => ?_)
          let σ18 : Me := sI σ17 a0 6 x5_8
          have h := h σ18 rfl
          have hw : wS D cA z0 s σ18 H locs := hw
          obtain ⟨x5_19, e_x5_19⟩ : ∃ y : Int32, y = x5_8 + 1 := ⟨_, rfl⟩
          have h := h x5_19 e_x5_19
          refine lv_iinc (v := x5_19) (lv' := [(5, _), (6, _), (0, _), (1, _), (2, _), (3, _), (4, _)]) hx hb dX4_choose_60 hl (k := 6) rfl (by rw [e_x5_19]; rfl) (by decide) rfl (fun ls hl => ?_)
          refine lv_goto (tgt := 20) hx hb dX4_choose_63 (by decide) ?_
          obtain ⟨m20, hm20, h⟩ := h
          exact ih20 m20 hm20 _ _ _ _ _ h hw (lv_sub hl [2, 3, 4, 5, 6, 0] rfl)
  exact key20 _ _ _ _ _ _ h hw (lv_sub hl [1, 2, 3, 4, 5, 0] rfl)
theorem mtX4_choose : Mth yX4_choose cX4_choose 8 none 4 := ⟨k_740, k_48, by decide +kernel⟩
theorem tX4_choose {l : Launch} {D : va_G} {cA : Nat → ClassId} {z0 : Nat} {σ : Me} {a0 : Nat} {a1 : Nat} {x2 : Int32} {x3 : Int32} {x4 : Int32} {Q : Me → Prop} (h : pX4_choose σ a0 a1 x2 x3 x4 Q) : Met l yX4_choose (Cond.code yX4_choose cX4_choose 8 none :: gTab) rX4_choose (PcM D cA z0 σ [.ref a0, .ref a1, .int x2, .int x3, .int x4]) (va_Qv Q (BM D cA z0) (AM z0)) 0 0 (AM z0) :=
  met_of (by decide) (Nat.le_of_ble_eq_true rfl) (fun hX hlk hr hn hw hl => wX4_choose hX hlk hr h hw hl)
abbrev rX7_follow : Room := { frames := 3, cells := 0, slots := 0, locals := 73 }
def pX7_follow (σ : Me) (a0 : Nat) (a1 : Nat) (x2 : Int32) (Q : Int64 → Me → Prop) : Prop := ∃ I2 : Nat → Me → Int32 → Prop, (∀ (n2 : Nat) (σ1 : Me) (x3_2 : Int32), I2 n2 σ1 x3_2 → (x2 < x3_2 → gT σ1 a0 = 7 ∧ Q (gL σ1 a0 5) σ1) ∧ (¬ x2 < x3_2 → gT σ1 a0 = 7 ∧ gT σ1 a1 = 1 ∧ pX1_weightOfAll σ1 a1 (fun r8 σ9 => gT σ9 a0 = 7 ∧ ∀ σ12 : Me, σ12 = sL σ9 a0 5 ((gL σ1 a0 5) * r8.toInt64) → ∃ I24 : Nat → Me → Int32 → Prop, (∀ (n24 : Nat) (σ13 : Me) (x4_14 : Int32), I24 n24 σ13 x4_14 → gT σ13 a0 = 7 ∧ ∃ b16 : Nat, gP σ13 a0 0 = some b16 ∧ gT σ13 b16 = 8 ∧ pX8_places σ13 b16 (fun r17 σ18 => (r17 ≤ x4_14 → gT σ18 a0 = 7 ∧ ∃ b23 : Nat, gP σ18 a0 0 = some b23 ∧ gT σ18 b23 = 8 ∧ pX8_turnToTomorrow σ18 b23 (fun σ25 => ∀ x3_27 : Int32, x3_27 = x3_2 + 1 → ∃ m2 : Nat, m2 < n2 ∧ I2 m2 σ25 x3_27)) ∧ (¬ r17 ≤ x4_14 → gT σ18 a0 = 7 ∧ ∃ b29 : Nat, gP σ18 a0 0 = some b29 ∧ gT σ18 b29 = 8 ∧ pX8_placeAt σ18 b29 x4_14 (fun r30 σ31 => gT σ31 a0 = 7 ∧ pX7_passFrom σ31 a0 r30 a1 (fun σ34 => ∀ x4_36 : Int32, x4_36 = x4_14 + 1 → ∃ m24 : Nat, m24 < n24 ∧ I24 m24 σ34 x4_36))))) ∧ ∃ n24 : Nat, I24 n24 σ12 ((0 : Int32))))) ∧ ∃ n2 : Nat, I2 n2 σ ((1 : Int32))
set_option maxHeartbeats 4000000 in
set_option maxRecDepth 100000 in
theorem wX7_follow {p : Program} {l : Launch} {e : Env} {s : State} {m : MethodId} {args : Array Value} {below : List Frame} {meth : Method} {c : Code} {D : va_G} {cA : Nat → ClassId} {z0 : Nat} (hX : Cx p m c cX7_follow 5 s args RX7 D cA) (hlk : meth.locks = false) (hr : meth.sig.returnType = (some .long)) {σ : Me} {a0 : Nat} {a1 : Nat} {x2 : Int32} {Q : Int64 → Me → Prop} (h : pX7_follow σ a0 a1 x2 Q) {H : Heap} {locs : List Loc} {ls : Array Slot} (hw : wS D cA z0 s σ H locs) (hl : lv_has ls 5 [(0, .ref a0), (1, .ref a1), (2, .int x2)]) : W p l e rX7_follow s m args below meth c H locs 0 0 (MQ below (va_Ql Q (BM D cA z0) (AM z0)) args s 0 0 (AM z0)) (F0 m 0 ls []) := by
  have hx := hX.1.1
  have hb := hX.1.2.1
  have hown := hX.1.2.2.2.1
  have hts := hX.1.2.2.2.2
  unfold pX7_follow at h
  refine lv_iconst (v := 1) hx hb dX7_follow_0 (by decide) ?_
  refine lv_istore_n (lv' := [(3, _), (0, _), (1, _), (2, _)]) hx hb dX7_follow_1 rfl hl (by decide) rfl (fun ls hl => ?_)
  obtain ⟨I2, hI2, n2, h⟩ := h
  have key2 : ∀ (n2 : Nat) (σ1 : Me) (x3_2 : Int32) (H : Heap) (locs : List Loc) (ls : Array Slot), I2 n2 σ1 x3_2 → wS D cA z0 s σ1 H locs → lv_has ls 5 [(0, .ref a0), (1, .ref a1), (2, .int x2), (3, .int x3_2)] → W p l e rX7_follow s m args below meth c H locs 0 0 (MQ below (va_Ql Q (BM D cA z0) (AM z0)) args s 0 0 (AM z0)) (F0 m 2 ls []) := by
    intro n2
    induction n2 using Nat.strongRecOn with
    | _ n2 ih2 =>
      intro σ1 x3_2 H locs ls h hw hl
      have h := hI2 _ _ _ h
      refine lv_iload_n hx hb dX7_follow_2 rfl (lv_at hl 3 rfl) ?_
      refine lv_iload_n hx hb dX7_follow_3 rfl (lv_at hl 2 rfl) ?_
      refine lv_icmp_gt (tgt := 69) hx hb dX7_follow_4 (by decide) (fun hc5 => ?_) (fun hc5 => ?_)
      · have h := h.1 hc5
        refine lv_aload_n hx hb dX7_follow_69 rfl (lv_at hl 0 rfl) ?_
        obtain ⟨hT6, h⟩ := h
        refine m_get hX hw cl7 hT6 5 (by decide) k_235 (fun _ h => h) (v := .long _) rfl dX7_follow_70 ?_
        exact m_lret hX hlk hr hw h dX7_follow_73
      · have h := h.2 hc5
        refine lv_aload_n hx hb dX7_follow_7 rfl (lv_at hl 0 rfl) ?_
        refine lv_dup hx hb dX7_follow_8 rfl ?_
        obtain ⟨hT7, h⟩ := h
        refine m_get hX hw cl7 hT7 5 (by decide) k_235 (fun _ h => h) (v := .long _) rfl dX7_follow_9 ?_
        refine lv_aload_n hx hb dX7_follow_12 rfl (lv_at hl 1 rfl) ?_
        obtain ⟨hT10, h⟩ := h
        refine m_ci (m_runV (rest := [_, _]) hX hw (tX1_weightOfAll h) mtX1_weightOfAll k_793 ⟨k_351, k_352⟩ cl1 hT10 ⟨⟨rfl, rfl, Nat.le_of_ble_eq_true rfl, Nat.le_of_ble_eq_true rfl⟩, Nat.le_of_ble_eq_true rfl, Nat.le_of_ble_eq_true rfl⟩ rfl hl.1 rfl (Nat.le_of_ble_eq_true rfl) dX7_follow_13) hw (fun r8 σ9 H locs h hw => ?_)
        refine lv_i2l hx hb dX7_follow_16 rfl ?_
        refine lv_lmul hx hb dX7_follow_17 ?_
        obtain ⟨hT11, h⟩ := h
        refine m_putL hX hw cl7 hT11 5 (by decide) k_235 (fun _ h => h) rfl rfl dX7_follow_18 (fun H locs hw => ?_)
        let σ12 : Me := sL σ9 a0 5 ((gL σ1 a0 5) * r8.toInt64)
        have h := h σ12 rfl
        have hw : wS D cA z0 s σ12 H locs := hw
        refine lv_iconst (v := 0) hx hb dX7_follow_21 (by decide) ?_
        refine lv_istore (lv' := [(4, _), (0, _), (1, _), (2, _), (3, _)]) hx hb dX7_follow_22 hl (by decide) rfl (fun ls hl => ?_)
        obtain ⟨I24, hI24, n24, h⟩ := h
        have key24 : ∀ (n24 : Nat) (σ13 : Me) (x4_14 : Int32) (H : Heap) (locs : List Loc) (ls : Array Slot), I24 n24 σ13 x4_14 → wS D cA z0 s σ13 H locs → lv_has ls 5 [(0, .ref a0), (1, .ref a1), (2, .int x2), (3, .int x3_2), (4, .int x4_14)] → W p l e rX7_follow s m args below meth c H locs 0 0 (MQ below (va_Ql Q (BM D cA z0) (AM z0)) args s 0 0 (AM z0)) (F0 m 24 ls []) := by
          intro n24
          induction n24 using Nat.strongRecOn with
          | _ n24 ih24 =>
            intro σ13 x4_14 H locs ls h hw hl
            have h := hI24 _ _ _ h
            refine lv_iload hx hb dX7_follow_24 (lv_at hl 4 rfl) ?_
            refine lv_aload_n hx hb dX7_follow_26 rfl (lv_at hl 0 rfl) ?_
            obtain ⟨hT15, h⟩ := h
            obtain ⟨b16, hb16, h⟩ := h
            refine m_get hX hw cl7 hT15 0 (by decide) k_230 (fun _ h => h) (v := .ref b16) (congrArg va_rf hb16) dX7_follow_27 ?_
            obtain ⟨hT19, h⟩ := h
            refine m_ci (m_runV (rest := [_]) hX hw (tX8_places h) mtX8_places k_794 ⟨k_645, k_646⟩ cl8 hT19 ⟨⟨rfl, rfl, Nat.le_of_ble_eq_true rfl, Nat.le_of_ble_eq_true rfl⟩, Nat.le_of_ble_eq_true rfl, Nat.le_of_ble_eq_true rfl⟩ rfl hl.1 rfl (Nat.le_of_ble_eq_true rfl) dX7_follow_30) hw (fun r17 σ18 H locs h hw => ?_)
            refine lv_icmp_ge (tgt := 56) hx hb dX7_follow_33 (by decide) (fun hc21 => ?_) (fun hc21 => ?_)
            · have h := h.1 hc21
              refine lv_aload_n hx hb dX7_follow_56 rfl (lv_at hl 0 rfl) ?_
              obtain ⟨hT22, h⟩ := h
              obtain ⟨b23, hb23, h⟩ := h
              refine m_get hX hw cl7 hT22 0 (by decide) k_230 (fun _ h => h) (v := .ref b23) (congrArg va_rf hb23) dX7_follow_57 ?_
              obtain ⟨hT26, h⟩ := h
              refine m_cv (m_runV (rest := []) hX hw (tX8_turnToTomorrow h) mtX8_turnToTomorrow k_807 ⟨k_629, k_630⟩ cl8 hT26 ⟨⟨rfl, rfl, Nat.le_of_ble_eq_true rfl, Nat.le_of_ble_eq_true rfl⟩, Nat.le_of_ble_eq_true rfl, Nat.le_of_ble_eq_true rfl⟩ rfl hl.1 rfl (Nat.le_of_ble_eq_true rfl) dX7_follow_60) hw (fun σ25 H locs h hw => ?_)
              obtain ⟨x3_27, e_x3_27⟩ : ∃ y : Int32, y = x3_2 + 1 := ⟨_, rfl⟩
              have h := h x3_27 e_x3_27
              refine lv_iinc (v := x3_27) (lv' := [(3, _), (0, _), (1, _), (2, _), (4, _)]) hx hb dX7_follow_63 hl (k := 3) rfl (by rw [e_x3_27]; rfl) (by decide) rfl (fun ls hl => ?_)
              refine lv_goto (tgt := 2) hx hb dX7_follow_66 (by decide) ?_
              obtain ⟨m2, hm2, h⟩ := h
              exact ih2 m2 hm2 _ _ _ _ _ h hw (lv_sub hl [1, 2, 3, 0] rfl)
            · have h := h.2 hc21
              refine lv_aload_n hx hb dX7_follow_36 rfl (lv_at hl 0 rfl) ?_
              refine lv_aload_n hx hb dX7_follow_37 rfl (lv_at hl 0 rfl) ?_
              obtain ⟨hT28, h⟩ := h
              obtain ⟨b29, hb29, h⟩ := h
              refine m_get hX hw cl7 hT28 0 (by decide) k_230 (fun _ h => h) (v := .ref b29) (congrArg va_rf hb29) dX7_follow_38 ?_
              refine lv_iload hx hb dX7_follow_41 (lv_at hl 4 rfl) ?_
              obtain ⟨hT32, h⟩ := h
              refine m_ci (m_runV (rest := [_]) hX hw (tX8_placeAt h) mtX8_placeAt k_795 ⟨k_633, k_634⟩ cl8 hT32 ⟨⟨rfl, rfl, Nat.le_of_ble_eq_true rfl, Nat.le_of_ble_eq_true rfl⟩, Nat.le_of_ble_eq_true rfl, Nat.le_of_ble_eq_true rfl⟩ rfl hl.1 rfl (Nat.le_of_ble_eq_true rfl) dX7_follow_43) hw (fun r30 σ31 H locs h hw => ?_)
              refine lv_aload_n hx hb dX7_follow_46 rfl (lv_at hl 1 rfl) ?_
              obtain ⟨hT35, h⟩ := h
              refine m_cv (m_runV (rest := []) hX hw (tX7_passFrom h) mtX7_passFrom k_796 ⟨k_798, k_17⟩ cl7 hT35 ⟨⟨rfl, rfl, Nat.le_of_ble_eq_true rfl, Nat.le_of_ble_eq_true rfl⟩, Nat.le_of_ble_eq_true rfl, Nat.le_of_ble_eq_true rfl⟩ rfl hl.1 rfl (Nat.le_of_ble_eq_true rfl) dX7_follow_47) hw (fun σ34 H locs h hw => ?_)
              obtain ⟨x4_36, e_x4_36⟩ : ∃ y : Int32, y = x4_14 + 1 := ⟨_, rfl⟩
              have h := h x4_36 e_x4_36
              refine lv_iinc (v := x4_36) (lv' := [(4, _), (0, _), (1, _), (2, _), (3, _)]) hx hb dX7_follow_50 hl (k := 4) rfl (by rw [e_x4_36]; rfl) (by decide) rfl (fun ls hl => ?_)
              refine lv_goto (tgt := 24) hx hb dX7_follow_53 (by decide) ?_
              obtain ⟨m24, hm24, h⟩ := h
              exact ih24 m24 hm24 _ _ _ _ _ h hw (lv_sub hl [1, 2, 3, 4, 0] rfl)
        exact key24 _ _ _ _ _ _ h hw (lv_sub hl [1, 2, 3, 4, 0] rfl)
  exact key2 _ _ _ _ _ _ h hw (lv_sub hl [1, 2, 3, 0] rfl)
theorem mtX7_follow : Mth yX7_follow cX7_follow 5 (some .long) 2 := ⟨k_792, k_49, by decide +kernel⟩
theorem tX7_follow {l : Launch} {D : va_G} {cA : Nat → ClassId} {z0 : Nat} {σ : Me} {a0 : Nat} {a1 : Nat} {x2 : Int32} {Q : Int64 → Me → Prop} (h : pX7_follow σ a0 a1 x2 Q) : Met l yX7_follow (Cond.code yX7_follow cX7_follow 5 (some .long) :: gTab) rX7_follow (PcM D cA z0 σ [.ref a0, .ref a1, .int x2]) (va_Ql Q (BM D cA z0) (AM z0)) 0 0 (AM z0) :=
  met_of (by decide) (Nat.le_of_ble_eq_true rfl) (fun hX hlk hr hn hw hl => wX7_follow hX hlk hr h hw hl)
abbrev rX8_startAt : Room := { frames := 3, cells := 0, slots := 0, locals := 63 }
def pX8_startAt (σ : Me) (a0 : Nat) (x1 : Int32) (Q : Me → Prop) : Prop := gT σ a0 = 8 ∧ pX8_add σ a0 x1 ((1 : Int64)) (fun σ2 => gT σ2 a0 = 8 ∧ pX8_turnToTomorrow σ2 a0 (fun σ5 => Q σ5))
set_option maxHeartbeats 4000000 in
set_option maxRecDepth 100000 in
theorem wX8_startAt {p : Program} {l : Launch} {e : Env} {s : State} {m : MethodId} {args : Array Value} {below : List Frame} {meth : Method} {c : Code} {D : va_G} {cA : Nat → ClassId} {z0 : Nat} (hX : Cx p m c cX8_startAt 2 s args RX8 D cA) (hlk : meth.locks = false) (hr : meth.sig.returnType = none) {σ : Me} {a0 : Nat} {x1 : Int32} {Q : Me → Prop} (h : pX8_startAt σ a0 x1 Q) {H : Heap} {locs : List Loc} {ls : Array Slot} (hw : wS D cA z0 s σ H locs) (hl : lv_has ls 2 [(0, .ref a0), (1, .int x1)]) : W p l e rX8_startAt s m args below meth c H locs 0 0 (MQ below (va_Qv Q (BM D cA z0) (AM z0)) args s 0 0 (AM z0)) (F0 m 0 ls []) := by
  have hx := hX.1.1
  have hb := hX.1.2.1
  have hown := hX.1.2.2.2.1
  have hts := hX.1.2.2.2.2
  unfold pX8_startAt at h
  refine lv_aload_n hx hb dX8_startAt_0 rfl (lv_at hl 0 rfl) ?_
  refine lv_iload_n hx hb dX8_startAt_1 rfl (lv_at hl 1 rfl) ?_
  refine lv_lconst (v := 1) hx hb dX8_startAt_2 (by decide) ?_
  obtain ⟨hT3, h⟩ := h
  refine m_cv (m_runV (rest := []) hX hw (tX8_add h) mtX8_add k_624 ⟨k_625, k_626⟩ cl8 hT3 ⟨⟨rfl, rfl, Nat.le_of_ble_eq_true rfl, Nat.le_of_ble_eq_true rfl⟩, Nat.le_of_ble_eq_true rfl, Nat.le_of_ble_eq_true rfl⟩ rfl hl.1 rfl (Nat.le_of_ble_eq_true rfl) dX8_startAt_3) hw (fun σ2 H locs h hw => ?_)
  refine lv_aload_n hx hb dX8_startAt_6 rfl (lv_at hl 0 rfl) ?_
  obtain ⟨hT6, h⟩ := h
  refine m_cv (m_runV (rest := []) hX hw (tX8_turnToTomorrow h) mtX8_turnToTomorrow k_628 ⟨k_629, k_630⟩ cl8 hT6 ⟨⟨rfl, rfl, Nat.le_of_ble_eq_true rfl, Nat.le_of_ble_eq_true rfl⟩, Nat.le_of_ble_eq_true rfl, Nat.le_of_ble_eq_true rfl⟩ rfl hl.1 rfl (Nat.le_of_ble_eq_true rfl) dX8_startAt_7) hw (fun σ5 H locs h hw => ?_)
  exact m_vret hX hlk hr hw h dX8_startAt_10
theorem mtX8_startAt : Mth yX8_startAt cX8_startAt 2 none 1 := ⟨k_623, k_46, by decide +kernel⟩
theorem tX8_startAt {l : Launch} {D : va_G} {cA : Nat → ClassId} {z0 : Nat} {σ : Me} {a0 : Nat} {x1 : Int32} {Q : Me → Prop} (h : pX8_startAt σ a0 x1 Q) : Met l yX8_startAt (Cond.code yX8_startAt cX8_startAt 2 none :: gTab) rX8_startAt (PcM D cA z0 σ [.ref a0, .int x1]) (va_Qv Q (BM D cA z0) (AM z0)) 0 0 (AM z0) :=
  met_of (by decide) (Nat.le_of_ble_eq_true rfl) (fun hX hlk hr hn hw hl => wX8_startAt hX hlk hr h hw hl)
abbrev rX10_begin : Room := { frames := 4, cells := 0, slots := 0, locals := 84 }
def pX10_begin (σ : Me) (a0 : Nat) (x1 : Int32) (Q : Me → Prop) : Prop := gT σ a0 = 10 ∧ ∀ σ2 : Me, σ2 = sL σ a0 5 ((0 : Int64)) → ∀ σ3 : Me, σ3 = sL σ2 a0 6 ((0 : Int64)) → ∀ σ4 : Me, σ4 = sL σ3 a0 7 ((0 : Int64)) → ∃ I17 : Nat → Me → Int32 → Prop, (∀ (n17 : Nat) (σ5 : Me) (x2_6 : Int32), I17 n17 σ5 x2_6 → gT σ5 a0 = 10 ∧ ∃ b8 : Nat, gP σ5 a0 3 = some b8 ∧ gT σ5 b8 = 22 ∧ ((nI (gN σ5 b8)) ≤ x2_6 → ∃ b11 : Nat, gP σ5 a0 1 = some b11 ∧ pX10_placeOf σ5 x1 ((0 : Int32)) (fun r12 σ13 => gT σ13 b11 = 8 ∧ pX8_startAt σ13 b11 r12 (fun σ15 => Q σ15))) ∧ (¬ (nI (gN σ5 b8)) ≤ x2_6 → vp_in x2_6 (gN σ5 b8) ∧ ∀ σ18 : Me, σ18 = sI σ5 b8 x2_6.toNatClampNeg (vp_nar .boolean ((0 : Int32))) → ∀ x2_19 : Int32, x2_19 = x2_6 + 1 → ∃ m17 : Nat, m17 < n17 ∧ I17 m17 σ18 x2_19)) ∧ ∃ n17 : Nat, I17 n17 σ4 ((0 : Int32))
set_option maxHeartbeats 4000000 in
set_option maxRecDepth 100000 in
theorem wX10_begin {p : Program} {l : Launch} {e : Env} {s : State} {m : MethodId} {args : Array Value} {below : List Frame} {meth : Method} {c : Code} {D : va_G} {cA : Nat → ClassId} {z0 : Nat} (hX : Cx p m c cX10_begin 3 s args RX10 D cA) (hlk : meth.locks = false) (hr : meth.sig.returnType = none) {σ : Me} {a0 : Nat} {x1 : Int32} {Q : Me → Prop} (h : pX10_begin σ a0 x1 Q) {H : Heap} {locs : List Loc} {ls : Array Slot} (hw : wS D cA z0 s σ H locs) (hl : lv_has ls 3 [(0, .ref a0), (1, .int x1)]) : W p l e rX10_begin s m args below meth c H locs 0 0 (MQ below (va_Qv Q (BM D cA z0) (AM z0)) args s 0 0 (AM z0)) (F0 m 0 ls []) := by
  have hx := hX.1.1
  have hb := hX.1.2.1
  have hown := hX.1.2.2.2.1
  have hts := hX.1.2.2.2.2
  unfold pX10_begin at h
  refine lv_aload_n hx hb dX10_begin_0 rfl (lv_at hl 0 rfl) ?_
  refine lv_lconst (v := 0) hx hb dX10_begin_1 (by decide) ?_
  obtain ⟨hT1, h⟩ := h
  refine m_putL hX hw cl10 hT1 5 (by decide) k_171 (fun _ h => h) rfl rfl dX10_begin_2 (fun H locs hw => ?_)
  let σ2 : Me := sL σ a0 5 ((0 : Int64))
  have h := h σ2 rfl
  have hw : wS D cA z0 s σ2 H locs := hw
  refine lv_aload_n hx hb dX10_begin_5 rfl (lv_at hl 0 rfl) ?_
  refine lv_lconst (v := 0) hx hb dX10_begin_6 (by decide) ?_
  refine m_putL hX hw cl10 hT1 6 (by decide) k_172 (fun _ h => h) rfl rfl dX10_begin_7 (fun H locs hw => ?_)
  let σ3 : Me := sL σ2 a0 6 ((0 : Int64))
  have h := h σ3 rfl
  have hw : wS D cA z0 s σ3 H locs := hw
  refine lv_aload_n hx hb dX10_begin_10 rfl (lv_at hl 0 rfl) ?_
  refine lv_lconst (v := 0) hx hb dX10_begin_11 (by decide) ?_
  refine m_putL hX hw cl10 hT1 7 (by decide) k_174 (fun _ h => h) rfl rfl dX10_begin_12 (fun H locs hw => ?_)
  let σ4 : Me := sL σ3 a0 7 ((0 : Int64))
  have h := h σ4 rfl
  have hw : wS D cA z0 s σ4 H locs := hw
  refine lv_iconst (v := 0) hx hb dX10_begin_15 (by decide) ?_
  refine lv_istore_n (lv' := [(2, _), (0, _), (1, _)]) hx hb dX10_begin_16 rfl hl (by decide) rfl (fun ls hl => ?_)
  obtain ⟨I17, hI17, n17, h⟩ := h
  have key17 : ∀ (n17 : Nat) (σ5 : Me) (x2_6 : Int32) (H : Heap) (locs : List Loc) (ls : Array Slot), I17 n17 σ5 x2_6 → wS D cA z0 s σ5 H locs → lv_has ls 3 [(0, .ref a0), (1, .int x1), (2, .int x2_6)] → W p l e rX10_begin s m args below meth c H locs 0 0 (MQ below (va_Qv Q (BM D cA z0) (AM z0)) args s 0 0 (AM z0)) (F0 m 17 ls []) := by
    intro n17
    induction n17 using Nat.strongRecOn with
    | _ n17 ih17 =>
      intro σ5 x2_6 H locs ls h hw hl
      have h := hI17 _ _ _ h
      refine lv_iload_n hx hb dX10_begin_17 rfl (lv_at hl 2 rfl) ?_
      refine lv_aload_n hx hb dX10_begin_18 rfl (lv_at hl 0 rfl) ?_
      obtain ⟨hT7, h⟩ := h
      obtain ⟨b8, hb8, h⟩ := h
      refine m_get hX hw cl10 hT7 3 (by decide) k_169 (fun _ h => h) (v := .ref b8) (congrArg va_rf hb8) dX10_begin_19 ?_
      obtain ⟨hT9, h⟩ := h
      refine m_alen hX hw (t := 2) (by decide) hT9 dX10_begin_22 ?_
      refine lv_icmp_ge (tgt := 39) hx hb dX10_begin_23 (by decide) (fun hc10 => ?_) (fun hc10 => ?_)
      · have h := h.1 hc10
        refine lv_aload_n hx hb dX10_begin_39 rfl (lv_at hl 0 rfl) ?_
        obtain ⟨b11, hb11, h⟩ := h
        refine m_get hX hw cl10 hT7 1 (by decide) k_167 (fun _ h => h) (v := .ref b11) (congrArg va_rf hb11) dX10_begin_40 ?_
        refine lv_iload_n hx hb dX10_begin_43 rfl (lv_at hl 1 rfl) ?_
        refine lv_iconst (v := 0) hx hb dX10_begin_44 (by decide) ?_
        refine m_ci (m_runS (rest := [_]) hX hw (tX10_placeOf h) mtX10_placeOf k_617 k_618 ⟨⟨rfl, rfl, Nat.le_of_ble_eq_true rfl, Nat.le_of_ble_eq_true rfl⟩, Nat.le_of_ble_eq_true rfl, Nat.le_of_ble_eq_true rfl⟩ rfl hl.1 rfl (Nat.le_of_ble_eq_true rfl) dX10_begin_45) hw (fun r12 σ13 H locs h hw => ?_)
        obtain ⟨hT16, h⟩ := h
        refine m_cv (m_runV (rest := []) hX hw (tX8_startAt h) mtX8_startAt k_620 ⟨k_621, k_622⟩ cl8 hT16 ⟨⟨rfl, rfl, Nat.le_of_ble_eq_true rfl, Nat.le_of_ble_eq_true rfl⟩, Nat.le_of_ble_eq_true rfl, Nat.le_of_ble_eq_true rfl⟩ rfl hl.1 rfl (Nat.le_of_ble_eq_true rfl) dX10_begin_48) hw (fun σ15 H locs h hw => ?_)
        exact m_vret hX hlk hr hw h dX10_begin_51
      · have h := h.2 hc10
        refine lv_aload_n hx hb dX10_begin_26 rfl (lv_at hl 0 rfl) ?_
        refine m_get hX hw cl10 hT7 3 (by decide) k_169 (fun _ h => h) (v := .ref b8) (congrArg va_rf hb8) dX10_begin_27 ?_
        refine lv_iload_n hx hb dX10_begin_30 rfl (lv_at hl 2 rfl) ?_
        refine lv_iconst (v := 0) hx hb dX10_begin_31 (by decide) ?_
        obtain ⟨hc17, h⟩ := h
        refine m_zast hX hw hT9 hc17 dX10_begin_32 (fun H locs hw => ?_)
        let σ18 : Me := sI σ5 b8 x2_6.toNatClampNeg (vp_nar .boolean ((0 : Int32)))
        have h := h σ18 rfl
        have hw : wS D cA z0 s σ18 H locs := hw
        obtain ⟨x2_19, e_x2_19⟩ : ∃ y : Int32, y = x2_6 + 1 := ⟨_, rfl⟩
        have h := h x2_19 e_x2_19
        refine lv_iinc (v := x2_19) (lv' := [(2, _), (0, _), (1, _)]) hx hb dX10_begin_33 hl (k := 2) rfl (by rw [e_x2_19]; rfl) (by decide) rfl (fun ls hl => ?_)
        refine lv_goto (tgt := 17) hx hb dX10_begin_36 (by decide) ?_
        obtain ⟨m17, hm17, h⟩ := h
        exact ih17 m17 hm17 _ _ _ _ _ h hw (lv_sub hl [1, 2, 0] rfl)
  exact key17 _ _ _ _ _ _ h hw (lv_sub hl [1, 2, 0] rfl)
theorem mtX10_begin : Mth yX10_begin cX10_begin 3 none 1 := ⟨k_616, k_47, by decide +kernel⟩
theorem tX10_begin {l : Launch} {D : va_G} {cA : Nat → ClassId} {z0 : Nat} {σ : Me} {a0 : Nat} {x1 : Int32} {Q : Me → Prop} (h : pX10_begin σ a0 x1 Q) : Met l yX10_begin (Cond.code yX10_begin cX10_begin 3 none :: gTab) rX10_begin (PcM D cA z0 σ [.ref a0, .int x1]) (va_Qv Q (BM D cA z0) (AM z0)) 0 0 (AM z0) :=
  met_of (by decide) (Nat.le_of_ble_eq_true rfl) (fun hX hlk hr hn hw hl => wX10_begin hX hlk hr h hw hl)
abbrev rX10_passDay : Room := { frames := 4, cells := 0, slots := 0, locals := 97 }
def pX10_passDay (σ : Me) (a0 : Nat) (a1 : Nat) (Q : Me → Prop) : Prop := gT σ a1 = 1 ∧ pX1_weightOfAll σ a1 (fun r1 σ2 => gT σ2 a0 = 10 ∧ ∀ σ5 : Me, σ5 = sL σ2 a0 5 ((gL σ2 a0 5) * r1.toInt64) → ∀ σ6 : Me, σ6 = sL σ5 a0 6 ((gL σ5 a0 6) * r1.toInt64) → ∀ σ7 : Me, σ7 = sL σ6 a0 7 ((gL σ6 a0 7) * r1.toInt64) → ∃ I40 : Nat → Me → Int32 → Prop, (∀ (n40 : Nat) (σ8 : Me) (x3_9 : Int32), I40 n40 σ8 x3_9 → gT σ8 a0 = 10 ∧ ∃ b11 : Nat, gP σ8 a0 1 = some b11 ∧ gT σ8 b11 = 8 ∧ pX8_places σ8 b11 (fun r12 σ13 => (r12 ≤ x3_9 → gT σ13 a0 = 10 ∧ ∃ b18 : Nat, gP σ13 a0 1 = some b18 ∧ gT σ13 b18 = 8 ∧ pX8_turnToTomorrow σ13 b18 (fun σ20 => Q σ20)) ∧ (¬ r12 ≤ x3_9 → gT σ13 a0 = 10 ∧ ∃ b23 : Nat, gP σ13 a0 1 = some b23 ∧ gT σ13 b23 = 8 ∧ pX8_placeAt σ13 b23 x3_9 (fun r24 σ25 => gT σ25 a0 = 10 ∧ pX10_passFrom σ25 a0 r24 a1 r1 (fun σ28 => ∀ x3_30 : Int32, x3_30 = x3_9 + 1 → ∃ m40 : Nat, m40 < n40 ∧ I40 m40 σ28 x3_30))))) ∧ ∃ n40 : Nat, I40 n40 σ7 ((0 : Int32)))
set_option maxHeartbeats 4000000 in
set_option maxRecDepth 100000 in
theorem wX10_passDay {p : Program} {l : Launch} {e : Env} {s : State} {m : MethodId} {args : Array Value} {below : List Frame} {meth : Method} {c : Code} {D : va_G} {cA : Nat → ClassId} {z0 : Nat} (hX : Cx p m c cX10_passDay 4 s args RX10 D cA) (hlk : meth.locks = false) (hr : meth.sig.returnType = none) {σ : Me} {a0 : Nat} {a1 : Nat} {Q : Me → Prop} (h : pX10_passDay σ a0 a1 Q) {H : Heap} {locs : List Loc} {ls : Array Slot} (hw : wS D cA z0 s σ H locs) (hl : lv_has ls 4 [(0, .ref a0), (1, .ref a1)]) : W p l e rX10_passDay s m args below meth c H locs 0 0 (MQ below (va_Qv Q (BM D cA z0) (AM z0)) args s 0 0 (AM z0)) (F0 m 0 ls []) := by
  have hx := hX.1.1
  have hb := hX.1.2.1
  have hown := hX.1.2.2.2.1
  have hts := hX.1.2.2.2.2
  unfold pX10_passDay at h
  refine lv_aload_n hx hb dX10_passDay_0 rfl (lv_at hl 1 rfl) ?_
  obtain ⟨hT3, h⟩ := h
  refine m_ci (m_runV (rest := []) hX hw (tX1_weightOfAll h) mtX1_weightOfAll k_643 ⟨k_351, k_352⟩ cl1 hT3 ⟨⟨rfl, rfl, Nat.le_of_ble_eq_true rfl, Nat.le_of_ble_eq_true rfl⟩, Nat.le_of_ble_eq_true rfl, Nat.le_of_ble_eq_true rfl⟩ rfl hl.1 rfl (Nat.le_of_ble_eq_true rfl) dX10_passDay_1) hw (fun r1 σ2 H locs h hw => ?_)
  refine lv_istore_n (lv' := [(2, _), (0, _), (1, _)]) hx hb dX10_passDay_4 rfl hl (by decide) rfl (fun ls hl => ?_)
  refine lv_aload_n hx hb dX10_passDay_5 rfl (lv_at hl 1 rfl) ?_
  refine lv_dup hx hb dX10_passDay_6 rfl ?_
  obtain ⟨hT4, h⟩ := h
  refine m_get hX hw cl10 hT4 5 (by decide) k_171 (fun _ h => h) (v := .long _) rfl dX10_passDay_7 ?_
  refine lv_iload_n hx hb dX10_passDay_10 rfl (lv_at hl 0 rfl) ?_
  refine lv_i2l hx hb dX10_passDay_11 rfl ?_
  refine lv_lmul hx hb dX10_passDay_12 ?_
  refine m_putL hX hw cl10 hT4 5 (by decide) k_171 (fun _ h => h) rfl rfl dX10_passDay_13 (fun H locs hw => ?_)
  let σ5 : Me := sL σ2 a0 5 ((gL σ2 a0 5) * r1.toInt64)
  have h := h σ5 rfl
  have hw : wS D cA z0 s σ5 H locs := hw
  refine lv_aload_n hx hb dX10_passDay_16 rfl (lv_at hl 1 rfl) ?_
  refine lv_dup hx hb dX10_passDay_17 rfl ?_
  refine m_get hX hw cl10 hT4 6 (by decide) k_172 (fun _ h => h) (v := .long _) rfl dX10_passDay_18 ?_
  refine lv_iload_n hx hb dX10_passDay_21 rfl (lv_at hl 0 rfl) ?_
  refine lv_i2l hx hb dX10_passDay_22 rfl ?_
  refine lv_lmul hx hb dX10_passDay_23 ?_
  refine m_putL hX hw cl10 hT4 6 (by decide) k_172 (fun _ h => h) rfl rfl dX10_passDay_24 (fun H locs hw => ?_)
  let σ6 : Me := sL σ5 a0 6 ((gL σ5 a0 6) * r1.toInt64)
  have h := h σ6 rfl
  have hw : wS D cA z0 s σ6 H locs := hw
  refine lv_aload_n hx hb dX10_passDay_27 rfl (lv_at hl 1 rfl) ?_
  refine lv_dup hx hb dX10_passDay_28 rfl ?_
  refine m_get hX hw cl10 hT4 7 (by decide) k_174 (fun _ h => h) (v := .long _) rfl dX10_passDay_29 ?_
  refine lv_iload_n hx hb dX10_passDay_32 rfl (lv_at hl 0 rfl) ?_
  refine lv_i2l hx hb dX10_passDay_33 rfl ?_
  refine lv_lmul hx hb dX10_passDay_34 ?_
  refine m_putL hX hw cl10 hT4 7 (by decide) k_174 (fun _ h => h) rfl rfl dX10_passDay_35 (fun H locs hw => ?_)
  let σ7 : Me := sL σ6 a0 7 ((gL σ6 a0 7) * r1.toInt64)
  have h := h σ7 rfl
  have hw : wS D cA z0 s σ7 H locs := hw
  refine lv_iconst (v := 0) hx hb dX10_passDay_38 (by decide) ?_
  refine lv_istore_n (lv' := [(3, _), (2, _), (0, _), (1, _)]) hx hb dX10_passDay_39 rfl hl (by decide) rfl (fun ls hl => ?_)
  obtain ⟨I40, hI40, n40, h⟩ := h
  have key40 : ∀ (n40 : Nat) (σ8 : Me) (x3_9 : Int32) (H : Heap) (locs : List Loc) (ls : Array Slot), I40 n40 σ8 x3_9 → wS D cA z0 s σ8 H locs → lv_has ls 4 [(0, .ref a0), (1, .ref a1), (2, .int r1), (3, .int x3_9)] → W p l e rX10_passDay s m args below meth c H locs 0 0 (MQ below (va_Qv Q (BM D cA z0) (AM z0)) args s 0 0 (AM z0)) (F0 m 40 ls []) := by
    intro n40
    induction n40 using Nat.strongRecOn with
    | _ n40 ih40 =>
      intro σ8 x3_9 H locs ls h hw hl
      have h := hI40 _ _ _ h
      refine lv_iload_n hx hb dX10_passDay_40 rfl (lv_at hl 3 rfl) ?_
      refine lv_aload_n hx hb dX10_passDay_41 rfl (lv_at hl 0 rfl) ?_
      obtain ⟨hT10, h⟩ := h
      obtain ⟨b11, hb11, h⟩ := h
      refine m_get hX hw cl10 hT10 1 (by decide) k_167 (fun _ h => h) (v := .ref b11) (congrArg va_rf hb11) dX10_passDay_42 ?_
      obtain ⟨hT14, h⟩ := h
      refine m_ci (m_runV (rest := [_]) hX hw (tX8_places h) mtX8_places k_644 ⟨k_645, k_646⟩ cl8 hT14 ⟨⟨rfl, rfl, Nat.le_of_ble_eq_true rfl, Nat.le_of_ble_eq_true rfl⟩, Nat.le_of_ble_eq_true rfl, Nat.le_of_ble_eq_true rfl⟩ rfl hl.1 rfl (Nat.le_of_ble_eq_true rfl) dX10_passDay_45) hw (fun r12 σ13 H locs h hw => ?_)
      refine lv_icmp_ge (tgt := 71) hx hb dX10_passDay_48 (by decide) (fun hc16 => ?_) (fun hc16 => ?_)
      · have h := h.1 hc16
        refine lv_aload_n hx hb dX10_passDay_71 rfl (lv_at hl 0 rfl) ?_
        obtain ⟨hT17, h⟩ := h
        obtain ⟨b18, hb18, h⟩ := h
        refine m_get hX hw cl10 hT17 1 (by decide) k_167 (fun _ h => h) (v := .ref b18) (congrArg va_rf hb18) dX10_passDay_72 ?_
        obtain ⟨hT21, h⟩ := h
        refine m_cv (m_runV (rest := []) hX hw (tX8_turnToTomorrow h) mtX8_turnToTomorrow k_690 ⟨k_629, k_630⟩ cl8 hT21 ⟨⟨rfl, rfl, Nat.le_of_ble_eq_true rfl, Nat.le_of_ble_eq_true rfl⟩, Nat.le_of_ble_eq_true rfl, Nat.le_of_ble_eq_true rfl⟩ rfl hl.1 rfl (Nat.le_of_ble_eq_true rfl) dX10_passDay_75) hw (fun σ20 H locs h hw => ?_)
        exact m_vret hX hlk hr hw h dX10_passDay_78
      · have h := h.2 hc16
        refine lv_aload_n hx hb dX10_passDay_51 rfl (lv_at hl 0 rfl) ?_
        refine lv_aload_n hx hb dX10_passDay_52 rfl (lv_at hl 0 rfl) ?_
        obtain ⟨hT22, h⟩ := h
        obtain ⟨b23, hb23, h⟩ := h
        refine m_get hX hw cl10 hT22 1 (by decide) k_167 (fun _ h => h) (v := .ref b23) (congrArg va_rf hb23) dX10_passDay_53 ?_
        refine lv_iload_n hx hb dX10_passDay_56 rfl (lv_at hl 3 rfl) ?_
        obtain ⟨hT26, h⟩ := h
        refine m_ci (m_runV (rest := [_]) hX hw (tX8_placeAt h) mtX8_placeAt k_648 ⟨k_633, k_634⟩ cl8 hT26 ⟨⟨rfl, rfl, Nat.le_of_ble_eq_true rfl, Nat.le_of_ble_eq_true rfl⟩, Nat.le_of_ble_eq_true rfl, Nat.le_of_ble_eq_true rfl⟩ rfl hl.1 rfl (Nat.le_of_ble_eq_true rfl) dX10_passDay_57) hw (fun r24 σ25 H locs h hw => ?_)
        refine lv_aload_n hx hb dX10_passDay_60 rfl (lv_at hl 1 rfl) ?_
        refine lv_iload_n hx hb dX10_passDay_61 rfl (lv_at hl 2 rfl) ?_
        obtain ⟨hT29, h⟩ := h
        refine m_cv (m_runV (rest := []) hX hw (tX10_passFrom h) mtX10_passFrom k_649 ⟨k_651, k_7⟩ cl10 hT29 ⟨⟨rfl, rfl, Nat.le_of_ble_eq_true rfl, Nat.le_of_ble_eq_true rfl⟩, Nat.le_of_ble_eq_true rfl, Nat.le_of_ble_eq_true rfl⟩ rfl hl.1 rfl (Nat.le_of_ble_eq_true rfl) dX10_passDay_62) hw (fun σ28 H locs h hw => ?_)
        obtain ⟨x3_30, e_x3_30⟩ : ∃ y : Int32, y = x3_9 + 1 := ⟨_, rfl⟩
        have h := h x3_30 e_x3_30
        refine lv_iinc (v := x3_30) (lv' := [(3, _), (0, _), (1, _), (2, _)]) hx hb dX10_passDay_65 hl (k := 3) rfl (by rw [e_x3_30]; rfl) (by decide) rfl (fun ls hl => ?_)
        refine lv_goto (tgt := 40) hx hb dX10_passDay_68 (by decide) ?_
        obtain ⟨m40, hm40, h⟩ := h
        exact ih40 m40 hm40 _ _ _ _ _ h hw (lv_sub hl [1, 2, 3, 0] rfl)
  exact key40 _ _ _ _ _ _ h hw (lv_sub hl [2, 3, 1, 0] rfl)
theorem mtX10_passDay : Mth yX10_passDay cX10_passDay 4 none 1 := ⟨k_642, k_47, by decide +kernel⟩
theorem tX10_passDay {l : Launch} {D : va_G} {cA : Nat → ClassId} {z0 : Nat} {σ : Me} {a0 : Nat} {a1 : Nat} {Q : Me → Prop} (h : pX10_passDay σ a0 a1 Q) : Met l yX10_passDay (Cond.code yX10_passDay cX10_passDay 4 none :: gTab) rX10_passDay (PcM D cA z0 σ [.ref a0, .ref a1]) (va_Qv Q (BM D cA z0) (AM z0)) 0 0 (AM z0) :=
  met_of (by decide) (Nat.le_of_ble_eq_true rfl) (fun hX hlk hr hn hw hl => wX10_passDay hX hlk hr h hw hl)
abbrev rX4_planDay : Room := { frames := 4, cells := 0, slots := 0, locals := 102 }
def pX4_planDay (σ : Me) (a0 : Nat) (a1 : Nat) (x2 : Int32) (Q : Me → Prop) : Prop := gT σ a0 = 4 ∧ ∃ b2 : Nat, gP σ a0 0 = some b2 ∧ gT σ b2 = 6 ∧ ∀ v_4 : Int32, v_4 = (if (gI σ b2 1) = ((2 : Int32)) then ((12 : Int32)) else ((0 : Int32))) → ∃ I21 : Nat → Me → Int32 → Prop, (∀ (n21 : Nat) (σ6 : Me) (x4_7 : Int32), I21 n21 σ6 x4_7 → (v_4 < x4_7 → gT σ6 a0 = 4 ∧ ∃ b39 : Nat, gP σ6 a0 1 = some b39 ∧ ∃ b40 : Nat, gP σ6 a0 2 = some b40 ∧ ∀ σ41 : Me, σ41 = sP σ6 a0 1 (some b40) → ∀ σ42 : Me, σ42 = sP σ41 a0 2 (some b39) → Q σ42) ∧ (¬ v_4 < x4_7 → gT σ6 a0 = 4 ∧ ∃ b44 : Nat, gP σ6 a0 0 = some b44 ∧ gT σ6 b44 = 6 ∧ pX6_floor σ6 b44 (fun r45 σ46 => ∃ I36 : Nat → Me → Int32 → Prop, (∀ (n36 : Nat) (σ48 : Me) (x5_49 : Int32), I36 n36 σ48 x5_49 → gT σ48 a0 = 4 ∧ ∃ b51 : Nat, gP σ48 a0 0 = some b51 ∧ gT σ48 b51 = 6 ∧ ((gI σ48 b51 0) < x5_49 → ∀ x4_54 : Int32, x4_54 = x4_7 + 1 → ∃ m21 : Nat, m21 < n21 ∧ I21 m21 σ48 x4_54) ∧ (¬ (gI σ48 b51 0) < x5_49 → pX4_choose σ48 a0 a1 x5_49 x4_7 x2 (fun σ56 => pX4_placeOf σ56 x5_49 x4_7 (fun r57 σ58 => (r57 < 0 → ∀ x5_61 : Int32, x5_61 = x5_49 + 1 → ∃ m36 : Nat, m36 < n36 ∧ I36 m36 σ58 x5_61) ∧ (¬ r57 < 0 → gT σ58 a0 = 4 ∧ ∃ b63 : Nat, gP σ58 a0 1 = some b63 ∧ gT σ58 b63 = 21 ∧ ((nI (gN σ58 b63)) ≤ r57 → ∀ x5_66 : Int32, x5_66 = x5_49 + 1 → ∃ m36 : Nat, m36 < n36 ∧ I36 m36 σ58 x5_66) ∧ (¬ (nI (gN σ58 b63)) ≤ r57 → vp_in r57 (gN σ58 b63) ∧ ∀ σ68 : Me, σ68 = sL σ58 b63 r57.toNatClampNeg (gL σ58 a0 5) → ∀ x5_69 : Int32, x5_69 = x5_49 + 1 → ∃ m36 : Nat, m36 < n36 ∧ I36 m36 σ68 x5_69)))))) ∧ ∃ n36 : Nat, I36 n36 σ46 r45))) ∧ ∃ n21 : Nat, I21 n21 σ ((0 : Int32))
set_option maxHeartbeats 4000000 in
set_option maxRecDepth 100000 in
theorem wX4_planDay {p : Program} {l : Launch} {e : Env} {s : State} {m : MethodId} {args : Array Value} {below : List Frame} {meth : Method} {c : Code} {D : va_G} {cA : Nat → ClassId} {z0 : Nat} (hX : Cx p m c cX4_planDay 7 s args RX4 D cA) (hlk : meth.locks = false) (hr : meth.sig.returnType = none) {σ : Me} {a0 : Nat} {a1 : Nat} {x2 : Int32} {Q : Me → Prop} (h : pX4_planDay σ a0 a1 x2 Q) {H : Heap} {locs : List Loc} {ls : Array Slot} (hw : wS D cA z0 s σ H locs) (hl : lv_has ls 7 [(0, .ref a0), (1, .ref a1), (2, .int x2)]) : W p l e rX4_planDay s m args below meth c H locs 0 0 (MQ below (va_Qv Q (BM D cA z0) (AM z0)) args s 0 0 (AM z0)) (F0 m 0 ls []) := by
  have hx := hX.1.1
  have hb := hX.1.2.1
  have hown := hX.1.2.2.2.1
  have hts := hX.1.2.2.2.2
  unfold pX4_planDay at h
  refine lv_aload_n hx hb dX4_planDay_0 rfl (lv_at hl 0 rfl) ?_
  obtain ⟨hT1, h⟩ := h
  obtain ⟨b2, hb2, h⟩ := h
  refine m_get hX hw cl4 hT1 0 (by decide) k_200 (fun _ h => h) (v := .ref b2) (congrArg va_rf hb2) dX4_planDay_1 ?_
  obtain ⟨hT3, h⟩ := h
  refine m_get hX hw cl6 hT3 1 (by decide) k_81 (fun _ h => h) (v := .int _) rfl dX4_planDay_4 ?_
  refine lv_iconst (v := 2) hx hb dX4_planDay_7 (by decide) ?_
  have kM5 : ∀ (v_4 : Int32) (ls : Array Slot), v_4 = (if (gI σ b2 1) = ((2 : Int32)) then ((12 : Int32)) else ((0 : Int32))) → lv_has ls 7 [(0, .ref a0), (1, .ref a1), (2, .int x2)] → W p l e rX4_planDay s m args below meth c H locs 0 0 (MQ below (va_Qv Q (BM D cA z0) (AM z0)) args s 0 0 (AM z0)) (F0 m 17 ls [.int v_4]) := by
    intro v_4 ls e_v_4 hl
    have h := h v_4 e_v_4
    refine lv_istore_n (lv' := [(3, _), (0, _), (1, _), (2, _)]) hx hb dX4_planDay_17 rfl hl (by decide) rfl (fun ls hl => ?_)
    refine lv_iconst (v := 0) hx hb dX4_planDay_18 (by decide) ?_
    refine lv_istore (lv' := [(4, _), (3, _), (0, _), (1, _), (2, _)]) hx hb dX4_planDay_19 hl (by decide) rfl (fun ls hl => ?_)
    obtain ⟨I21, hI21, n21, h⟩ := h
    have key21 : ∀ (n21 : Nat) (σ6 : Me) (x4_7 : Int32) (H : Heap) (locs : List Loc) (ls : Array Slot), I21 n21 σ6 x4_7 → wS D cA z0 s σ6 H locs → lv_has ls 7 [(0, .ref a0), (1, .ref a1), (2, .int x2), (3, .int v_4), (4, .int x4_7)] → W p l e rX4_planDay s m args below meth c H locs 0 0 (MQ below (va_Qv Q (BM D cA z0) (AM z0)) args s 0 0 (AM z0)) (F0 m 21 ls []) := by
      intro n21
      induction n21 using Nat.strongRecOn with
      | _ n21 ih21 =>
        intro σ6 x4_7 H locs ls h hw hl
        have h := hI21 _ _ _ h
        refine lv_iload hx hb dX4_planDay_21 (lv_at hl 4 rfl) ?_
        refine lv_iload_n hx hb dX4_planDay_23 rfl (lv_at hl 3 rfl) ?_
        refine lv_icmp_gt (tgt := 105) hx hb dX4_planDay_24 (by decide) (fun hc37 => ?_) (fun hc37 => ?_)
        · have h := h.1 hc37
          refine lv_aload_n hx hb dX4_planDay_105 rfl (lv_at hl 0 rfl) ?_
          obtain ⟨hT38, h⟩ := h
          obtain ⟨b39, hb39, h⟩ := h
          refine m_get hX hw cl4 hT38 1 (by decide) k_201 (fun _ h => h) (v := .ref b39) (congrArg va_rf hb39) dX4_planDay_106 ?_
          refine lv_astore (lv' := [(4, _), (0, _), (1, _), (2, _), (3, _)]) hx hb dX4_planDay_109 hl (by decide) rfl (fun ls hl => ?_)
          refine lv_aload_n hx hb dX4_planDay_111 rfl (lv_at hl 1 rfl) ?_
          refine lv_aload_n hx hb dX4_planDay_112 rfl (lv_at hl 1 rfl) ?_
          obtain ⟨b40, hb40, h⟩ := h
          refine m_get hX hw cl4 hT38 2 (by decide) k_202 (fun _ h => h) (v := .ref b40) (congrArg va_rf hb40) dX4_planDay_113 ?_
          refine m_putP hX hw cl4 hT38 1 (by decide) k_201 (fun _ h => h) rfl rfl rfl rfl dX4_planDay_116 (fun H locs hw => ?_)
          let σ41 : Me := sP σ6 a0 1 (some b40)
          have h := h σ41 rfl
          have hw : wS D cA z0 s σ41 H locs := hw
          refine lv_aload_n hx hb dX4_planDay_119 rfl (lv_at hl 1 rfl) ?_
          refine lv_aload hx hb dX4_planDay_120 (lv_at hl 0 rfl) ?_
          refine m_putP hX hw cl4 hT38 2 (by decide) k_202 (fun _ h => h) rfl rfl rfl rfl dX4_planDay_122 (fun H locs hw => ?_)
          let σ42 : Me := sP σ41 a0 2 (some b39)
          have h := h σ42 rfl
          have hw : wS D cA z0 s σ42 H locs := hw
          exact m_vret hX hlk hr hw h dX4_planDay_125
        · have h := h.2 hc37
          refine lv_aload_n hx hb dX4_planDay_27 rfl (lv_at hl 0 rfl) ?_
          obtain ⟨hT43, h⟩ := h
          obtain ⟨b44, hb44, h⟩ := h
          refine m_get hX hw cl4 hT43 0 (by decide) k_200 (fun _ h => h) (v := .ref b44) (congrArg va_rf hb44) dX4_planDay_28 ?_
          obtain ⟨hT47, h⟩ := h
          refine m_ci (m_runV (rest := []) hX hw (tX6_floor h) mtX6_floor k_736 ⟨k_578, k_579⟩ cl6 hT47 ⟨⟨rfl, rfl, Nat.le_of_ble_eq_true rfl, Nat.le_of_ble_eq_true rfl⟩, Nat.le_of_ble_eq_true rfl, Nat.le_of_ble_eq_true rfl⟩ rfl hl.1 rfl (Nat.le_of_ble_eq_true rfl) dX4_planDay_31) hw (fun r45 σ46 H locs h hw => ?_)
          refine lv_istore (lv' := [(5, _), (0, _), (1, _), (2, _), (3, _), (4, _)]) hx hb dX4_planDay_34 hl (by decide) rfl (fun ls hl => ?_)
          obtain ⟨I36, hI36, n36, h⟩ := h
          have key36 : ∀ (n36 : Nat) (σ48 : Me) (x5_49 : Int32) (H : Heap) (locs : List Loc) (ls : Array Slot), I36 n36 σ48 x5_49 → wS D cA z0 s σ48 H locs → lv_has ls 7 [(0, .ref a0), (1, .ref a1), (2, .int x2), (3, .int v_4), (4, .int x4_7), (5, .int x5_49)] → W p l e rX4_planDay s m args below meth c H locs 0 0 (MQ below (va_Qv Q (BM D cA z0) (AM z0)) args s 0 0 (AM z0)) (F0 m 36 ls []) := by
            intro n36
            induction n36 using Nat.strongRecOn with
            | _ n36 ih36 =>
              intro σ48 x5_49 H locs ls h hw hl
              have h := hI36 _ _ _ h
              refine lv_iload hx hb dX4_planDay_36 (lv_at hl 5 rfl) ?_
              refine lv_aload_n hx hb dX4_planDay_38 rfl (lv_at hl 0 rfl) ?_
              obtain ⟨hT50, h⟩ := h
              obtain ⟨b51, hb51, h⟩ := h
              refine m_get hX hw cl4 hT50 0 (by decide) k_200 (fun _ h => h) (v := .ref b51) (congrArg va_rf hb51) dX4_planDay_39 ?_
              obtain ⟨hT52, h⟩ := h
              refine m_get hX hw cl6 hT52 0 (by decide) k_79 (fun _ h => h) (v := .int _) rfl dX4_planDay_42 ?_
              refine lv_icmp_gt (tgt := 99) hx hb dX4_planDay_45 (by decide) (fun hc53 => ?_) (fun hc53 => ?_)
              · have h := h.1 hc53
                obtain ⟨x4_54, e_x4_54⟩ : ∃ y : Int32, y = x4_7 + 1 := ⟨_, rfl⟩
                have h := h x4_54 e_x4_54
                refine lv_iinc (v := x4_54) (lv' := [(4, _), (0, _), (1, _), (2, _), (3, _), (5, _)]) hx hb dX4_planDay_99 hl (k := 4) rfl (by rw [e_x4_54]; rfl) (by decide) rfl (fun ls hl => ?_)
                refine lv_goto (tgt := 21) hx hb dX4_planDay_102 (by decide) ?_
                obtain ⟨m21, hm21, h⟩ := h
                exact ih21 m21 hm21 _ _ _ _ _ h hw (lv_sub hl [1, 2, 3, 4, 0] rfl)
              · have h := h.2 hc53
                refine lv_aload_n hx hb dX4_planDay_48 rfl (lv_at hl 0 rfl) ?_
                refine lv_aload_n hx hb dX4_planDay_49 rfl (lv_at hl 1 rfl) ?_
                refine lv_iload hx hb dX4_planDay_50 (lv_at hl 5 rfl) ?_
                refine lv_iload hx hb dX4_planDay_52 (lv_at hl 4 rfl) ?_
                refine lv_iload_n hx hb dX4_planDay_54 rfl (lv_at hl 2 rfl) ?_
                refine m_cv (m_runV (rest := []) hX hw (tX4_choose h) mtX4_choose k_737 ⟨k_739, k_13⟩ cl4 hT50 ⟨⟨rfl, rfl, Nat.le_of_ble_eq_true rfl, Nat.le_of_ble_eq_true rfl⟩, Nat.le_of_ble_eq_true rfl, Nat.le_of_ble_eq_true rfl⟩ rfl hl.1 rfl (Nat.le_of_ble_eq_true rfl) dX4_planDay_55) hw (fun σ56 H locs h hw => ?_)
                refine lv_iload hx hb dX4_planDay_58 (lv_at hl 5 rfl) ?_
                refine lv_iload hx hb dX4_planDay_60 (lv_at hl 4 rfl) ?_
                refine m_ci (m_runS (rest := []) hX hw (tX4_placeOf h) mtX4_placeOf k_750 k_751 ⟨⟨rfl, rfl, Nat.le_of_ble_eq_true rfl, Nat.le_of_ble_eq_true rfl⟩, Nat.le_of_ble_eq_true rfl, Nat.le_of_ble_eq_true rfl⟩ rfl hl.1 rfl (Nat.le_of_ble_eq_true rfl) dX4_planDay_62) hw (fun r57 σ58 H locs h hw => ?_)
                refine lv_istore (lv' := [(6, _), (0, _), (1, _), (2, _), (3, _), (4, _), (5, _)]) hx hb dX4_planDay_65 hl (by decide) rfl (fun ls hl => ?_)
                refine lv_iload hx hb dX4_planDay_67 (lv_at hl 0 rfl) ?_
                refine lv_if_lt (tgt := 93) hx hb dX4_planDay_69 (by decide) (fun hc60 => ?_) (fun hc60 => ?_)
                · have h := h.1 hc60
                  obtain ⟨x5_61, e_x5_61⟩ : ∃ y : Int32, y = x5_49 + 1 := ⟨_, rfl⟩
                  have h := h x5_61 e_x5_61
                  refine lv_iinc (v := x5_61) (lv' := [(5, _), (6, _), (0, _), (1, _), (2, _), (3, _), (4, _)]) hx hb dX4_planDay_93 hl (k := 6) rfl (by rw [e_x5_61]; rfl) (by decide) rfl (fun ls hl => ?_)
                  refine lv_goto (tgt := 36) hx hb dX4_planDay_96 (by decide) ?_
                  obtain ⟨m36, hm36, h⟩ := h
                  exact ih36 m36 hm36 _ _ _ _ _ h hw (lv_sub hl [2, 3, 4, 5, 6, 0] rfl)
                · have h := h.2 hc60
                  refine lv_iload hx hb dX4_planDay_72 (lv_at hl 0 rfl) ?_
                  refine lv_aload_n hx hb dX4_planDay_74 rfl (lv_at hl 1 rfl) ?_
                  obtain ⟨hT62, h⟩ := h
                  obtain ⟨b63, hb63, h⟩ := h
                  refine m_get hX hw cl4 hT62 1 (by decide) k_201 (fun _ h => h) (v := .ref b63) (congrArg va_rf hb63) dX4_planDay_75 ?_
                  obtain ⟨hT64, h⟩ := h
                  refine m_alen hX hw (t := 1) (by decide) hT64 dX4_planDay_78 ?_
                  refine lv_icmp_ge (tgt := 93) hx hb dX4_planDay_79 (by decide) (fun hc65 => ?_) (fun hc65 => ?_)
                  · have h := h.1 hc65
                    obtain ⟨x5_66, e_x5_66⟩ : ∃ y : Int32, y = x5_49 + 1 := ⟨_, rfl⟩
                    have h := h x5_66 e_x5_66
                    refine lv_iinc (v := x5_66) (lv' := [(5, _), (6, _), (0, _), (1, _), (2, _), (3, _), (4, _)]) hx hb dX4_planDay_93 hl (k := 6) rfl (by rw [e_x5_66]; rfl) (by decide) rfl (fun ls hl => ?_)
                    refine lv_goto (tgt := 36) hx hb dX4_planDay_96 (by decide) ?_
                    obtain ⟨m36, hm36, h⟩ := h
                    exact ih36 m36 hm36 _ _ _ _ _ h hw (lv_sub hl [2, 3, 4, 5, 6, 0] rfl)
                  · have h := h.2 hc65
                    refine lv_aload_n hx hb dX4_planDay_82 rfl (lv_at hl 1 rfl) ?_
                    refine m_get hX hw cl4 hT62 1 (by decide) k_201 (fun _ h => h) (v := .ref b63) (congrArg va_rf hb63) dX4_planDay_83 ?_
                    refine lv_iload hx hb dX4_planDay_86 (lv_at hl 0 rfl) ?_
                    refine lv_aload_n hx hb dX4_planDay_88 rfl (lv_at hl 1 rfl) ?_
                    refine m_get hX hw cl4 hT62 5 (by decide) k_205 (fun _ h => h) (v := .long _) rfl dX4_planDay_89 ?_
                    obtain ⟨hc67, h⟩ := h
                    refine m_last hX hw hT64 hc67 dX4_planDay_92 (fun H locs hw => ?_)
                    let σ68 : Me := sL σ58 b63 r57.toNatClampNeg (gL σ58 a0 5)
                    have h := h σ68 rfl
                    have hw : wS D cA z0 s σ68 H locs := hw
                    obtain ⟨x5_69, e_x5_69⟩ : ∃ y : Int32, y = x5_49 + 1 := ⟨_, rfl⟩
                    have h := h x5_69 e_x5_69
                    refine lv_iinc (v := x5_69) (lv' := [(5, _), (6, _), (0, _), (1, _), (2, _), (3, _), (4, _)]) hx hb dX4_planDay_93 hl (k := 6) rfl (by rw [e_x5_69]; rfl) (by decide) rfl (fun ls hl => ?_)
                    refine lv_goto (tgt := 36) hx hb dX4_planDay_96 (by decide) ?_
                    obtain ⟨m36, hm36, h⟩ := h
                    exact ih36 m36 hm36 _ _ _ _ _ h hw (lv_sub hl [2, 3, 4, 5, 6, 0] rfl)
          exact key36 _ _ _ _ _ _ h hw (lv_sub hl [1, 2, 3, 4, 5, 0] rfl)
    exact key21 _ _ _ _ _ _ h hw (lv_sub hl [2, 3, 4, 1, 0] rfl)
  refine lv_icmp_ne (tgt := 16) hx hb dX4_planDay_8 (by decide) (fun hc70 => ?_) (fun hc70 => ?_)
  · refine lv_iconst (v := 0) hx hb dX4_planDay_16 (by decide) ?_
    exact kM5 _ _ (by first | rfl | rw [if_neg hc70] | simp only [if_neg hc70]) (lv_sub hl [0, 1, 2] rfl)
  · refine lv_bipush (v := 12) hx hb dX4_planDay_11 (by decide) ?_
    refine lv_goto (tgt := 17) hx hb dX4_planDay_13 (by decide) ?_
    exact kM5 _ _ (by first | rfl | rw [if_pos hc70] | simp only [if_pos hc70]) (lv_sub hl [0, 1, 2] rfl)
theorem mtX4_planDay : Mth yX4_planDay cX4_planDay 7 none 2 := ⟨k_735, k_48, by decide +kernel⟩
theorem tX4_planDay {l : Launch} {D : va_G} {cA : Nat → ClassId} {z0 : Nat} {σ : Me} {a0 : Nat} {a1 : Nat} {x2 : Int32} {Q : Me → Prop} (h : pX4_planDay σ a0 a1 x2 Q) : Met l yX4_planDay (Cond.code yX4_planDay cX4_planDay 7 none :: gTab) rX4_planDay (PcM D cA z0 σ [.ref a0, .ref a1, .int x2]) (va_Qv Q (BM D cA z0) (AM z0)) 0 0 (AM z0) :=
  met_of (by decide) (Nat.le_of_ble_eq_true rfl) (fun hX hlk hr hn hw hl => wX4_planDay hX hlk hr h hw hl)
abbrev rX7_begin : Room := { frames := 4, cells := 0, slots := 0, locals := 84 }
def pX7_begin (σ : Me) (a0 : Nat) (x1 : Int32) (x2 : Int32) (x3 : Int32) (Q : Me → Prop) : Prop := gT σ a0 = 7 ∧ ∀ σ2 : Me, σ2 = sI σ a0 2 x1 → ∀ σ3 : Me, σ3 = sI σ2 a0 3 (if ((1 : Int32)) < (if ((3 : Int32)) < x2 then ((3 : Int32)) else x2) then (if ((3 : Int32)) < x2 then ((3 : Int32)) else x2) else ((1 : Int32))) → (x3 = 0 ∨ x3 = 1) ∧ ∀ σ5 : Me, σ5 = sI σ3 a0 4 x3 → ∀ σ6 : Me, σ6 = sL σ5 a0 5 ((0 : Int64)) → ∃ b7 : Nat, gP σ6 a0 0 = some b7 ∧ gT σ6 b7 = 8 ∧ pX8_startAt σ6 b7 ((0 : Int32)) (fun σ9 => Q σ9)
set_option maxHeartbeats 4000000 in
set_option maxRecDepth 100000 in
theorem wX7_begin {p : Program} {l : Launch} {e : Env} {s : State} {m : MethodId} {args : Array Value} {below : List Frame} {meth : Method} {c : Code} {D : va_G} {cA : Nat → ClassId} {z0 : Nat} (hX : Cx p m c cX7_begin 4 s args RX7 D cA) (hlk : meth.locks = false) (hr : meth.sig.returnType = none) {σ : Me} {a0 : Nat} {x1 : Int32} {x2 : Int32} {x3 : Int32} {Q : Me → Prop} (h : pX7_begin σ a0 x1 x2 x3 Q) {H : Heap} {locs : List Loc} {ls : Array Slot} (hw : wS D cA z0 s σ H locs) (hl : lv_has ls 4 [(0, .ref a0), (1, .int x1), (2, .int x2), (3, .int x3)]) : W p l e rX7_begin s m args below meth c H locs 0 0 (MQ below (va_Qv Q (BM D cA z0) (AM z0)) args s 0 0 (AM z0)) (F0 m 0 ls []) := by
  have hx := hX.1.1
  have hb := hX.1.2.1
  have hown := hX.1.2.2.2.1
  have hts := hX.1.2.2.2.2
  unfold pX7_begin at h
  refine lv_aload_n hx hb dX7_begin_0 rfl (lv_at hl 0 rfl) ?_
  refine lv_iload_n hx hb dX7_begin_1 rfl (lv_at hl 1 rfl) ?_
  obtain ⟨hT1, h⟩ := h
  refine m_putI hX hw cl7 hT1 2 (by decide) k_232 (fun _ h => h) rfl rfl dX7_begin_2 (fun H locs hw => ?_)
  let σ2 : Me := sI σ a0 2 x1
  have h := h σ2 rfl
  have hw : wS D cA z0 s σ2 H locs := hw
  refine lv_aload_n hx hb dX7_begin_5 rfl (lv_at hl 0 rfl) ?_
  refine lv_iconst (v := 1) hx hb dX7_begin_6 (by decide) ?_
  refine lv_iload_n hx hb dX7_begin_7 rfl (lv_at hl 2 rfl) ?_
  refine lv_iconst (v := 3) hx hb dX7_begin_8 (by decide) ?_
  refine m_min hX k_786 hl.1 (Nat.le_of_ble_eq_true rfl) (Nat.le_of_ble_eq_true rfl) ⟨Nat.le_of_ble_eq_true rfl, Nat.le_of_ble_eq_true rfl⟩ dX7_begin_9 ?_
  refine m_max hX k_787 hl.1 (Nat.le_of_ble_eq_true rfl) (Nat.le_of_ble_eq_true rfl) ⟨Nat.le_of_ble_eq_true rfl, Nat.le_of_ble_eq_true rfl⟩ dX7_begin_12 ?_
  refine m_putI hX hw cl7 hT1 3 (by decide) k_233 (fun _ h => h) rfl rfl dX7_begin_15 (fun H locs hw => ?_)
  let σ3 : Me := sI σ2 a0 3 (if ((1 : Int32)) < (if ((3 : Int32)) < x2 then ((3 : Int32)) else x2) then (if ((3 : Int32)) < x2 then ((3 : Int32)) else x2) else ((1 : Int32)))
  have h := h σ3 rfl
  have hw : wS D cA z0 s σ3 H locs := hw
  refine lv_aload_n hx hb dX7_begin_18 rfl (lv_at hl 0 rfl) ?_
  refine lv_iload_n hx hb dX7_begin_19 rfl (lv_at hl 3 rfl) ?_
  obtain ⟨hc4, h⟩ := h
  refine m_putZ hX hw cl7 hT1 4 (by decide) k_234 (fun _ h => h) rfl rfl hc4 dX7_begin_20 (fun H locs hw => ?_)
  let σ5 : Me := sI σ3 a0 4 x3
  have h := h σ5 rfl
  have hw : wS D cA z0 s σ5 H locs := hw
  refine lv_aload_n hx hb dX7_begin_23 rfl (lv_at hl 0 rfl) ?_
  refine lv_lconst (v := 0) hx hb dX7_begin_24 (by decide) ?_
  refine m_putL hX hw cl7 hT1 5 (by decide) k_235 (fun _ h => h) rfl rfl dX7_begin_25 (fun H locs hw => ?_)
  let σ6 : Me := sL σ5 a0 5 ((0 : Int64))
  have h := h σ6 rfl
  have hw : wS D cA z0 s σ6 H locs := hw
  refine lv_aload_n hx hb dX7_begin_28 rfl (lv_at hl 0 rfl) ?_
  obtain ⟨b7, hb7, h⟩ := h
  refine m_get hX hw cl7 hT1 0 (by decide) k_230 (fun _ h => h) (v := .ref b7) (congrArg va_rf hb7) dX7_begin_29 ?_
  refine lv_iconst (v := 0) hx hb dX7_begin_32 (by decide) ?_
  obtain ⟨hT10, h⟩ := h
  refine m_cv (m_runV (rest := []) hX hw (tX8_startAt h) mtX8_startAt k_788 ⟨k_621, k_622⟩ cl8 hT10 ⟨⟨rfl, rfl, Nat.le_of_ble_eq_true rfl, Nat.le_of_ble_eq_true rfl⟩, Nat.le_of_ble_eq_true rfl, Nat.le_of_ble_eq_true rfl⟩ rfl hl.1 rfl (Nat.le_of_ble_eq_true rfl) dX7_begin_33) hw (fun σ9 H locs h hw => ?_)
  exact m_vret hX hlk hr hw h dX7_begin_36
theorem mtX7_begin : Mth yX7_begin cX7_begin 4 none 3 := ⟨k_785, k_49, by decide +kernel⟩
theorem tX7_begin {l : Launch} {D : va_G} {cA : Nat → ClassId} {z0 : Nat} {σ : Me} {a0 : Nat} {x1 : Int32} {x2 : Int32} {x3 : Int32} {Q : Me → Prop} (h : pX7_begin σ a0 x1 x2 x3 Q) : Met l yX7_begin (Cond.code yX7_begin cX7_begin 4 none :: gTab) rX7_begin (PcM D cA z0 σ [.ref a0, .int x1, .int x2, .int x3]) (va_Qv Q (BM D cA z0) (AM z0)) 0 0 (AM z0) :=
  met_of (by decide) (Nat.le_of_ble_eq_true rfl) (fun hX hlk hr hn hw hl => wX7_begin hX hlk hr h hw hl)
abbrev rX10_follow : Room := { frames := 5, cells := 0, slots := 0, locals := 120 }
def pX10_follow (σ : Me) (a0 : Nat) (a1 : Nat) (x2 : Int32) (x3 : Int32) (y4 : Int64) (Q : Int64 → Me → Prop) : Prop := gT σ a0 = 10 ∧ ∀ σ2 : Me, σ2 = sI σ a0 4 ((0 : Int32)) → pX10_begin σ2 a0 x2 (fun σ4 => ∃ I13 : Nat → Me → Int32 → Prop, (∀ (n13 : Nat) (σ5 : Me) (x6_6 : Int32), I13 n13 σ5 x6_6 → (x3 < x6_6 → gT σ5 a0 = 10 ∧ Q (gL σ5 a0 5) σ5) ∧ (¬ x3 < x6_6 → gT σ5 a0 = 10 ∧ pX10_passDay σ5 a0 a1 (fun σ10 => gT σ10 a0 = 10 ∧ pX11_rowsOf σ10 a1 (x3 - x6_6) (fun r13 σ14 => ∀ x7_15 : Int64, x7_15 = ((gL σ10 a0 5) * r13) → (x7_15 < y4 → ∀ x6_18 : Int32, x6_18 = x6_6 + 1 → ∃ m13 : Nat, m13 < n13 ∧ I13 m13 σ14 x6_18) ∧ (¬ x7_15 < y4 → Q x7_15 σ14))))) ∧ ∃ n13 : Nat, I13 n13 σ4 ((1 : Int32)))
set_option maxHeartbeats 4000000 in
set_option maxRecDepth 100000 in
theorem wX10_follow {p : Program} {l : Launch} {e : Env} {s : State} {m : MethodId} {args : Array Value} {below : List Frame} {meth : Method} {c : Code} {D : va_G} {cA : Nat → ClassId} {z0 : Nat} (hX : Cx p m c cX10_follow 9 s args RX10 D cA) (hlk : meth.locks = false) (hr : meth.sig.returnType = (some .long)) {σ : Me} {a0 : Nat} {a1 : Nat} {x2 : Int32} {x3 : Int32} {y4 : Int64} {Q : Int64 → Me → Prop} (h : pX10_follow σ a0 a1 x2 x3 y4 Q) {H : Heap} {locs : List Loc} {ls : Array Slot} (hw : wS D cA z0 s σ H locs) (hl : lv_has ls 9 [(0, .ref a0), (1, .ref a1), (2, .int x2), (3, .int x3), (4, .long y4)]) : W p l e rX10_follow s m args below meth c H locs 0 0 (MQ below (va_Ql Q (BM D cA z0) (AM z0)) args s 0 0 (AM z0)) (F0 m 0 ls []) := by
  have hx := hX.1.1
  have hb := hX.1.2.1
  have hown := hX.1.2.2.2.1
  have hts := hX.1.2.2.2.2
  unfold pX10_follow at h
  refine lv_aload_n hx hb dX10_follow_0 rfl (lv_at hl 0 rfl) ?_
  refine lv_iconst (v := 0) hx hb dX10_follow_1 (by decide) ?_
  obtain ⟨hT1, h⟩ := h
  refine m_putZ hX hw cl10 hT1 4 (by decide) k_170 (fun _ h => h) rfl rfl (by decide) dX10_follow_2 (fun H locs hw => ?_)
  let σ2 : Me := sI σ a0 4 ((0 : Int32))
  have h := h σ2 rfl
  have hw : wS D cA z0 s σ2 H locs := hw
  refine lv_aload_n hx hb dX10_follow_5 rfl (lv_at hl 0 rfl) ?_
  refine lv_iload_n hx hb dX10_follow_6 rfl (lv_at hl 2 rfl) ?_
  refine m_cv (m_runV (rest := []) hX hw (tX10_begin h) mtX10_begin k_613 ⟨k_615, k_5⟩ cl10 hT1 ⟨⟨rfl, rfl, Nat.le_of_ble_eq_true rfl, Nat.le_of_ble_eq_true rfl⟩, Nat.le_of_ble_eq_true rfl, Nat.le_of_ble_eq_true rfl⟩ rfl hl.1 rfl (Nat.le_of_ble_eq_true rfl) dX10_follow_7) hw (fun σ4 H locs h hw => ?_)
  refine lv_iconst (v := 1) hx hb dX10_follow_10 (by decide) ?_
  refine lv_istore (lv' := [(6, _), (0, _), (1, _), (2, _), (3, _), (4, _)]) hx hb dX10_follow_11 hl (by decide) rfl (fun ls hl => ?_)
  obtain ⟨I13, hI13, n13, h⟩ := h
  have key13 : ∀ (n13 : Nat) (σ5 : Me) (x6_6 : Int32) (H : Heap) (locs : List Loc) (ls : Array Slot), I13 n13 σ5 x6_6 → wS D cA z0 s σ5 H locs → lv_has ls 9 [(0, .ref a0), (1, .ref a1), (3, .int x3), (4, .long y4), (6, .int x6_6)] → W p l e rX10_follow s m args below meth c H locs 0 0 (MQ below (va_Ql Q (BM D cA z0) (AM z0)) args s 0 0 (AM z0)) (F0 m 13 ls []) := by
    intro n13
    induction n13 using Nat.strongRecOn with
    | _ n13 ih13 =>
      intro σ5 x6_6 H locs ls h hw hl
      have h := hI13 _ _ _ h
      refine lv_iload hx hb dX10_follow_13 (lv_at hl 4 rfl) ?_
      refine lv_iload_n hx hb dX10_follow_15 rfl (lv_at hl 2 rfl) ?_
      refine lv_icmp_gt (tgt := 56) hx hb dX10_follow_16 (by decide) (fun hc7 => ?_) (fun hc7 => ?_)
      · have h := h.1 hc7
        refine lv_aload_n hx hb dX10_follow_56 rfl (lv_at hl 0 rfl) ?_
        obtain ⟨hT8, h⟩ := h
        refine m_get hX hw cl10 hT8 5 (by decide) k_171 (fun _ h => h) (v := .long _) rfl dX10_follow_57 ?_
        exact m_lret hX hlk hr hw h dX10_follow_60
      · have h := h.2 hc7
        refine lv_aload_n hx hb dX10_follow_19 rfl (lv_at hl 0 rfl) ?_
        refine lv_aload_n hx hb dX10_follow_20 rfl (lv_at hl 1 rfl) ?_
        obtain ⟨hT11, h⟩ := h
        refine m_cv (m_runV (rest := []) hX hw (tX10_passDay h) mtX10_passDay k_639 ⟨k_641, k_6⟩ cl10 hT11 ⟨⟨rfl, rfl, Nat.le_of_ble_eq_true rfl, Nat.le_of_ble_eq_true rfl⟩, Nat.le_of_ble_eq_true rfl, Nat.le_of_ble_eq_true rfl⟩ rfl hl.1 rfl (Nat.le_of_ble_eq_true rfl) dX10_follow_21) hw (fun σ10 H locs h hw => ?_)
        refine lv_aload_n hx hb dX10_follow_24 rfl (lv_at hl 0 rfl) ?_
        obtain ⟨hT12, h⟩ := h
        refine m_get hX hw cl10 hT12 5 (by decide) k_171 (fun _ h => h) (v := .long _) rfl dX10_follow_25 ?_
        refine lv_aload_n hx hb dX10_follow_28 rfl (lv_at hl 1 rfl) ?_
        refine lv_iload_n hx hb dX10_follow_29 rfl (lv_at hl 2 rfl) ?_
        refine lv_iload hx hb dX10_follow_30 (lv_at hl 4 rfl) ?_
        refine lv_isub hx hb dX10_follow_32 ?_
        refine m_cl (m_runSN (rest := [_]) hX hw (tX11_rowsOf h) mtX11_rowsOf (List.mem_of_getElem? (i := 9) rfl) k_692 ⟨⟨rfl, rfl, Nat.le_of_ble_eq_true rfl, Nat.le_of_ble_eq_true rfl⟩, Nat.le_of_ble_eq_true rfl, Nat.le_of_ble_eq_true rfl⟩ rfl hl.1 rfl (Nat.le_of_ble_eq_true rfl) dX10_follow_33) hw (fun r13 σ14 H locs h hw => ?_)
        refine lv_lmul hx hb dX10_follow_36 ?_
        refine lv_topl (fun x7_15 e_x7_15 => ?_)
        have h := h x7_15 e_x7_15
        refine lv_lstore (lv' := [(7, _), (0, _), (1, _), (3, _), (4, _), (6, _)]) hx hb dX10_follow_37 hl (by decide) rfl (fun ls hl => ?_)
        refine lv_lload hx hb dX10_follow_39 (lv_at hl 0 rfl) ?_
        refine lv_lload hx hb dX10_follow_41 (lv_at hl 4 rfl) ?_
        refine m_llt (tgt := 50) hX dX10_follow_43 dX10_follow_44 (by decide) (fun hc17 => ?_) (fun hc17 => ?_)
        · have h := h.1 hc17
          obtain ⟨x6_18, e_x6_18⟩ : ∃ y : Int32, y = x6_6 + 1 := ⟨_, rfl⟩
          have h := h x6_18 e_x6_18
          refine lv_iinc (v := x6_18) (lv' := [(6, _), (7, _), (0, _), (1, _), (3, _), (4, _)]) hx hb dX10_follow_50 hl (k := 5) rfl (by rw [e_x6_18]; rfl) (by decide) rfl (fun ls hl => ?_)
          refine lv_goto (tgt := 13) hx hb dX10_follow_53 (by decide) ?_
          obtain ⟨m13, hm13, h⟩ := h
          exact ih13 m13 hm13 _ _ _ _ _ h hw (lv_sub hl [2, 3, 4, 5, 0] rfl)
        · have h := h.2 hc17
          refine lv_lload hx hb dX10_follow_47 (lv_at hl 0 rfl) ?_
          exact m_lret hX hlk hr hw h dX10_follow_49
  exact key13 _ _ _ _ _ _ h hw (lv_sub hl [1, 2, 4, 5, 0] rfl)
theorem mtX10_follow : Mth yX10_follow cX10_follow 9 (some .long) 4 := ⟨k_612, k_47, by decide +kernel⟩
theorem tX10_follow {l : Launch} {D : va_G} {cA : Nat → ClassId} {z0 : Nat} {σ : Me} {a0 : Nat} {a1 : Nat} {x2 : Int32} {x3 : Int32} {y4 : Int64} {Q : Int64 → Me → Prop} (h : pX10_follow σ a0 a1 x2 x3 y4 Q) : Met l yX10_follow (Cond.code yX10_follow cX10_follow 9 (some .long) :: gTab) rX10_follow (PcM D cA z0 σ [.ref a0, .ref a1, .int x2, .int x3, .long y4]) (va_Ql Q (BM D cA z0) (AM z0)) 0 0 (AM z0) :=
  met_of (by decide) (Nat.le_of_ble_eq_true rfl) (fun hX hlk hr hn hw hl => wX10_follow hX hlk hr h hw hl)
abbrev rX10_followUnbroken : Room := { frames := 5, cells := 0, slots := 0, locals := 120 }
def pX10_followUnbroken (σ : Me) (a0 : Nat) (a1 : Nat) (x2 : Int32) (x3 : Int32) (Q : Int64 → Me → Prop) : Prop := gT σ a0 = 10 ∧ ∀ σ2 : Me, σ2 = sI σ a0 4 ((1 : Int32)) → pX10_begin σ2 a0 x2 (fun σ4 => ∃ I13 : Nat → Me → Int32 → Prop, (∀ (n13 : Nat) (σ5 : Me) (x4_6 : Int32), I13 n13 σ5 x4_6 → (x3 < x4_6 → gT σ5 a0 = 10 ∧ ∃ b9 : Nat, gP σ5 a0 1 = some b9 ∧ gT σ5 b9 = 8 ∧ pX8_weightOfAll σ5 b9 (fun r10 σ11 => Q r10 σ11)) ∧ (¬ x3 < x4_6 → gT σ5 a0 = 10 ∧ pX10_passDay σ5 a0 a1 (fun σ14 => ∀ x4_16 : Int32, x4_16 = x4_6 + 1 → ∃ m13 : Nat, m13 < n13 ∧ I13 m13 σ14 x4_16))) ∧ ∃ n13 : Nat, I13 n13 σ4 ((1 : Int32)))
set_option maxHeartbeats 4000000 in
set_option maxRecDepth 100000 in
theorem wX10_followUnbroken {p : Program} {l : Launch} {e : Env} {s : State} {m : MethodId} {args : Array Value} {below : List Frame} {meth : Method} {c : Code} {D : va_G} {cA : Nat → ClassId} {z0 : Nat} (hX : Cx p m c cX10_followUnbroken 5 s args RX10 D cA) (hlk : meth.locks = false) (hr : meth.sig.returnType = (some .long)) {σ : Me} {a0 : Nat} {a1 : Nat} {x2 : Int32} {x3 : Int32} {Q : Int64 → Me → Prop} (h : pX10_followUnbroken σ a0 a1 x2 x3 Q) {H : Heap} {locs : List Loc} {ls : Array Slot} (hw : wS D cA z0 s σ H locs) (hl : lv_has ls 5 [(0, .ref a0), (1, .ref a1), (2, .int x2), (3, .int x3)]) : W p l e rX10_followUnbroken s m args below meth c H locs 0 0 (MQ below (va_Ql Q (BM D cA z0) (AM z0)) args s 0 0 (AM z0)) (F0 m 0 ls []) := by
  have hx := hX.1.1
  have hb := hX.1.2.1
  have hown := hX.1.2.2.2.1
  have hts := hX.1.2.2.2.2
  unfold pX10_followUnbroken at h
  refine lv_aload_n hx hb dX10_followUnbroken_0 rfl (lv_at hl 0 rfl) ?_
  refine lv_iconst (v := 1) hx hb dX10_followUnbroken_1 (by decide) ?_
  obtain ⟨hT1, h⟩ := h
  refine m_putZ hX hw cl10 hT1 4 (by decide) k_170 (fun _ h => h) rfl rfl (by decide) dX10_followUnbroken_2 (fun H locs hw => ?_)
  let σ2 : Me := sI σ a0 4 ((1 : Int32))
  have h := h σ2 rfl
  have hw : wS D cA z0 s σ2 H locs := hw
  refine lv_aload_n hx hb dX10_followUnbroken_5 rfl (lv_at hl 0 rfl) ?_
  refine lv_iload_n hx hb dX10_followUnbroken_6 rfl (lv_at hl 2 rfl) ?_
  refine m_cv (m_runV (rest := []) hX hw (tX10_begin h) mtX10_begin k_613 ⟨k_615, k_5⟩ cl10 hT1 ⟨⟨rfl, rfl, Nat.le_of_ble_eq_true rfl, Nat.le_of_ble_eq_true rfl⟩, Nat.le_of_ble_eq_true rfl, Nat.le_of_ble_eq_true rfl⟩ rfl hl.1 rfl (Nat.le_of_ble_eq_true rfl) dX10_followUnbroken_7) hw (fun σ4 H locs h hw => ?_)
  refine lv_iconst (v := 1) hx hb dX10_followUnbroken_10 (by decide) ?_
  refine lv_istore (lv' := [(4, _), (0, _), (1, _), (2, _), (3, _)]) hx hb dX10_followUnbroken_11 hl (by decide) rfl (fun ls hl => ?_)
  obtain ⟨I13, hI13, n13, h⟩ := h
  have key13 : ∀ (n13 : Nat) (σ5 : Me) (x4_6 : Int32) (H : Heap) (locs : List Loc) (ls : Array Slot), I13 n13 σ5 x4_6 → wS D cA z0 s σ5 H locs → lv_has ls 5 [(0, .ref a0), (1, .ref a1), (3, .int x3), (4, .int x4_6)] → W p l e rX10_followUnbroken s m args below meth c H locs 0 0 (MQ below (va_Ql Q (BM D cA z0) (AM z0)) args s 0 0 (AM z0)) (F0 m 13 ls []) := by
    intro n13
    induction n13 using Nat.strongRecOn with
    | _ n13 ih13 =>
      intro σ5 x4_6 H locs ls h hw hl
      have h := hI13 _ _ _ h
      refine lv_iload hx hb dX10_followUnbroken_13 (lv_at hl 3 rfl) ?_
      refine lv_iload_n hx hb dX10_followUnbroken_15 rfl (lv_at hl 2 rfl) ?_
      refine lv_icmp_gt (tgt := 30) hx hb dX10_followUnbroken_16 (by decide) (fun hc7 => ?_) (fun hc7 => ?_)
      · have h := h.1 hc7
        refine lv_aload_n hx hb dX10_followUnbroken_30 rfl (lv_at hl 0 rfl) ?_
        obtain ⟨hT8, h⟩ := h
        obtain ⟨b9, hb9, h⟩ := h
        refine m_get hX hw cl10 hT8 1 (by decide) k_167 (fun _ h => h) (v := .ref b9) (congrArg va_rf hb9) dX10_followUnbroken_31 ?_
        obtain ⟨hT12, h⟩ := h
        refine m_cl (m_runV (rest := []) hX hw (tX8_weightOfAll h) mtX8_weightOfAll k_710 ⟨k_711, k_712⟩ cl8 hT12 ⟨⟨rfl, rfl, Nat.le_of_ble_eq_true rfl, Nat.le_of_ble_eq_true rfl⟩, Nat.le_of_ble_eq_true rfl, Nat.le_of_ble_eq_true rfl⟩ rfl hl.1 rfl (Nat.le_of_ble_eq_true rfl) dX10_followUnbroken_34) hw (fun r10 σ11 H locs h hw => ?_)
        exact m_lret hX hlk hr hw h dX10_followUnbroken_37
      · have h := h.2 hc7
        refine lv_aload_n hx hb dX10_followUnbroken_19 rfl (lv_at hl 0 rfl) ?_
        refine lv_aload_n hx hb dX10_followUnbroken_20 rfl (lv_at hl 1 rfl) ?_
        obtain ⟨hT15, h⟩ := h
        refine m_cv (m_runV (rest := []) hX hw (tX10_passDay h) mtX10_passDay k_639 ⟨k_641, k_6⟩ cl10 hT15 ⟨⟨rfl, rfl, Nat.le_of_ble_eq_true rfl, Nat.le_of_ble_eq_true rfl⟩, Nat.le_of_ble_eq_true rfl, Nat.le_of_ble_eq_true rfl⟩ rfl hl.1 rfl (Nat.le_of_ble_eq_true rfl) dX10_followUnbroken_21) hw (fun σ14 H locs h hw => ?_)
        obtain ⟨x4_16, e_x4_16⟩ : ∃ y : Int32, y = x4_6 + 1 := ⟨_, rfl⟩
        have h := h x4_16 e_x4_16
        refine lv_iinc (v := x4_16) (lv' := [(4, _), (0, _), (1, _), (3, _)]) hx hb dX10_followUnbroken_24 hl (k := 3) rfl (by rw [e_x4_16]; rfl) (by decide) rfl (fun ls hl => ?_)
        refine lv_goto (tgt := 13) hx hb dX10_followUnbroken_27 (by decide) ?_
        obtain ⟨m13, hm13, h⟩ := h
        exact ih13 m13 hm13 _ _ _ _ _ h hw (lv_sub hl [1, 2, 3, 0] rfl)
  exact key13 _ _ _ _ _ _ h hw (lv_sub hl [1, 2, 4, 0] rfl)
theorem mtX10_followUnbroken : Mth yX10_followUnbroken cX10_followUnbroken 5 (some .long) 3 := ⟨k_709, k_47, by decide +kernel⟩
theorem tX10_followUnbroken {l : Launch} {D : va_G} {cA : Nat → ClassId} {z0 : Nat} {σ : Me} {a0 : Nat} {a1 : Nat} {x2 : Int32} {x3 : Int32} {Q : Int64 → Me → Prop} (h : pX10_followUnbroken σ a0 a1 x2 x3 Q) : Met l yX10_followUnbroken (Cond.code yX10_followUnbroken cX10_followUnbroken 5 (some .long) :: gTab) rX10_followUnbroken (PcM D cA z0 σ [.ref a0, .ref a1, .int x2, .int x3]) (va_Ql Q (BM D cA z0) (AM z0)) 0 0 (AM z0) :=
  met_of (by decide) (Nat.le_of_ble_eq_true rfl) (fun hX hlk hr hn hw hl => wX10_followUnbroken hX hlk hr h hw hl)
abbrev rX11_spoilt : Room := { frames := 5, cells := 0, slots := 0, locals := 107 }
def pX11_spoilt (σ : Me) (a0 : Nat) (x1 : Int32) (x2 : Int32) (x3 : Int32) (x4 : Int32) (x5 : Int32) (Q : Int32 → Me → Prop) : Prop := pX11_isBook σ x1 (fun r1 σ2 => (r1 = 0 → Q ((-1 : Int32)) σ2) ∧ (¬ r1 = 0 → pX11_isWithin σ2 x2 ((0 : Int32)) ((12 : Int32)) (fun r4 σ5 => (r4 = 0 → Q ((-1 : Int32)) σ5) ∧ (¬ r4 = 0 → pX11_isWithin σ5 x3 ((1 : Int32)) ((3 : Int32)) (fun r7 σ8 => (r7 = 0 → Q ((-1 : Int32)) σ8) ∧ (¬ r7 = 0 → pX11_areDays σ8 x4 (fun r10 σ11 => (r10 = 0 → Q ((-1 : Int32)) σ11) ∧ (¬ r10 = 0 → gT σ11 a0 = 11 ∧ ∃ b14 : Nat, gP σ11 a0 0 = some b14 ∧ gT σ11 b14 = 24 ∧ vp_in x1 (gN σ11 b14) ∧ ∃ b17 : Nat, gP σ11 b14 x1.toNatClampNeg = some b17 ∧ pX11_lackOf σ11 b17 (fun r18 σ19 => (r18 = 0 → gT σ19 a0 = 11 ∧ ∃ b22 : Nat, gP σ19 a0 8 = some b22 ∧ gT σ19 b22 = 7 ∧ pX7_begin σ19 b22 x2 x3 x5 (fun σ24 => gT σ24 a0 = 11 ∧ ∃ b27 : Nat, gP σ24 a0 8 = some b27 ∧ ∃ b28 : Nat, gP σ24 a0 0 = some b28 ∧ gT σ24 b28 = 24 ∧ vp_in x1 (gN σ24 b28) ∧ ∃ b31 : Nat, gP σ24 b28 x1.toNatClampNeg = some b31 ∧ gT σ24 b27 = 7 ∧ pX7_follow σ24 b27 b31 x4 (fun r32 σ33 => gT σ33 a0 = 11 ∧ ∃ b36 : Nat, gP σ33 a0 0 = some b36 ∧ gT σ33 b36 = 24 ∧ vp_in x1 (gN σ33 b36) ∧ ∃ b39 : Nat, gP σ33 b36 x1.toNatClampNeg = some b39 ∧ pX11_rowsOf σ33 b39 x4 (fun r40 σ41 => gT σ41 a0 = 11 ∧ pX11_tell σ41 a0 r32 r40 (fun r42 σ43 => Q r42 σ43))))) ∧ (¬ r18 = 0 → gT σ19 a0 = 11 ∧ pX11_refuse σ19 a0 r18 (fun r45 σ46 => Q r45 σ46)))))))))))
set_option maxHeartbeats 4000000 in
set_option maxRecDepth 100000 in
theorem wX11_spoilt {p : Program} {l : Launch} {e : Env} {s : State} {m : MethodId} {args : Array Value} {below : List Frame} {meth : Method} {c : Code} {D : va_G} {cA : Nat → ClassId} {z0 : Nat} (hX : Cx p m c cX11_spoilt 9 s args RX11 D cA) (hlk : meth.locks = false) (hr : meth.sig.returnType = (some .int)) {σ : Me} {a0 : Nat} {x1 : Int32} {x2 : Int32} {x3 : Int32} {x4 : Int32} {x5 : Int32} {Q : Int32 → Me → Prop} (h : pX11_spoilt σ a0 x1 x2 x3 x4 x5 Q) {H : Heap} {locs : List Loc} {ls : Array Slot} (hw : wS D cA z0 s σ H locs) (hl : lv_has ls 9 [(0, .ref a0), (1, .int x1), (2, .int x2), (3, .int x3), (4, .int x4), (5, .int x5)]) : W p l e rX11_spoilt s m args below meth c H locs 0 0 (MQ below (va_Qi Q (BM D cA z0) (AM z0)) args s 0 0 (AM z0)) (F0 m 0 ls []) := by
  have hx := hX.1.1
  have hb := hX.1.2.1
  have hown := hX.1.2.2.2.1
  have hts := hX.1.2.2.2.2
  unfold pX11_spoilt at h
  refine lv_iload_n hx hb dX11_spoilt_0 rfl (lv_at hl 1 rfl) ?_
  refine m_ci (m_runS (rest := []) hX hw (tX11_isBook h) mtX11_isBook k_308 k_309 ⟨⟨rfl, rfl, Nat.le_of_ble_eq_true rfl, Nat.le_of_ble_eq_true rfl⟩, Nat.le_of_ble_eq_true rfl, Nat.le_of_ble_eq_true rfl⟩ rfl hl.1 rfl (Nat.le_of_ble_eq_true rfl) dX11_spoilt_1) hw (fun r1 σ2 H locs h hw => ?_)
  refine lv_if_eq (tgt := 34) hx hb dX11_spoilt_4 (by decide) (fun hc3 => ?_) (fun hc3 => ?_)
  · have h := h.1 hc3
    refine lv_iconst (v := (-1)) hx hb dX11_spoilt_34 (by decide) ?_
    exact m_iret hX hlk hr hw h dX11_spoilt_35
  · have h := h.2 hc3
    refine lv_iload_n hx hb dX11_spoilt_7 rfl (lv_at hl 2 rfl) ?_
    refine lv_iconst (v := 0) hx hb dX11_spoilt_8 (by decide) ?_
    refine lv_bipush (v := 12) hx hb dX11_spoilt_9 (by decide) ?_
    refine m_ci (m_runS (rest := []) hX hw (tX11_isWithin h) mtX11_isWithin k_311 k_312 ⟨⟨rfl, rfl, Nat.le_of_ble_eq_true rfl, Nat.le_of_ble_eq_true rfl⟩, Nat.le_of_ble_eq_true rfl, Nat.le_of_ble_eq_true rfl⟩ rfl hl.1 rfl (Nat.le_of_ble_eq_true rfl) dX11_spoilt_11) hw (fun r4 σ5 H locs h hw => ?_)
    refine lv_if_eq (tgt := 34) hx hb dX11_spoilt_14 (by decide) (fun hc6 => ?_) (fun hc6 => ?_)
    · have h := h.1 hc6
      refine lv_iconst (v := (-1)) hx hb dX11_spoilt_34 (by decide) ?_
      exact m_iret hX hlk hr hw h dX11_spoilt_35
    · have h := h.2 hc6
      refine lv_iload_n hx hb dX11_spoilt_17 rfl (lv_at hl 3 rfl) ?_
      refine lv_iconst (v := 1) hx hb dX11_spoilt_18 (by decide) ?_
      refine lv_iconst (v := 3) hx hb dX11_spoilt_19 (by decide) ?_
      refine m_ci (m_runS (rest := []) hX hw (tX11_isWithin h) mtX11_isWithin k_311 k_312 ⟨⟨rfl, rfl, Nat.le_of_ble_eq_true rfl, Nat.le_of_ble_eq_true rfl⟩, Nat.le_of_ble_eq_true rfl, Nat.le_of_ble_eq_true rfl⟩ rfl hl.1 rfl (Nat.le_of_ble_eq_true rfl) dX11_spoilt_20) hw (fun r7 σ8 H locs h hw => ?_)
      refine lv_if_eq (tgt := 34) hx hb dX11_spoilt_23 (by decide) (fun hc9 => ?_) (fun hc9 => ?_)
      · have h := h.1 hc9
        refine lv_iconst (v := (-1)) hx hb dX11_spoilt_34 (by decide) ?_
        exact m_iret hX hlk hr hw h dX11_spoilt_35
      · have h := h.2 hc9
        refine lv_iload hx hb dX11_spoilt_26 (lv_at hl 4 rfl) ?_
        refine m_ci (m_runS (rest := []) hX hw (tX11_areDays h) mtX11_areDays k_574 k_575 ⟨⟨rfl, rfl, Nat.le_of_ble_eq_true rfl, Nat.le_of_ble_eq_true rfl⟩, Nat.le_of_ble_eq_true rfl, Nat.le_of_ble_eq_true rfl⟩ rfl hl.1 rfl (Nat.le_of_ble_eq_true rfl) dX11_spoilt_28) hw (fun r10 σ11 H locs h hw => ?_)
        refine lv_if_ne (tgt := 36) hx hb dX11_spoilt_31 (by decide) (fun hc12 => ?_) (fun hc12 => ?_)
        · have h := h.2 hc12
          refine lv_aload_n hx hb dX11_spoilt_36 rfl (lv_at hl 0 rfl) ?_
          obtain ⟨hT13, h⟩ := h
          obtain ⟨b14, hb14, h⟩ := h
          refine m_get hX hw cl11 hT13 0 (by decide) k_249 (fun _ h => h) (v := .ref b14) (congrArg va_rf hb14) dX11_spoilt_37 ?_
          refine lv_iload_n hx hb dX11_spoilt_40 rfl (lv_at hl 1 rfl) ?_
          obtain ⟨hT15, h⟩ := h
          obtain ⟨hc16, h⟩ := h
          refine m_aald hX hw (t := 4) (by decide) hT15 hc16 dX11_spoilt_41 ?_
          obtain ⟨b17, hb17, h⟩ := h
          rw [hb17]
          refine W.eq (g2 := F0 _ _ _ (.ref b17 :: _)) rfl ?_
          refine m_ci (m_runS (rest := []) hX hw (tX11_lackOf h) mtX11_lackOf k_347 k_348 ⟨⟨rfl, rfl, Nat.le_of_ble_eq_true rfl, Nat.le_of_ble_eq_true rfl⟩, Nat.le_of_ble_eq_true rfl, Nat.le_of_ble_eq_true rfl⟩ rfl hl.1 rfl (Nat.le_of_ble_eq_true rfl) dX11_spoilt_42) hw (fun r18 σ19 H locs h hw => ?_)
          refine lv_istore (lv' := [(6, _), (0, _), (1, _), (2, _), (3, _), (4, _), (5, _)]) hx hb dX11_spoilt_45 hl (by decide) rfl (fun ls hl => ?_)
          refine lv_iload hx hb dX11_spoilt_47 (lv_at hl 0 rfl) ?_
          refine lv_if_eq (tgt := 59) hx hb dX11_spoilt_49 (by decide) (fun hc20 => ?_) (fun hc20 => ?_)
          · have h := h.1 hc20
            refine lv_aload_n hx hb dX11_spoilt_59 rfl (lv_at hl 1 rfl) ?_
            obtain ⟨hT21, h⟩ := h
            obtain ⟨b22, hb22, h⟩ := h
            refine m_get hX hw cl11 hT21 8 (by decide) k_257 (fun _ h => h) (v := .ref b22) (congrArg va_rf hb22) dX11_spoilt_60 ?_
            refine lv_iload_n hx hb dX11_spoilt_63 rfl (lv_at hl 3 rfl) ?_
            refine lv_iload_n hx hb dX11_spoilt_64 rfl (lv_at hl 4 rfl) ?_
            refine lv_iload hx hb dX11_spoilt_65 (lv_at hl 6 rfl) ?_
            obtain ⟨hT25, h⟩ := h
            refine m_cv (m_runV (rest := []) hX hw (tX7_begin h) mtX7_begin k_782 ⟨k_783, k_784⟩ cl7 hT25 ⟨⟨rfl, rfl, Nat.le_of_ble_eq_true rfl, Nat.le_of_ble_eq_true rfl⟩, Nat.le_of_ble_eq_true rfl, Nat.le_of_ble_eq_true rfl⟩ rfl hl.1 rfl (Nat.le_of_ble_eq_true rfl) dX11_spoilt_67) hw (fun σ24 H locs h hw => ?_)
            refine lv_aload_n hx hb dX11_spoilt_70 rfl (lv_at hl 1 rfl) ?_
            obtain ⟨hT26, h⟩ := h
            obtain ⟨b27, hb27, h⟩ := h
            refine m_get hX hw cl11 hT26 8 (by decide) k_257 (fun _ h => h) (v := .ref b27) (congrArg va_rf hb27) dX11_spoilt_71 ?_
            refine lv_aload_n hx hb dX11_spoilt_74 rfl (lv_at hl 1 rfl) ?_
            obtain ⟨b28, hb28, h⟩ := h
            refine m_get hX hw cl11 hT26 0 (by decide) k_249 (fun _ h => h) (v := .ref b28) (congrArg va_rf hb28) dX11_spoilt_75 ?_
            refine lv_iload_n hx hb dX11_spoilt_78 rfl (lv_at hl 2 rfl) ?_
            obtain ⟨hT29, h⟩ := h
            obtain ⟨hc30, h⟩ := h
            refine m_aald hX hw (t := 4) (by decide) hT29 hc30 dX11_spoilt_79 ?_
            obtain ⟨b31, hb31, h⟩ := h
            rw [hb31]
            refine W.eq (g2 := F0 _ _ _ (.ref b31 :: _)) rfl ?_
            refine lv_iload hx hb dX11_spoilt_80 (lv_at hl 5 rfl) ?_
            obtain ⟨hT34, h⟩ := h
            refine m_cl (m_runV (rest := []) hX hw (tX7_follow h) mtX7_follow k_789 ⟨k_790, k_791⟩ cl7 hT34 ⟨⟨rfl, rfl, Nat.le_of_ble_eq_true rfl, Nat.le_of_ble_eq_true rfl⟩, Nat.le_of_ble_eq_true rfl, Nat.le_of_ble_eq_true rfl⟩ rfl hl.1 rfl (Nat.le_of_ble_eq_true rfl) dX11_spoilt_82) hw (fun r32 σ33 H locs h hw => ?_)
            refine lv_lstore (lv' := [(7, _), (6, _), (0, _), (1, _), (2, _), (3, _), (4, _), (5, _)]) hx hb dX11_spoilt_85 hl (by decide) rfl (fun ls hl => ?_)
            refine lv_aload_n hx hb dX11_spoilt_87 rfl (lv_at hl 2 rfl) ?_
            refine lv_lload hx hb dX11_spoilt_88 (lv_at hl 0 rfl) ?_
            refine lv_aload_n hx hb dX11_spoilt_90 rfl (lv_at hl 2 rfl) ?_
            obtain ⟨hT35, h⟩ := h
            obtain ⟨b36, hb36, h⟩ := h
            refine m_get hX hw cl11 hT35 0 (by decide) k_249 (fun _ h => h) (v := .ref b36) (congrArg va_rf hb36) dX11_spoilt_91 ?_
            refine lv_iload_n hx hb dX11_spoilt_94 rfl (lv_at hl 3 rfl) ?_
            obtain ⟨hT37, h⟩ := h
            obtain ⟨hc38, h⟩ := h
            refine m_aald hX hw (t := 4) (by decide) hT37 hc38 dX11_spoilt_95 ?_
            obtain ⟨b39, hb39, h⟩ := h
            rw [hb39]
            refine W.eq (g2 := F0 _ _ _ (.ref b39 :: _)) rfl ?_
            refine lv_iload hx hb dX11_spoilt_96 (lv_at hl 6 rfl) ?_
            refine m_cl (m_runS (rest := [_, _]) hX hw (tX11_rowsOf h) mtX11_rowsOf k_694 k_692 ⟨⟨rfl, rfl, Nat.le_of_ble_eq_true rfl, Nat.le_of_ble_eq_true rfl⟩, Nat.le_of_ble_eq_true rfl, Nat.le_of_ble_eq_true rfl⟩ rfl hl.1 rfl (Nat.le_of_ble_eq_true rfl) dX11_spoilt_98) hw (fun r40 σ41 H locs h hw => ?_)
            obtain ⟨hT44, h⟩ := h
            refine m_ci (m_runV (rest := []) hX hw (tX11_tell h) mtX11_tell k_695 ⟨k_697, k_9⟩ cl11 hT44 ⟨⟨rfl, rfl, Nat.le_of_ble_eq_true rfl, Nat.le_of_ble_eq_true rfl⟩, Nat.le_of_ble_eq_true rfl, Nat.le_of_ble_eq_true rfl⟩ rfl hl.1 rfl (Nat.le_of_ble_eq_true rfl) dX11_spoilt_101) hw (fun r42 σ43 H locs h hw => ?_)
            exact m_iret hX hlk hr hw h dX11_spoilt_104
          · have h := h.2 hc20
            refine lv_aload_n hx hb dX11_spoilt_52 rfl (lv_at hl 1 rfl) ?_
            refine lv_iload hx hb dX11_spoilt_53 (lv_at hl 0 rfl) ?_
            obtain ⟨hT47, h⟩ := h
            refine m_ci (m_runV (rest := []) hX hw (tX11_refuse h) mtX11_refuse k_322 ⟨k_324, k_0⟩ cl11 hT47 ⟨⟨rfl, rfl, Nat.le_of_ble_eq_true rfl, Nat.le_of_ble_eq_true rfl⟩, Nat.le_of_ble_eq_true rfl, Nat.le_of_ble_eq_true rfl⟩ rfl hl.1 rfl (Nat.le_of_ble_eq_true rfl) dX11_spoilt_55) hw (fun r45 σ46 H locs h hw => ?_)
            exact m_iret hX hlk hr hw h dX11_spoilt_58
        · have h := h.1 hc12
          refine lv_iconst (v := (-1)) hx hb dX11_spoilt_34 (by decide) ?_
          exact m_iret hX hlk hr hw h dX11_spoilt_35
theorem mtX11_spoilt : Mth yX11_spoilt cX11_spoilt 9 (some .int) 5 := ⟨k_781, k_43, by decide +kernel⟩
theorem tX11_spoilt {l : Launch} {D : va_G} {cA : Nat → ClassId} {z0 : Nat} {σ : Me} {a0 : Nat} {x1 : Int32} {x2 : Int32} {x3 : Int32} {x4 : Int32} {x5 : Int32} {Q : Int32 → Me → Prop} (h : pX11_spoilt σ a0 x1 x2 x3 x4 x5 Q) : Met l yX11_spoilt (Cond.code yX11_spoilt cX11_spoilt 9 (some .int) :: gTab) rX11_spoilt (PcM D cA z0 σ [.ref a0, .int x1, .int x2, .int x3, .int x4, .int x5]) (va_Qi Q (BM D cA z0) (AM z0)) 0 0 (AM z0) :=
  met_of (by decide) (Nat.le_of_ble_eq_true rfl) (fun hX hlk hr hn hw hl => wX11_spoilt hX hlk hr h hw hl)
abbrev rX11_seekPair : Room := { frames := 6, cells := 0, slots := 0, locals := 148 }
def pX11_seekPair (σ : Me) (a0 : Nat) (a1 : Nat) (x2 : Int32) (x3 : Int32) (Q : Int64 → Me → Prop) : Prop := ∃ I8 : Nat → Me → Int64 → Int32 → Prop, (∀ (n8 : Nat) (σ1 : Me) (x4_2 : Int64) (x6_3 : Int32), I8 n8 σ1 x4_2 x6_3 → gT σ1 a0 = 11 ∧ ∃ b5 : Nat, gP σ1 a0 5 = some b5 ∧ gT σ1 b5 = 6 ∧ ((gI σ1 b5 0) < x6_3 → ∀ σ8 : Me, σ8 = sI σ1 a0 9 ((1 : Int32)) → Q x4_2 σ8) ∧ (¬ (gI σ1 b5 0) < x6_3 → ∃ I24 : Nat → Me → Int64 → Int32 → Prop, (∀ (n24 : Nat) (σ9 : Me) (x4_10 : Int64) (x7_11 : Int32), I24 n24 σ9 x4_10 x7_11 → (x6_3 ≤ x7_11 → ∀ x6_14 : Int32, x6_14 = x6_3 + 1 → ∃ m8 : Nat, m8 < n8 ∧ I8 m8 σ9 x4_10 x6_14) ∧ (¬ x6_3 ≤ x7_11 → (x7_11 ≤ ((-12 : Int32)) → gT σ9 a0 = 11 ∧ ∃ b18 : Nat, gP σ9 a0 6 = some b18 ∧ gT σ9 b18 = 10 ∧ pX10_usePair σ9 b18 x7_11 x6_3 (fun σ20 => gT σ20 a0 = 11 ∧ ∃ b23 : Nat, gP σ20 a0 6 = some b23 ∧ gT σ20 b23 = 10 ∧ pX10_follow σ20 b23 a1 x2 x3 x4_10 (fun r24 σ25 => (x4_10 ≤ r24 → ∀ x7_35 : Int32, x7_35 = x7_11 + 1 → ∃ m24 : Nat, m24 < n24 ∧ I24 m24 σ25 x4_10 x7_35) ∧ (¬ x4_10 ≤ r24 → gT σ25 a0 = 11 ∧ ∀ σ37 : Me, σ37 = sI σ25 a0 10 x7_11 → ∀ σ38 : Me, σ38 = sI σ37 a0 11 x6_3 → ∀ x7_39 : Int32, x7_39 = x7_11 + 1 → ∃ m24 : Nat, m24 < n24 ∧ I24 m24 σ38 r24 x7_39)))) ∧ (¬ x7_11 ≤ ((-12 : Int32)) → gT σ9 a0 = 11 ∧ ∃ b41 : Nat, gP σ9 a0 6 = some b41 ∧ gT σ9 b41 = 10 ∧ pX10_hasReached σ9 b41 x7_11 (fun r42 σ43 => (r42 = 0 → ∀ x7_70 : Int32, x7_70 = x7_11 + 1 → ∃ m24 : Nat, m24 < n24 ∧ I24 m24 σ43 x4_10 x7_70) ∧ (¬ r42 = 0 → gT σ43 a0 = 11 ∧ ∃ b48 : Nat, gP σ43 a0 6 = some b48 ∧ gT σ43 b48 = 10 ∧ pX10_usePair σ43 b48 x7_11 x6_3 (fun σ50 => gT σ50 a0 = 11 ∧ ∃ b53 : Nat, gP σ50 a0 6 = some b53 ∧ gT σ50 b53 = 10 ∧ pX10_follow σ50 b53 a1 x2 x3 x4_10 (fun r54 σ55 => (x4_10 ≤ r54 → ∀ x7_65 : Int32, x7_65 = x7_11 + 1 → ∃ m24 : Nat, m24 < n24 ∧ I24 m24 σ55 x4_10 x7_65) ∧ (¬ x4_10 ≤ r54 → gT σ55 a0 = 11 ∧ ∀ σ67 : Me, σ67 = sI σ55 a0 10 x7_11 → ∀ σ68 : Me, σ68 = sI σ67 a0 11 x6_3 → ∀ x7_69 : Int32, x7_69 = x7_11 + 1 → ∃ m24 : Nat, m24 < n24 ∧ I24 m24 σ68 r54 x7_69)))))))) ∧ ∃ n24 : Nat, I24 n24 σ1 x4_2 ((-12 : Int32)))) ∧ ∃ n8 : Nat, I8 n8 σ ((4611686018427387904 : Int64)) ((0 : Int32))
set_option maxHeartbeats 4000000 in
set_option maxRecDepth 100000 in
theorem wX11_seekPair {p : Program} {l : Launch} {e : Env} {s : State} {m : MethodId} {args : Array Value} {below : List Frame} {meth : Method} {c : Code} {D : va_G} {cA : Nat → ClassId} {z0 : Nat} (hX : Cx p m c cX11_seekPair 10 s args RX11 D cA) (hlk : meth.locks = false) (hr : meth.sig.returnType = (some .long)) {σ : Me} {a0 : Nat} {a1 : Nat} {x2 : Int32} {x3 : Int32} {Q : Int64 → Me → Prop} (h : pX11_seekPair σ a0 a1 x2 x3 Q) {H : Heap} {locs : List Loc} {ls : Array Slot} (hw : wS D cA z0 s σ H locs) (hl : lv_has ls 10 [(0, .ref a0), (1, .ref a1), (2, .int x2), (3, .int x3)]) : W p l e rX11_seekPair s m args below meth c H locs 0 0 (MQ below (va_Ql Q (BM D cA z0) (AM z0)) args s 0 0 (AM z0)) (F0 m 0 ls []) := by
  have hx := hX.1.1
  have hb := hX.1.2.1
  have hown := hX.1.2.2.2.1
  have hts := hX.1.2.2.2.2
  unfold pX11_seekPair at h
  refine lv_ldc2 hx hb hown (hts _ k_608) dX11_seekPair_0 ?_
  refine lv_lstore (lv' := [(4, _), (0, _), (1, _), (2, _), (3, _)]) hx hb dX11_seekPair_3 hl (by decide) rfl (fun ls hl => ?_)
  refine lv_iconst (v := 0) hx hb dX11_seekPair_5 (by decide) ?_
  refine lv_istore (lv' := [(6, _), (4, _), (0, _), (1, _), (2, _), (3, _)]) hx hb dX11_seekPair_6 hl (by decide) rfl (fun ls hl => ?_)
  obtain ⟨I8, hI8, n8, h⟩ := h
  have key8 : ∀ (n8 : Nat) (σ1 : Me) (x4_2 : Int64) (x6_3 : Int32) (H : Heap) (locs : List Loc) (ls : Array Slot), I8 n8 σ1 x4_2 x6_3 → wS D cA z0 s σ1 H locs → lv_has ls 10 [(0, .ref a0), (1, .ref a1), (2, .int x2), (3, .int x3), (4, .long x4_2), (6, .int x6_3)] → W p l e rX11_seekPair s m args below meth c H locs 0 0 (MQ below (va_Ql Q (BM D cA z0) (AM z0)) args s 0 0 (AM z0)) (F0 m 8 ls []) := by
    intro n8
    induction n8 using Nat.strongRecOn with
    | _ n8 ih8 =>
      intro σ1 x4_2 x6_3 H locs ls h hw hl
      have h := hI8 _ _ _ _ h
      refine lv_iload hx hb dX11_seekPair_8 (lv_at hl 5 rfl) ?_
      refine lv_aload_n hx hb dX11_seekPair_10 rfl (lv_at hl 0 rfl) ?_
      obtain ⟨hT4, h⟩ := h
      obtain ⟨b5, hb5, h⟩ := h
      refine m_get hX hw cl11 hT4 5 (by decide) k_254 (fun _ h => h) (v := .ref b5) (congrArg va_rf hb5) dX11_seekPair_11 ?_
      obtain ⟨hT6, h⟩ := h
      refine m_get hX hw cl6 hT6 0 (by decide) k_80 (fun _ h => h) (v := .int _) rfl dX11_seekPair_14 ?_
      refine lv_icmp_gt (tgt := 114) hx hb dX11_seekPair_17 (by decide) (fun hc7 => ?_) (fun hc7 => ?_)
      · have h := h.1 hc7
        refine lv_aload_n hx hb dX11_seekPair_114 rfl (lv_at hl 0 rfl) ?_
        refine lv_iconst (v := 1) hx hb dX11_seekPair_115 (by decide) ?_
        refine m_putZ hX hw cl11 hT4 9 (by decide) k_258 (fun _ h => h) rfl rfl (by decide) dX11_seekPair_116 (fun H locs hw => ?_)
        let σ8 : Me := sI σ1 a0 9 ((1 : Int32))
        have h := h σ8 rfl
        have hw : wS D cA z0 s σ8 H locs := hw
        refine lv_lload hx hb dX11_seekPair_119 (lv_at hl 4 rfl) ?_
        exact m_lret hX hlk hr hw h dX11_seekPair_121
      · have h := h.2 hc7
        refine lv_bipush (v := (-12)) hx hb dX11_seekPair_20 (by decide) ?_
        refine lv_istore (lv' := [(7, _), (0, _), (1, _), (2, _), (3, _), (4, _), (6, _)]) hx hb dX11_seekPair_22 hl (by decide) rfl (fun ls hl => ?_)
        obtain ⟨I24, hI24, n24, h⟩ := h
        have key24 : ∀ (n24 : Nat) (σ9 : Me) (x4_10 : Int64) (x7_11 : Int32) (H : Heap) (locs : List Loc) (ls : Array Slot), I24 n24 σ9 x4_10 x7_11 → wS D cA z0 s σ9 H locs → lv_has ls 10 [(0, .ref a0), (1, .ref a1), (2, .int x2), (3, .int x3), (4, .long x4_10), (6, .int x6_3), (7, .int x7_11)] → W p l e rX11_seekPair s m args below meth c H locs 0 0 (MQ below (va_Ql Q (BM D cA z0) (AM z0)) args s 0 0 (AM z0)) (F0 m 24 ls []) := by
          intro n24
          induction n24 using Nat.strongRecOn with
          | _ n24 ih24 =>
            intro σ9 x4_10 x7_11 H locs ls h hw hl
            have h := hI24 _ _ _ _ h
            refine lv_iload hx hb dX11_seekPair_24 (lv_at hl 6 rfl) ?_
            refine lv_iload hx hb dX11_seekPair_26 (lv_at hl 5 rfl) ?_
            refine lv_icmp_ge (tgt := 108) hx hb dX11_seekPair_28 (by decide) (fun hc13 => ?_) (fun hc13 => ?_)
            · have h := h.1 hc13
              obtain ⟨x6_14, e_x6_14⟩ : ∃ y : Int32, y = x6_3 + 1 := ⟨_, rfl⟩
              have h := h x6_14 e_x6_14
              refine lv_iinc (v := x6_14) (lv' := [(6, _), (0, _), (1, _), (2, _), (3, _), (4, _), (7, _)]) hx hb dX11_seekPair_108 hl (k := 5) rfl (by rw [e_x6_14]; rfl) (by decide) rfl (fun ls hl => ?_)
              refine lv_goto (tgt := 8) hx hb dX11_seekPair_111 (by decide) ?_
              obtain ⟨m8, hm8, h⟩ := h
              exact ih8 m8 hm8 _ _ _ _ _ _ h hw (lv_sub hl [1, 2, 3, 4, 5, 0] rfl)
            · have h := h.2 hc13
              refine lv_iload hx hb dX11_seekPair_31 (lv_at hl 6 rfl) ?_
              refine lv_bipush (v := (-12)) hx hb dX11_seekPair_33 (by decide) ?_
              refine lv_icmp_le (tgt := 53) hx hb dX11_seekPair_35 (by decide) (fun hc16 => ?_) (fun hc16 => ?_)
              · have h := h.1 hc16
                refine lv_aload_n hx hb dX11_seekPair_53 rfl (lv_at hl 0 rfl) ?_
                obtain ⟨hT17, h⟩ := h
                obtain ⟨b18, hb18, h⟩ := h
                refine m_get hX hw cl11 hT17 6 (by decide) k_255 (fun _ h => h) (v := .ref b18) (congrArg va_rf hb18) dX11_seekPair_54 ?_
                refine lv_iload hx hb dX11_seekPair_57 (lv_at hl 6 rfl) ?_
                refine lv_iload hx hb dX11_seekPair_59 (lv_at hl 5 rfl) ?_
                obtain ⟨hT21, h⟩ := h
                refine m_cv (m_runV (rest := []) hX hw (tX10_usePair h) mtX10_usePair k_769 ⟨k_770, k_771⟩ cl10 hT21 ⟨⟨rfl, rfl, Nat.le_of_ble_eq_true rfl, Nat.le_of_ble_eq_true rfl⟩, Nat.le_of_ble_eq_true rfl, Nat.le_of_ble_eq_true rfl⟩ rfl hl.1 rfl (Nat.le_of_ble_eq_true rfl) dX11_seekPair_61) hw (fun σ20 H locs h hw => ?_)
                refine lv_aload_n hx hb dX11_seekPair_64 rfl (lv_at hl 0 rfl) ?_
                obtain ⟨hT22, h⟩ := h
                obtain ⟨b23, hb23, h⟩ := h
                refine m_get hX hw cl11 hT22 6 (by decide) k_255 (fun _ h => h) (v := .ref b23) (congrArg va_rf hb23) dX11_seekPair_65 ?_
                refine lv_aload_n hx hb dX11_seekPair_68 rfl (lv_at hl 1 rfl) ?_
                refine lv_iload_n hx hb dX11_seekPair_69 rfl (lv_at hl 2 rfl) ?_
                refine lv_iload_n hx hb dX11_seekPair_70 rfl (lv_at hl 3 rfl) ?_
                refine lv_lload hx hb dX11_seekPair_71 (lv_at hl 4 rfl) ?_
                obtain ⟨hT26, h⟩ := h
                refine m_cl (m_runV (rest := []) hX hw (tX10_follow h) mtX10_follow k_609 ⟨k_610, k_611⟩ cl10 hT26 ⟨⟨rfl, rfl, Nat.le_of_ble_eq_true rfl, Nat.le_of_ble_eq_true rfl⟩, Nat.le_of_ble_eq_true rfl, Nat.le_of_ble_eq_true rfl⟩ rfl hl.1 rfl (Nat.le_of_ble_eq_true rfl) dX11_seekPair_73) hw (fun r24 σ25 H locs h hw => ?_)
                refine lv_lstore (lv' := [(8, _), (0, _), (1, _), (2, _), (3, _), (4, _), (6, _), (7, _)]) hx hb dX11_seekPair_76 hl (by decide) rfl (fun ls hl => ?_)
                refine lv_lload hx hb dX11_seekPair_78 (lv_at hl 0 rfl) ?_
                refine lv_lload hx hb dX11_seekPair_80 (lv_at hl 5 rfl) ?_
                refine m_lge (tgt := 102) hX dX11_seekPair_82 dX11_seekPair_83 (by decide) (fun hc34 => ?_) (fun hc34 => ?_)
                · have h := h.1 hc34
                  obtain ⟨x7_35, e_x7_35⟩ : ∃ y : Int32, y = x7_11 + 1 := ⟨_, rfl⟩
                  have h := h x7_35 e_x7_35
                  refine lv_iinc (v := x7_35) (lv' := [(7, _), (8, _), (0, _), (1, _), (2, _), (3, _), (4, _), (6, _)]) hx hb dX11_seekPair_102 hl (k := 7) rfl (by rw [e_x7_35]; rfl) (by decide) rfl (fun ls hl => ?_)
                  refine lv_goto (tgt := 24) hx hb dX11_seekPair_105 (by decide) ?_
                  obtain ⟨m24, hm24, h⟩ := h
                  exact ih24 m24 hm24 _ _ _ _ _ _ h hw (lv_sub hl [2, 3, 4, 5, 6, 7, 0] rfl)
                · have h := h.2 hc34
                  refine lv_lload hx hb dX11_seekPair_86 (lv_at hl 0 rfl) ?_
                  refine lv_lstore (lv' := [(4, _), (8, _), (0, _), (1, _), (2, _), (3, _), (6, _), (7, _)]) hx hb dX11_seekPair_88 hl (by decide) rfl (fun ls hl => ?_)
                  refine lv_aload_n hx hb dX11_seekPair_90 rfl (lv_at hl 2 rfl) ?_
                  refine lv_iload hx hb dX11_seekPair_91 (lv_at hl 7 rfl) ?_
                  obtain ⟨hT36, h⟩ := h
                  refine m_putI hX hw cl11 hT36 10 (by decide) k_259 (fun _ h => h) rfl rfl dX11_seekPair_93 (fun H locs hw => ?_)
                  let σ37 : Me := sI σ25 a0 10 x7_11
                  have h := h σ37 rfl
                  have hw : wS D cA z0 s σ37 H locs := hw
                  refine lv_aload_n hx hb dX11_seekPair_96 rfl (lv_at hl 2 rfl) ?_
                  refine lv_iload hx hb dX11_seekPair_97 (lv_at hl 6 rfl) ?_
                  refine m_putI hX hw cl11 hT36 11 (by decide) k_260 (fun _ h => h) rfl rfl dX11_seekPair_99 (fun H locs hw => ?_)
                  let σ38 : Me := sI σ37 a0 11 x6_3
                  have h := h σ38 rfl
                  have hw : wS D cA z0 s σ38 H locs := hw
                  obtain ⟨x7_39, e_x7_39⟩ : ∃ y : Int32, y = x7_11 + 1 := ⟨_, rfl⟩
                  have h := h x7_39 e_x7_39
                  refine lv_iinc (v := x7_39) (lv' := [(7, _), (4, _), (8, _), (0, _), (1, _), (2, _), (3, _), (6, _)]) hx hb dX11_seekPair_102 hl (k := 7) rfl (by rw [e_x7_39]; rfl) (by decide) rfl (fun ls hl => ?_)
                  refine lv_goto (tgt := 24) hx hb dX11_seekPair_105 (by decide) ?_
                  obtain ⟨m24, hm24, h⟩ := h
                  exact ih24 m24 hm24 _ _ _ _ _ _ h hw (lv_sub hl [3, 4, 5, 6, 1, 7, 0] rfl)
              · have h := h.2 hc16
                refine lv_aload_n hx hb dX11_seekPair_38 rfl (lv_at hl 0 rfl) ?_
                obtain ⟨hT40, h⟩ := h
                obtain ⟨b41, hb41, h⟩ := h
                refine m_get hX hw cl11 hT40 6 (by decide) k_255 (fun _ h => h) (v := .ref b41) (congrArg va_rf hb41) dX11_seekPair_39 ?_
                refine lv_iload hx hb dX11_seekPair_42 (lv_at hl 6 rfl) ?_
                obtain ⟨hT44, h⟩ := h
                refine m_ci (m_runV (rest := []) hX hw (tX10_hasReached h) mtX10_hasReached k_765 ⟨k_766, k_767⟩ cl10 hT44 ⟨⟨rfl, rfl, Nat.le_of_ble_eq_true rfl, Nat.le_of_ble_eq_true rfl⟩, Nat.le_of_ble_eq_true rfl, Nat.le_of_ble_eq_true rfl⟩ rfl hl.1 rfl (Nat.le_of_ble_eq_true rfl) dX11_seekPair_44) hw (fun r42 σ43 H locs h hw => ?_)
                refine lv_if_ne (tgt := 53) hx hb dX11_seekPair_47 (by decide) (fun hc46 => ?_) (fun hc46 => ?_)
                · have h := h.2 hc46
                  refine lv_aload_n hx hb dX11_seekPair_53 rfl (lv_at hl 0 rfl) ?_
                  obtain ⟨hT47, h⟩ := h
                  obtain ⟨b48, hb48, h⟩ := h
                  refine m_get hX hw cl11 hT47 6 (by decide) k_255 (fun _ h => h) (v := .ref b48) (congrArg va_rf hb48) dX11_seekPair_54 ?_
                  refine lv_iload hx hb dX11_seekPair_57 (lv_at hl 6 rfl) ?_
                  refine lv_iload hx hb dX11_seekPair_59 (lv_at hl 5 rfl) ?_
                  obtain ⟨hT51, h⟩ := h
                  refine m_cv (m_runV (rest := []) hX hw (tX10_usePair h) mtX10_usePair k_769 ⟨k_770, k_771⟩ cl10 hT51 ⟨⟨rfl, rfl, Nat.le_of_ble_eq_true rfl, Nat.le_of_ble_eq_true rfl⟩, Nat.le_of_ble_eq_true rfl, Nat.le_of_ble_eq_true rfl⟩ rfl hl.1 rfl (Nat.le_of_ble_eq_true rfl) dX11_seekPair_61) hw (fun σ50 H locs h hw => ?_)
                  refine lv_aload_n hx hb dX11_seekPair_64 rfl (lv_at hl 0 rfl) ?_
                  obtain ⟨hT52, h⟩ := h
                  obtain ⟨b53, hb53, h⟩ := h
                  refine m_get hX hw cl11 hT52 6 (by decide) k_255 (fun _ h => h) (v := .ref b53) (congrArg va_rf hb53) dX11_seekPair_65 ?_
                  refine lv_aload_n hx hb dX11_seekPair_68 rfl (lv_at hl 1 rfl) ?_
                  refine lv_iload_n hx hb dX11_seekPair_69 rfl (lv_at hl 2 rfl) ?_
                  refine lv_iload_n hx hb dX11_seekPair_70 rfl (lv_at hl 3 rfl) ?_
                  refine lv_lload hx hb dX11_seekPair_71 (lv_at hl 4 rfl) ?_
                  obtain ⟨hT56, h⟩ := h
                  refine m_cl (m_runV (rest := []) hX hw (tX10_follow h) mtX10_follow k_609 ⟨k_610, k_611⟩ cl10 hT56 ⟨⟨rfl, rfl, Nat.le_of_ble_eq_true rfl, Nat.le_of_ble_eq_true rfl⟩, Nat.le_of_ble_eq_true rfl, Nat.le_of_ble_eq_true rfl⟩ rfl hl.1 rfl (Nat.le_of_ble_eq_true rfl) dX11_seekPair_73) hw (fun r54 σ55 H locs h hw => ?_)
                  refine lv_lstore (lv' := [(8, _), (0, _), (1, _), (2, _), (3, _), (4, _), (6, _), (7, _)]) hx hb dX11_seekPair_76 hl (by decide) rfl (fun ls hl => ?_)
                  refine lv_lload hx hb dX11_seekPair_78 (lv_at hl 0 rfl) ?_
                  refine lv_lload hx hb dX11_seekPair_80 (lv_at hl 5 rfl) ?_
                  refine m_lge (tgt := 102) hX dX11_seekPair_82 dX11_seekPair_83 (by decide) (fun hc64 => ?_) (fun hc64 => ?_)
                  · have h := h.1 hc64
                    obtain ⟨x7_65, e_x7_65⟩ : ∃ y : Int32, y = x7_11 + 1 := ⟨_, rfl⟩
                    have h := h x7_65 e_x7_65
                    refine lv_iinc (v := x7_65) (lv' := [(7, _), (8, _), (0, _), (1, _), (2, _), (3, _), (4, _), (6, _)]) hx hb dX11_seekPair_102 hl (k := 7) rfl (by rw [e_x7_65]; rfl) (by decide) rfl (fun ls hl => ?_)
                    refine lv_goto (tgt := 24) hx hb dX11_seekPair_105 (by decide) ?_
                    obtain ⟨m24, hm24, h⟩ := h
                    exact ih24 m24 hm24 _ _ _ _ _ _ h hw (lv_sub hl [2, 3, 4, 5, 6, 7, 0] rfl)
                  · have h := h.2 hc64
                    refine lv_lload hx hb dX11_seekPair_86 (lv_at hl 0 rfl) ?_
                    refine lv_lstore (lv' := [(4, _), (8, _), (0, _), (1, _), (2, _), (3, _), (6, _), (7, _)]) hx hb dX11_seekPair_88 hl (by decide) rfl (fun ls hl => ?_)
                    refine lv_aload_n hx hb dX11_seekPair_90 rfl (lv_at hl 2 rfl) ?_
                    refine lv_iload hx hb dX11_seekPair_91 (lv_at hl 7 rfl) ?_
                    obtain ⟨hT66, h⟩ := h
                    refine m_putI hX hw cl11 hT66 10 (by decide) k_259 (fun _ h => h) rfl rfl dX11_seekPair_93 (fun H locs hw => ?_)
                    let σ67 : Me := sI σ55 a0 10 x7_11
                    have h := h σ67 rfl
                    have hw : wS D cA z0 s σ67 H locs := hw
                    refine lv_aload_n hx hb dX11_seekPair_96 rfl (lv_at hl 2 rfl) ?_
                    refine lv_iload hx hb dX11_seekPair_97 (lv_at hl 6 rfl) ?_
                    refine m_putI hX hw cl11 hT66 11 (by decide) k_260 (fun _ h => h) rfl rfl dX11_seekPair_99 (fun H locs hw => ?_)
                    let σ68 : Me := sI σ67 a0 11 x6_3
                    have h := h σ68 rfl
                    have hw : wS D cA z0 s σ68 H locs := hw
                    obtain ⟨x7_69, e_x7_69⟩ : ∃ y : Int32, y = x7_11 + 1 := ⟨_, rfl⟩
                    have h := h x7_69 e_x7_69
                    refine lv_iinc (v := x7_69) (lv' := [(7, _), (4, _), (8, _), (0, _), (1, _), (2, _), (3, _), (6, _)]) hx hb dX11_seekPair_102 hl (k := 7) rfl (by rw [e_x7_69]; rfl) (by decide) rfl (fun ls hl => ?_)
                    refine lv_goto (tgt := 24) hx hb dX11_seekPair_105 (by decide) ?_
                    obtain ⟨m24, hm24, h⟩ := h
                    exact ih24 m24 hm24 _ _ _ _ _ _ h hw (lv_sub hl [3, 4, 5, 6, 1, 7, 0] rfl)
                · have h := h.1 hc46
                  refine lv_goto (tgt := 102) hx hb dX11_seekPair_50 (by decide) ?_
                  obtain ⟨x7_70, e_x7_70⟩ : ∃ y : Int32, y = x7_11 + 1 := ⟨_, rfl⟩
                  have h := h x7_70 e_x7_70
                  refine lv_iinc (v := x7_70) (lv' := [(7, _), (0, _), (1, _), (2, _), (3, _), (4, _), (6, _)]) hx hb dX11_seekPair_102 hl (k := 6) rfl (by rw [e_x7_70]; rfl) (by decide) rfl (fun ls hl => ?_)
                  refine lv_goto (tgt := 24) hx hb dX11_seekPair_105 (by decide) ?_
                  obtain ⟨m24, hm24, h⟩ := h
                  exact ih24 m24 hm24 _ _ _ _ _ _ h hw (lv_sub hl [1, 2, 3, 4, 5, 6, 0] rfl)
        exact key24 _ _ _ _ _ _ _ h hw (lv_sub hl [1, 2, 3, 4, 5, 6, 0] rfl)
  exact key8 _ _ _ _ _ _ _ h hw (lv_sub hl [2, 3, 4, 5, 1, 0] rfl)
theorem mtX11_seekPair : Mth yX11_seekPair cX11_seekPair 10 (some .long) 3 := ⟨k_764, k_43, by decide +kernel⟩
theorem tX11_seekPair {l : Launch} {D : va_G} {cA : Nat → ClassId} {z0 : Nat} {σ : Me} {a0 : Nat} {a1 : Nat} {x2 : Int32} {x3 : Int32} {Q : Int64 → Me → Prop} (h : pX11_seekPair σ a0 a1 x2 x3 Q) : Met l yX11_seekPair (Cond.code yX11_seekPair cX11_seekPair 10 (some .long) :: gTab) rX11_seekPair (PcM D cA z0 σ [.ref a0, .ref a1, .int x2, .int x3]) (va_Ql Q (BM D cA z0) (AM z0)) 0 0 (AM z0) :=
  met_of (by decide) (Nat.le_of_ble_eq_true rfl) (fun hX hlk hr hn hw hl => wX11_seekPair hX hlk hr h hw hl)
abbrev rX4_plan : Room := { frames := 5, cells := 0, slots := 0, locals := 128 }
def pX4_plan (σ : Me) (a0 : Nat) (a1 : Nat) (x2 : Int32) (x3 : Int32) (Q : Me → Prop) : Prop := ∃ I3 : Nat → Me → Int32 → Prop, (∀ (n3 : Nat) (σ1 : Me) (x4_2 : Int32), I3 n3 σ1 x4_2 → gT σ1 a0 = 4 ∧ ∃ b4 : Nat, gP σ1 a0 2 = some b4 ∧ gT σ1 b4 = 21 ∧ ((nI (gN σ1 b4)) ≤ x4_2 → ∃ I30 : Nat → Me → Int32 → Prop, (∀ (n30 : Nat) (σ11 : Me) (x4_12 : Int32), I30 n30 σ11 x4_12 → (x4_12 ≤ ((1 : Int32)) → gT σ11 a0 = 4 ∧ pX4_turnTo σ11 a0 a1 (x3 - ((1 : Int32))) (fun σ26 => gT σ26 a0 = 4 ∧ pX4_usefulOrder σ26 a0 ((1 : Int32)) x3 (fun r28 σ29 => gT σ29 a0 = 4 ∧ pX4_choose σ29 a0 a1 x2 ((0 : Int32)) r28 (fun σ32 => Q σ32)))) ∧ (¬ x4_12 ≤ ((1 : Int32)) → gT σ11 a0 = 4 ∧ pX4_turnTo σ11 a0 a1 (x3 - x4_12) (fun σ35 => gT σ35 a0 = 4 ∧ pX4_usefulOrder σ35 a0 x4_12 x3 (fun r37 σ38 => gT σ38 a0 = 4 ∧ pX4_planDay σ38 a0 a1 r37 (fun σ41 => ∀ x4_43 : Int32, x4_43 = x4_12 + (-1) → ∃ m30 : Nat, m30 < n30 ∧ I30 m30 σ41 x4_43))))) ∧ ∃ n30 : Nat, I30 n30 σ1 x3) ∧ (¬ (nI (gN σ1 b4)) ≤ x4_2 → vp_in x4_2 (gN σ1 b4) ∧ ∀ σ45 : Me, σ45 = sL σ1 b4 x4_2.toNatClampNeg ((0 : Int64)) → ∀ x4_46 : Int32, x4_46 = x4_2 + 1 → ∃ m3 : Nat, m3 < n3 ∧ I3 m3 σ45 x4_46)) ∧ ∃ n3 : Nat, I3 n3 σ ((0 : Int32))
set_option maxHeartbeats 4000000 in
set_option maxRecDepth 100000 in
theorem wX4_plan {p : Program} {l : Launch} {e : Env} {s : State} {m : MethodId} {args : Array Value} {below : List Frame} {meth : Method} {c : Code} {D : va_G} {cA : Nat → ClassId} {z0 : Nat} (hX : Cx p m c cX4_plan 5 s args RX4 D cA) (hlk : meth.locks = false) (hr : meth.sig.returnType = none) {σ : Me} {a0 : Nat} {a1 : Nat} {x2 : Int32} {x3 : Int32} {Q : Me → Prop} (h : pX4_plan σ a0 a1 x2 x3 Q) {H : Heap} {locs : List Loc} {ls : Array Slot} (hw : wS D cA z0 s σ H locs) (hl : lv_has ls 5 [(0, .ref a0), (1, .ref a1), (2, .int x2), (3, .int x3)]) : W p l e rX4_plan s m args below meth c H locs 0 0 (MQ below (va_Qv Q (BM D cA z0) (AM z0)) args s 0 0 (AM z0)) (F0 m 0 ls []) := by
  have hx := hX.1.1
  have hb := hX.1.2.1
  have hown := hX.1.2.2.2.1
  have hts := hX.1.2.2.2.2
  unfold pX4_plan at h
  refine lv_iconst (v := 0) hx hb dX4_plan_0 (by decide) ?_
  refine lv_istore (lv' := [(4, _), (0, _), (1, _), (2, _), (3, _)]) hx hb dX4_plan_1 hl (by decide) rfl (fun ls hl => ?_)
  obtain ⟨I3, hI3, n3, h⟩ := h
  have key3 : ∀ (n3 : Nat) (σ1 : Me) (x4_2 : Int32) (H : Heap) (locs : List Loc) (ls : Array Slot), I3 n3 σ1 x4_2 → wS D cA z0 s σ1 H locs → lv_has ls 5 [(0, .ref a0), (1, .ref a1), (2, .int x2), (3, .int x3), (4, .int x4_2)] → W p l e rX4_plan s m args below meth c H locs 0 0 (MQ below (va_Qv Q (BM D cA z0) (AM z0)) args s 0 0 (AM z0)) (F0 m 3 ls []) := by
    intro n3
    induction n3 using Nat.strongRecOn with
    | _ n3 ih3 =>
      intro σ1 x4_2 H locs ls h hw hl
      have h := hI3 _ _ _ h
      refine lv_iload hx hb dX4_plan_3 (lv_at hl 4 rfl) ?_
      refine lv_aload_n hx hb dX4_plan_5 rfl (lv_at hl 0 rfl) ?_
      obtain ⟨hT3, h⟩ := h
      obtain ⟨b4, hb4, h⟩ := h
      refine m_get hX hw cl4 hT3 2 (by decide) k_202 (fun _ h => h) (v := .ref b4) (congrArg va_rf hb4) dX4_plan_6 ?_
      obtain ⟨hT5, h⟩ := h
      refine m_alen hX hw (t := 1) (by decide) hT5 dX4_plan_9 ?_
      refine lv_icmp_ge (tgt := 27) hx hb dX4_plan_10 (by decide) (fun hc10 => ?_) (fun hc10 => ?_)
      · have h := h.1 hc10
        refine lv_iload_n hx hb dX4_plan_27 rfl (lv_at hl 3 rfl) ?_
        refine lv_istore (lv' := [(4, _), (0, _), (1, _), (2, _), (3, _)]) hx hb dX4_plan_28 hl (by decide) rfl (fun ls hl => ?_)
        obtain ⟨I30, hI30, n30, h⟩ := h
        have key30 : ∀ (n30 : Nat) (σ11 : Me) (x4_12 : Int32) (H : Heap) (locs : List Loc) (ls : Array Slot), I30 n30 σ11 x4_12 → wS D cA z0 s σ11 H locs → lv_has ls 5 [(0, .ref a0), (1, .ref a1), (2, .int x2), (3, .int x3), (4, .int x4_12)] → W p l e rX4_plan s m args below meth c H locs 0 0 (MQ below (va_Qv Q (BM D cA z0) (AM z0)) args s 0 0 (AM z0)) (F0 m 30 ls []) := by
          intro n30
          induction n30 using Nat.strongRecOn with
          | _ n30 ih30 =>
            intro σ11 x4_12 H locs ls h hw hl
            have h := hI30 _ _ _ h
            refine lv_iload hx hb dX4_plan_30 (lv_at hl 4 rfl) ?_
            refine lv_iconst (v := 1) hx hb dX4_plan_32 (by decide) ?_
            refine lv_icmp_le (tgt := 63) hx hb dX4_plan_33 (by decide) (fun hc24 => ?_) (fun hc24 => ?_)
            · have h := h.1 hc24
              refine lv_aload_n hx hb dX4_plan_63 rfl (lv_at hl 0 rfl) ?_
              refine lv_aload_n hx hb dX4_plan_64 rfl (lv_at hl 1 rfl) ?_
              refine lv_iload_n hx hb dX4_plan_65 rfl (lv_at hl 3 rfl) ?_
              refine lv_iconst (v := 1) hx hb dX4_plan_66 (by decide) ?_
              refine lv_isub hx hb dX4_plan_67 ?_
              obtain ⟨hT27, h⟩ := h
              refine m_cv (m_runV (rest := []) hX hw (tX4_turnTo h) mtX4_turnTo k_723 ⟨k_725, k_10⟩ cl4 hT27 ⟨⟨rfl, rfl, Nat.le_of_ble_eq_true rfl, Nat.le_of_ble_eq_true rfl⟩, Nat.le_of_ble_eq_true rfl, Nat.le_of_ble_eq_true rfl⟩ rfl hl.1 rfl (Nat.le_of_ble_eq_true rfl) dX4_plan_68) hw (fun σ26 H locs h hw => ?_)
              refine lv_aload_n hx hb dX4_plan_71 rfl (lv_at hl 0 rfl) ?_
              refine lv_aload_n hx hb dX4_plan_72 rfl (lv_at hl 1 rfl) ?_
              refine lv_iload_n hx hb dX4_plan_73 rfl (lv_at hl 2 rfl) ?_
              refine lv_iconst (v := 0) hx hb dX4_plan_74 (by decide) ?_
              refine lv_aload_n hx hb dX4_plan_75 rfl (lv_at hl 0 rfl) ?_
              refine lv_iconst (v := 1) hx hb dX4_plan_76 (by decide) ?_
              refine lv_iload_n hx hb dX4_plan_77 rfl (lv_at hl 3 rfl) ?_
              obtain ⟨hT30, h⟩ := h
              refine m_ci (m_runV (rest := [_, _, _, _]) hX hw (tX4_usefulOrder h) mtX4_usefulOrder k_728 ⟨k_730, k_11⟩ cl4 hT30 ⟨⟨rfl, rfl, Nat.le_of_ble_eq_true rfl, Nat.le_of_ble_eq_true rfl⟩, Nat.le_of_ble_eq_true rfl, Nat.le_of_ble_eq_true rfl⟩ rfl hl.1 rfl (Nat.le_of_ble_eq_true rfl) dX4_plan_78) hw (fun r28 σ29 H locs h hw => ?_)
              obtain ⟨hT33, h⟩ := h
              refine m_cv (m_runV (rest := []) hX hw (tX4_choose h) mtX4_choose k_737 ⟨k_739, k_13⟩ cl4 hT33 ⟨⟨rfl, rfl, Nat.le_of_ble_eq_true rfl, Nat.le_of_ble_eq_true rfl⟩, Nat.le_of_ble_eq_true rfl, Nat.le_of_ble_eq_true rfl⟩ rfl hl.1 rfl (Nat.le_of_ble_eq_true rfl) dX4_plan_81) hw (fun σ32 H locs h hw => ?_)
              exact m_vret hX hlk hr hw h dX4_plan_84
            · have h := h.2 hc24
              refine lv_aload_n hx hb dX4_plan_36 rfl (lv_at hl 0 rfl) ?_
              refine lv_aload_n hx hb dX4_plan_37 rfl (lv_at hl 1 rfl) ?_
              refine lv_iload_n hx hb dX4_plan_38 rfl (lv_at hl 3 rfl) ?_
              refine lv_iload hx hb dX4_plan_39 (lv_at hl 4 rfl) ?_
              refine lv_isub hx hb dX4_plan_41 ?_
              obtain ⟨hT36, h⟩ := h
              refine m_cv (m_runV (rest := []) hX hw (tX4_turnTo h) mtX4_turnTo k_723 ⟨k_725, k_10⟩ cl4 hT36 ⟨⟨rfl, rfl, Nat.le_of_ble_eq_true rfl, Nat.le_of_ble_eq_true rfl⟩, Nat.le_of_ble_eq_true rfl, Nat.le_of_ble_eq_true rfl⟩ rfl hl.1 rfl (Nat.le_of_ble_eq_true rfl) dX4_plan_42) hw (fun σ35 H locs h hw => ?_)
              refine lv_aload_n hx hb dX4_plan_45 rfl (lv_at hl 0 rfl) ?_
              refine lv_aload_n hx hb dX4_plan_46 rfl (lv_at hl 1 rfl) ?_
              refine lv_aload_n hx hb dX4_plan_47 rfl (lv_at hl 0 rfl) ?_
              refine lv_iload hx hb dX4_plan_48 (lv_at hl 4 rfl) ?_
              refine lv_iload_n hx hb dX4_plan_50 rfl (lv_at hl 3 rfl) ?_
              obtain ⟨hT39, h⟩ := h
              refine m_ci (m_runV (rest := [_, _]) hX hw (tX4_usefulOrder h) mtX4_usefulOrder k_728 ⟨k_730, k_11⟩ cl4 hT39 ⟨⟨rfl, rfl, Nat.le_of_ble_eq_true rfl, Nat.le_of_ble_eq_true rfl⟩, Nat.le_of_ble_eq_true rfl, Nat.le_of_ble_eq_true rfl⟩ rfl hl.1 rfl (Nat.le_of_ble_eq_true rfl) dX4_plan_51) hw (fun r37 σ38 H locs h hw => ?_)
              obtain ⟨hT42, h⟩ := h
              refine m_cv (m_runV (rest := []) hX hw (tX4_planDay h) mtX4_planDay k_732 ⟨k_734, k_12⟩ cl4 hT42 ⟨⟨rfl, rfl, Nat.le_of_ble_eq_true rfl, Nat.le_of_ble_eq_true rfl⟩, Nat.le_of_ble_eq_true rfl, Nat.le_of_ble_eq_true rfl⟩ rfl hl.1 rfl (Nat.le_of_ble_eq_true rfl) dX4_plan_54) hw (fun σ41 H locs h hw => ?_)
              obtain ⟨x4_43, e_x4_43⟩ : ∃ y : Int32, y = x4_12 + (-1) := ⟨_, rfl⟩
              have h := h x4_43 e_x4_43
              refine lv_iinc (v := x4_43) (lv' := [(4, _), (0, _), (1, _), (2, _), (3, _)]) hx hb dX4_plan_57 hl (k := 4) rfl (by rw [e_x4_43]; rfl) (by decide) rfl (fun ls hl => ?_)
              refine lv_goto (tgt := 30) hx hb dX4_plan_60 (by decide) ?_
              obtain ⟨m30, hm30, h⟩ := h
              exact ih30 m30 hm30 _ _ _ _ _ h hw (lv_sub hl [1, 2, 3, 4, 0] rfl)
        exact key30 _ _ _ _ _ _ h hw (lv_sub hl [1, 2, 3, 4, 0] rfl)
      · have h := h.2 hc10
        refine lv_aload_n hx hb dX4_plan_13 rfl (lv_at hl 0 rfl) ?_
        refine m_get hX hw cl4 hT3 2 (by decide) k_202 (fun _ h => h) (v := .ref b4) (congrArg va_rf hb4) dX4_plan_14 ?_
        refine lv_iload hx hb dX4_plan_17 (lv_at hl 4 rfl) ?_
        refine lv_lconst (v := 0) hx hb dX4_plan_19 (by decide) ?_
        obtain ⟨hc44, h⟩ := h
        refine m_last hX hw hT5 hc44 dX4_plan_20 (fun H locs hw => ?_)
        let σ45 : Me := sL σ1 b4 x4_2.toNatClampNeg ((0 : Int64))
        have h := h σ45 rfl
        have hw : wS D cA z0 s σ45 H locs := hw
        obtain ⟨x4_46, e_x4_46⟩ : ∃ y : Int32, y = x4_2 + 1 := ⟨_, rfl⟩
        have h := h x4_46 e_x4_46
        refine lv_iinc (v := x4_46) (lv' := [(4, _), (0, _), (1, _), (2, _), (3, _)]) hx hb dX4_plan_21 hl (k := 4) rfl (by rw [e_x4_46]; rfl) (by decide) rfl (fun ls hl => ?_)
        refine lv_goto (tgt := 3) hx hb dX4_plan_24 (by decide) ?_
        obtain ⟨m3, hm3, h⟩ := h
        exact ih3 m3 hm3 _ _ _ _ _ h hw (lv_sub hl [1, 2, 3, 4, 0] rfl)
  exact key3 _ _ _ _ _ _ h hw (lv_sub hl [1, 2, 3, 4, 0] rfl)
theorem mtX4_plan : Mth yX4_plan cX4_plan 5 none 3 := ⟨k_722, k_48, by decide +kernel⟩
theorem tX4_plan {l : Launch} {D : va_G} {cA : Nat → ClassId} {z0 : Nat} {σ : Me} {a0 : Nat} {a1 : Nat} {x2 : Int32} {x3 : Int32} {Q : Me → Prop} (h : pX4_plan σ a0 a1 x2 x3 Q) : Met l yX4_plan (Cond.code yX4_plan cX4_plan 5 none :: gTab) rX4_plan (PcM D cA z0 σ [.ref a0, .ref a1, .int x2, .int x3]) (va_Qv Q (BM D cA z0) (AM z0)) 0 0 (AM z0) :=
  met_of (by decide) (Nat.le_of_ble_eq_true rfl) (fun hX hlk hr hn hw hl => wX4_plan hX hlk hr h hw hl)
