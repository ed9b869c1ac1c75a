abbrev rX11_best : Room := { frames := 6, cells := 0, slots := 0, locals := 152 }
def pX11_best (σ : Me) (a0 : Nat) (x1 : Int32) (x2 : Int32) (x3 : Int32) (Q : Int32 → Me → Prop) : Prop := gT σ a0 = 11 ∧ pX11_isStart σ a0 x1 x2 x3 (fun r1 σ2 => (r1 = 0 → Q ((-1 : Int32)) σ2) ∧ (¬ r1 = 0 → gT σ2 a0 = 11 ∧ ∃ b6 : Nat, gP σ2 a0 0 = some b6 ∧ gT σ2 b6 = 24 ∧ vp_in x1 (gN σ2 b6) ∧ ∃ b9 : Nat, gP σ2 b6 x1.toNatClampNeg = some b9 ∧ pX11_lackOf σ2 b9 (fun r10 σ11 => (r10 = 0 → gT σ11 a0 = 11 ∧ ∃ b14 : Nat, gP σ11 a0 5 = some b14 ∧ ∃ b15 : Nat, gP σ11 a0 0 = some b15 ∧ gT σ11 b15 = 24 ∧ vp_in x1 (gN σ11 b15) ∧ ∃ b18 : Nat, gP σ11 b15 x1.toNatClampNeg = some b18 ∧ gT σ11 b14 = 6 ∧ pX6_reckon σ11 b14 b18 (fun σ20 => gT σ20 a0 = 11 ∧ ∃ b23 : Nat, gP σ20 a0 7 = some b23 ∧ ∃ b24 : Nat, gP σ20 a0 0 = some b24 ∧ gT σ20 b24 = 24 ∧ vp_in x1 (gN σ20 b24) ∧ ∃ b27 : Nat, gP σ20 b24 x1.toNatClampNeg = some b27 ∧ gT σ20 b23 = 4 ∧ pX4_plan σ20 b23 b27 x2 x3 (fun σ29 => gT σ29 a0 = 11 ∧ ∃ b32 : Nat, gP σ29 a0 7 = some b32 ∧ gT σ29 b32 = 4 ∧ ∃ b34 : Nat, gP σ29 a0 0 = some b34 ∧ gT σ29 b34 = 24 ∧ vp_in x1 (gN σ29 b34) ∧ ∃ b37 : Nat, gP σ29 b34 x1.toNatClampNeg = some b37 ∧ pX11_rowsOf σ29 b37 x3 (fun r38 σ39 => gT σ39 a0 = 11 ∧ pX11_tell σ39 a0 (gL σ29 b32 5) r38 (fun r40 σ41 => gT σ41 a0 = 11 ∧ ∃ b44 : Nat, gP σ41 a0 7 = some b44 ∧ gT σ41 b44 = 4 ∧ Q (gI σ41 b44 6) σ41))))) ∧ (¬ r10 = 0 → gT σ11 a0 = 11 ∧ pX11_refuse σ11 a0 r10 (fun r46 σ47 => Q r46 σ47)))))
set_option maxHeartbeats 4000000 in
set_option maxRecDepth 100000 in
theorem wX11_best {p : Program} {l : Launch} {e : Env} {s : State} {m : MethodId} {args : Array Value} {below : List Frame} {meth : Method} {c : Code} {D : va_G} {cA : Nat → ClassId} {z0 : Nat} (hX : Cx p m c cX11_best 5 s args RX11 D cA) (hlk : meth.locks = false) (hr : meth.sig.returnType = (some .int)) {σ : Me} {a0 : Nat} {x1 : Int32} {x2 : Int32} {x3 : Int32} {Q : Int32 → Me → Prop} (h : pX11_best σ a0 x1 x2 x3 Q) {H : Heap} {locs : List Loc} {ls : Array Slot} (hw : wS D cA z0 s σ H locs) (hl : lv_has ls 5 [(0, .ref a0), (1, .int x1), (2, .int x2), (3, .int x3)]) : W p l e rX11_best s m args below meth c H locs 0 0 (MQ below (va_Qi Q (BM D cA z0) (AM z0)) args s 0 0 (AM z0)) (F0 m 0 ls []) := by
  have hx := hX.1.1
  have hb := hX.1.2.1
  have hown := hX.1.2.2.2.1
  have hts := hX.1.2.2.2.2
  unfold pX11_best at h
  refine lv_aload_n hx hb dX11_best_0 rfl (lv_at hl 0 rfl) ?_
  refine lv_iload_n hx hb dX11_best_1 rfl (lv_at hl 1 rfl) ?_
  refine lv_iload_n hx hb dX11_best_2 rfl (lv_at hl 2 rfl) ?_
  refine lv_iload_n hx hb dX11_best_3 rfl (lv_at hl 3 rfl) ?_
  obtain ⟨hT3, h⟩ := h
  refine m_ci (m_runV (rest := []) hX hw (tX11_isStart h) mtX11_isStart k_570 ⟨k_572, k_3⟩ cl11 hT3 ⟨⟨rfl, rfl, Nat.le_of_ble_eq_true rfl, Nat.le_of_ble_eq_true rfl⟩, Nat.le_of_ble_eq_true rfl, Nat.le_of_ble_eq_true rfl⟩ rfl hl.1 rfl (Nat.le_of_ble_eq_true rfl) dX11_best_4) hw (fun r1 σ2 H locs h hw => ?_)
  refine lv_if_ne (tgt := 12) hx hb dX11_best_7 (by decide) (fun hc4 => ?_) (fun hc4 => ?_)
  · have h := h.2 hc4
    refine lv_aload_n hx hb dX11_best_12 rfl (lv_at hl 0 rfl) ?_
    obtain ⟨hT5, h⟩ := h
    obtain ⟨b6, hb6, h⟩ := h
    refine m_get hX hw cl11 hT5 0 (by decide) k_249 (fun _ h => h) (v := .ref b6) (congrArg va_rf hb6) dX11_best_13 ?_
    refine lv_iload_n hx hb dX11_best_16 rfl (lv_at hl 1 rfl) ?_
    obtain ⟨hT7, h⟩ := h
    obtain ⟨hc8, h⟩ := h
    refine m_aald hX hw (t := 4) (by decide) hT7 hc8 dX11_best_17 ?_
    obtain ⟨b9, hb9, h⟩ := h
    rw [hb9]
    refine W.eq (g2 := F0 _ _ _ (.ref b9 :: _)) rfl ?_
    refine m_ci (m_runS (rest := []) hX hw (tX11_lackOf h) mtX11_lackOf k_347 k_348 ⟨⟨rfl, rfl, Nat.le_of_ble_eq_true rfl, Nat.le_of_ble_eq_true rfl⟩, Nat.le_of_ble_eq_true rfl, Nat.le_of_ble_eq_true rfl⟩ rfl hl.1 rfl (Nat.le_of_ble_eq_true rfl) dX11_best_18) hw (fun r10 σ11 H locs h hw => ?_)
    refine lv_istore (lv' := [(4, _), (0, _), (1, _), (2, _), (3, _)]) hx hb dX11_best_21 hl (by decide) rfl (fun ls hl => ?_)
    refine lv_iload hx hb dX11_best_23 (lv_at hl 0 rfl) ?_
    refine lv_if_eq (tgt := 35) hx hb dX11_best_25 (by decide) (fun hc12 => ?_) (fun hc12 => ?_)
    · have h := h.1 hc12
      refine lv_aload_n hx hb dX11_best_35 rfl (lv_at hl 1 rfl) ?_
      obtain ⟨hT13, h⟩ := h
      obtain ⟨b14, hb14, h⟩ := h
      refine m_get hX hw cl11 hT13 5 (by decide) k_254 (fun _ h => h) (v := .ref b14) (congrArg va_rf hb14) dX11_best_36 ?_
      refine lv_aload_n hx hb dX11_best_39 rfl (lv_at hl 1 rfl) ?_
      obtain ⟨b15, hb15, h⟩ := h
      refine m_get hX hw cl11 hT13 0 (by decide) k_249 (fun _ h => h) (v := .ref b15) (congrArg va_rf hb15) dX11_best_40 ?_
      refine lv_iload_n hx hb dX11_best_43 rfl (lv_at hl 2 rfl) ?_
      obtain ⟨hT16, h⟩ := h
      obtain ⟨hc17, h⟩ := h
      refine m_aald hX hw (t := 4) (by decide) hT16 hc17 dX11_best_44 ?_
      obtain ⟨b18, hb18, h⟩ := h
      rw [hb18]
      refine W.eq (g2 := F0 _ _ _ (.ref b18 :: _)) rfl ?_
      obtain ⟨hT21, h⟩ := h
      refine m_cv (m_runV (rest := []) hX hw (tX6_reckon h) mtX6_reckon k_584 ⟨k_585, k_586⟩ cl6 hT21 ⟨⟨rfl, rfl, Nat.le_of_ble_eq_true rfl, Nat.le_of_ble_eq_true rfl⟩, Nat.le_of_ble_eq_true rfl, Nat.le_of_ble_eq_true rfl⟩ rfl hl.1 rfl (Nat.le_of_ble_eq_true rfl) dX11_best_45) hw (fun σ20 H locs h hw => ?_)
      refine lv_aload_n hx hb dX11_best_48 rfl (lv_at hl 1 rfl) ?_
      obtain ⟨hT22, h⟩ := h
      obtain ⟨b23, hb23, h⟩ := h
      refine m_get hX hw cl11 hT22 7 (by decide) k_256 (fun _ h => h) (v := .ref b23) (congrArg va_rf hb23) dX11_best_49 ?_
      refine lv_aload_n hx hb dX11_best_52 rfl (lv_at hl 1 rfl) ?_
      obtain ⟨b24, hb24, h⟩ := h
      refine m_get hX hw cl11 hT22 0 (by decide) k_249 (fun _ h => h) (v := .ref b24) (congrArg va_rf hb24) dX11_best_53 ?_
      refine lv_iload_n hx hb dX11_best_56 rfl (lv_at hl 2 rfl) ?_
      obtain ⟨hT25, h⟩ := h
      obtain ⟨hc26, h⟩ := h
      refine m_aald hX hw (t := 4) (by decide) hT25 hc26 dX11_best_57 ?_
      obtain ⟨b27, hb27, h⟩ := h
      rw [hb27]
      refine W.eq (g2 := F0 _ _ _ (.ref b27 :: _)) rfl ?_
      refine lv_iload_n hx hb dX11_best_58 rfl (lv_at hl 3 rfl) ?_
      refine lv_iload_n hx hb dX11_best_59 rfl (lv_at hl 4 rfl) ?_
      obtain ⟨hT30, h⟩ := h
      refine m_cv (m_runV (rest := []) hX hw (tX4_plan h) mtX4_plan k_719 ⟨k_720, k_721⟩ cl4 hT30 ⟨⟨rfl, rfl, Nat.le_of_ble_eq_true rfl, Nat.le_of_ble_eq_true rfl⟩, Nat.le_of_ble_eq_true rfl, Nat.le_of_ble_eq_true rfl⟩ rfl hl.1 rfl (Nat.le_of_ble_eq_true rfl) dX11_best_60) hw (fun σ29 H locs h hw => ?_)
      refine lv_aload_n hx hb dX11_best_63 rfl (lv_at hl 1 rfl) ?_
      refine lv_aload_n hx hb dX11_best_64 rfl (lv_at hl 1 rfl) ?_
      obtain ⟨hT31, h⟩ := h
      obtain ⟨b32, hb32, h⟩ := h
      refine m_get hX hw cl11 hT31 7 (by decide) k_256 (fun _ h => h) (v := .ref b32) (congrArg va_rf hb32) dX11_best_65 ?_
      obtain ⟨hT33, h⟩ := h
      refine m_get hX hw cl4 hT33 5 (by decide) k_206 (fun _ h => h) (v := .long _) rfl dX11_best_68 ?_
      refine lv_aload_n hx hb dX11_best_71 rfl (lv_at hl 1 rfl) ?_
      obtain ⟨b34, hb34, h⟩ := h
      refine m_get hX hw cl11 hT31 0 (by decide) k_249 (fun _ h => h) (v := .ref b34) (congrArg va_rf hb34) dX11_best_72 ?_
      refine lv_iload_n hx hb dX11_best_75 rfl (lv_at hl 2 rfl) ?_
      obtain ⟨hT35, h⟩ := h
      obtain ⟨hc36, h⟩ := h
      refine m_aald hX hw (t := 4) (by decide) hT35 hc36 dX11_best_76 ?_
      obtain ⟨b37, hb37, h⟩ := h
      rw [hb37]
      refine W.eq (g2 := F0 _ _ _ (.ref b37 :: _)) rfl ?_
      refine lv_iload_n hx hb dX11_best_77 rfl (lv_at hl 4 rfl) ?_
      refine m_cl (m_runS (rest := [_, _]) hX hw (tX11_rowsOf h) mtX11_rowsOf k_694 k_692 ⟨⟨rfl, rfl, Nat.le_of_ble_eq_true rfl, Nat.le_of_ble_eq_true rfl⟩, Nat.le_of_ble_eq_true rfl, Nat.le_of_ble_eq_true rfl⟩ rfl hl.1 rfl (Nat.le_of_ble_eq_true rfl) dX11_best_78) hw (fun r38 σ39 H locs h hw => ?_)
      obtain ⟨hT42, h⟩ := h
      refine m_ci (m_runV (rest := []) hX hw (tX11_tell h) mtX11_tell k_695 ⟨k_697, k_9⟩ cl11 hT42 ⟨⟨rfl, rfl, Nat.le_of_ble_eq_true rfl, Nat.le_of_ble_eq_true rfl⟩, Nat.le_of_ble_eq_true rfl, Nat.le_of_ble_eq_true rfl⟩ rfl hl.1 rfl (Nat.le_of_ble_eq_true rfl) dX11_best_81) hw (fun r40 σ41 H locs h hw => ?_)
      refine lv_pop hx hb dX11_best_84 rfl ?_
      refine lv_aload_n hx hb dX11_best_85 rfl (lv_at hl 1 rfl) ?_
      obtain ⟨hT43, h⟩ := h
      obtain ⟨b44, hb44, h⟩ := h
      refine m_get hX hw cl11 hT43 7 (by decide) k_256 (fun _ h => h) (v := .ref b44) (congrArg va_rf hb44) dX11_best_86 ?_
      obtain ⟨hT45, h⟩ := h
      refine m_get hX hw cl4 hT45 6 (by decide) k_208 (fun _ h => h) (v := .int _) rfl dX11_best_89 ?_
      exact m_iret hX hlk hr hw h dX11_best_92
    · have h := h.2 hc12
      refine lv_aload_n hx hb dX11_best_28 rfl (lv_at hl 1 rfl) ?_
      refine lv_iload hx hb dX11_best_29 (lv_at hl 0 rfl) ?_
      obtain ⟨hT48, h⟩ := h
      refine m_ci (m_runV (rest := []) hX hw (tX11_refuse h) mtX11_refuse k_322 ⟨k_324, k_0⟩ cl11 hT48 ⟨⟨rfl, rfl, Nat.le_of_ble_eq_true rfl, Nat.le_of_ble_eq_true rfl⟩, Nat.le_of_ble_eq_true rfl, Nat.le_of_ble_eq_true rfl⟩ rfl hl.1 rfl (Nat.le_of_ble_eq_true rfl) dX11_best_31) hw (fun r46 σ47 H locs h hw => ?_)
      exact m_iret hX hlk hr hw h dX11_best_34
  · have h := h.1 hc4
    refine lv_iconst (v := (-1)) hx hb dX11_best_10 (by decide) ?_
    exact m_iret hX hlk hr hw h dX11_best_11
theorem mtX11_best : Mth yX11_best cX11_best 5 (some .int) 3 := ⟨k_718, k_43, by decide +kernel⟩
theorem tX11_best {l : Launch} {D : va_G} {cA : Nat → ClassId} {z0 : Nat} {σ : Me} {a0 : Nat} {x1 : Int32} {x2 : Int32} {x3 : Int32} {Q : Int32 → Me → Prop} (h : pX11_best σ a0 x1 x2 x3 Q) : Met l yX11_best (Cond.code yX11_best cX11_best 5 (some .int) :: gTab) rX11_best (PcM D cA z0 σ [.ref a0, .int x1, .int x2, .int x3]) (va_Qi Q (BM D cA z0) (AM z0)) 0 0 (AM z0) :=
  met_of (by decide) (Nat.le_of_ble_eq_true rfl) (fun hX hlk hr hn hw hl => wX11_best hX hlk hr h hw hl)
abbrev rX11_bestPair : Room := { frames := 7, cells := 0, slots := 0, locals := 177 }
def pX11_bestPair (σ : Me) (a0 : Nat) (x1 : Int32) (x2 : Int32) (x3 : Int32) (Q : Int32 → Me → Prop) : Prop := gT σ a0 = 11 ∧ pX11_isStart σ a0 x1 x2 x3 (fun r1 σ2 => (r1 = 0 → Q ((-1 : Int32)) σ2) ∧ (¬ r1 = 0 → gT σ2 a0 = 11 ∧ ∃ b6 : Nat, gP σ2 a0 0 = some b6 ∧ gT σ2 b6 = 24 ∧ vp_in x1 (gN σ2 b6) ∧ ∃ b9 : Nat, gP σ2 b6 x1.toNatClampNeg = some b9 ∧ pX11_lackOf σ2 b9 (fun r10 σ11 => (r10 = 0 → gT σ11 a0 = 11 ∧ ∃ b14 : Nat, gP σ11 a0 5 = some b14 ∧ ∃ b15 : Nat, gP σ11 a0 0 = some b15 ∧ gT σ11 b15 = 24 ∧ vp_in x1 (gN σ11 b15) ∧ ∃ b18 : Nat, gP σ11 b15 x1.toNatClampNeg = some b18 ∧ gT σ11 b14 = 6 ∧ pX6_reckon σ11 b14 b18 (fun σ20 => gT σ20 a0 = 11 ∧ ∃ b23 : Nat, gP σ20 a0 0 = some b23 ∧ gT σ20 b23 = 24 ∧ vp_in x1 (gN σ20 b23) ∧ ∃ b26 : Nat, gP σ20 b23 x1.toNatClampNeg = some b26 ∧ pX11_seekPair σ20 a0 b26 x2 x3 (fun r27 σ28 => gT σ28 a0 = 11 ∧ ∃ b30 : Nat, gP σ28 a0 0 = some b30 ∧ gT σ28 b30 = 24 ∧ vp_in x1 (gN σ28 b30) ∧ ∃ b33 : Nat, gP σ28 b30 x1.toNatClampNeg = some b33 ∧ pX11_rowsOf σ28 b33 x3 (fun r34 σ35 => gT σ35 a0 = 11 ∧ pX11_tell σ35 a0 r27 r34 (fun r36 σ37 => Q r36 σ37))))) ∧ (¬ r10 = 0 → gT σ11 a0 = 11 ∧ pX11_refuse σ11 a0 r10 (fun r39 σ40 => Q r39 σ40)))))
set_option maxHeartbeats 4000000 in
set_option maxRecDepth 100000 in
theorem wX11_bestPair {p : Program} {l : Launch} {e : Env} {s : State} {m : MethodId} {args : Array Value} {below : List Frame} {meth : Method} {c : Code} {D : va_G} {cA : Nat → ClassId} {z0 : Nat} (hX : Cx p m c cX11_bestPair 7 s args RX11 D cA) (hlk : meth.locks = false) (hr : meth.sig.returnType = (some .int)) {σ : Me} {a0 : Nat} {x1 : Int32} {x2 : Int32} {x3 : Int32} {Q : Int32 → Me → Prop} (h : pX11_bestPair σ a0 x1 x2 x3 Q) {H : Heap} {locs : List Loc} {ls : Array Slot} (hw : wS D cA z0 s σ H locs) (hl : lv_has ls 7 [(0, .ref a0), (1, .int x1), (2, .int x2), (3, .int x3)]) : W p l e rX11_bestPair s m args below meth c H locs 0 0 (MQ below (va_Qi Q (BM D cA z0) (AM z0)) args s 0 0 (AM z0)) (F0 m 0 ls []) := by
  have hx := hX.1.1
  have hb := hX.1.2.1
  have hown := hX.1.2.2.2.1
  have hts := hX.1.2.2.2.2
  unfold pX11_bestPair at h
  refine lv_aload_n hx hb dX11_bestPair_0 rfl (lv_at hl 0 rfl) ?_
  refine lv_iload_n hx hb dX11_bestPair_1 rfl (lv_at hl 1 rfl) ?_
  refine lv_iload_n hx hb dX11_bestPair_2 rfl (lv_at hl 2 rfl) ?_
  refine lv_iload_n hx hb dX11_bestPair_3 rfl (lv_at hl 3 rfl) ?_
  obtain ⟨hT3, h⟩ := h
  refine m_ci (m_runV (rest := []) hX hw (tX11_isStart h) mtX11_isStart k_570 ⟨k_572, k_3⟩ cl11 hT3 ⟨⟨rfl, rfl, Nat.le_of_ble_eq_true rfl, Nat.le_of_ble_eq_true rfl⟩, Nat.le_of_ble_eq_true rfl, Nat.le_of_ble_eq_true rfl⟩ rfl hl.1 rfl (Nat.le_of_ble_eq_true rfl) dX11_bestPair_4) hw (fun r1 σ2 H locs h hw => ?_)
  refine lv_if_ne (tgt := 12) hx hb dX11_bestPair_7 (by decide) (fun hc4 => ?_) (fun hc4 => ?_)
  · have h := h.2 hc4
    refine lv_aload_n hx hb dX11_bestPair_12 rfl (lv_at hl 0 rfl) ?_
    obtain ⟨hT5, h⟩ := h
    obtain ⟨b6, hb6, h⟩ := h
    refine m_get hX hw cl11 hT5 0 (by decide) k_249 (fun _ h => h) (v := .ref b6) (congrArg va_rf hb6) dX11_bestPair_13 ?_
    refine lv_iload_n hx hb dX11_bestPair_16 rfl (lv_at hl 1 rfl) ?_
    obtain ⟨hT7, h⟩ := h
    obtain ⟨hc8, h⟩ := h
    refine m_aald hX hw (t := 4) (by decide) hT7 hc8 dX11_bestPair_17 ?_
    obtain ⟨b9, hb9, h⟩ := h
    rw [hb9]
    refine W.eq (g2 := F0 _ _ _ (.ref b9 :: _)) rfl ?_
    refine m_ci (m_runS (rest := []) hX hw (tX11_lackOf h) mtX11_lackOf k_347 k_348 ⟨⟨rfl, rfl, Nat.le_of_ble_eq_true rfl, Nat.le_of_ble_eq_true rfl⟩, Nat.le_of_ble_eq_true rfl, Nat.le_of_ble_eq_true rfl⟩ rfl hl.1 rfl (Nat.le_of_ble_eq_true rfl) dX11_bestPair_18) hw (fun r10 σ11 H locs h hw => ?_)
    refine lv_istore (lv' := [(4, _), (0, _), (1, _), (2, _), (3, _)]) hx hb dX11_bestPair_21 hl (by decide) rfl (fun ls hl => ?_)
    refine lv_iload hx hb dX11_bestPair_23 (lv_at hl 0 rfl) ?_
    refine lv_if_eq (tgt := 35) hx hb dX11_bestPair_25 (by decide) (fun hc12 => ?_) (fun hc12 => ?_)
    · have h := h.1 hc12
      refine lv_aload_n hx hb dX11_bestPair_35 rfl (lv_at hl 1 rfl) ?_
      obtain ⟨hT13, h⟩ := h
      obtain ⟨b14, hb14, h⟩ := h
      refine m_get hX hw cl11 hT13 5 (by decide) k_254 (fun _ h => h) (v := .ref b14) (congrArg va_rf hb14) dX11_bestPair_36 ?_
      refine lv_aload_n hx hb dX11_bestPair_39 rfl (lv_at hl 1 rfl) ?_
      obtain ⟨b15, hb15, h⟩ := h
      refine m_get hX hw cl11 hT13 0 (by decide) k_249 (fun _ h => h) (v := .ref b15) (congrArg va_rf hb15) dX11_bestPair_40 ?_
      refine lv_iload_n hx hb dX11_bestPair_43 rfl (lv_at hl 2 rfl) ?_
      obtain ⟨hT16, h⟩ := h
      obtain ⟨hc17, h⟩ := h
      refine m_aald hX hw (t := 4) (by decide) hT16 hc17 dX11_bestPair_44 ?_
      obtain ⟨b18, hb18, h⟩ := h
      rw [hb18]
      refine W.eq (g2 := F0 _ _ _ (.ref b18 :: _)) rfl ?_
      obtain ⟨hT21, h⟩ := h
      refine m_cv (m_runV (rest := []) hX hw (tX6_reckon h) mtX6_reckon k_584 ⟨k_585, k_586⟩ cl6 hT21 ⟨⟨rfl, rfl, Nat.le_of_ble_eq_true rfl, Nat.le_of_ble_eq_true rfl⟩, Nat.le_of_ble_eq_true rfl, Nat.le_of_ble_eq_true rfl⟩ rfl hl.1 rfl (Nat.le_of_ble_eq_true rfl) dX11_bestPair_45) hw (fun σ20 H locs h hw => ?_)
      refine lv_aload_n hx hb dX11_bestPair_48 rfl (lv_at hl 1 rfl) ?_
      refine lv_aload_n hx hb dX11_bestPair_49 rfl (lv_at hl 1 rfl) ?_
      obtain ⟨hT22, h⟩ := h
      obtain ⟨b23, hb23, h⟩ := h
      refine m_get hX hw cl11 hT22 0 (by decide) k_249 (fun _ h => h) (v := .ref b23) (congrArg va_rf hb23) dX11_bestPair_50 ?_
      refine lv_iload_n hx hb dX11_bestPair_53 rfl (lv_at hl 2 rfl) ?_
      obtain ⟨hT24, h⟩ := h
      obtain ⟨hc25, h⟩ := h
      refine m_aald hX hw (t := 4) (by decide) hT24 hc25 dX11_bestPair_54 ?_
      obtain ⟨b26, hb26, h⟩ := h
      rw [hb26]
      refine W.eq (g2 := F0 _ _ _ (.ref b26 :: _)) rfl ?_
      refine lv_iload_n hx hb dX11_bestPair_55 rfl (lv_at hl 3 rfl) ?_
      refine lv_iload_n hx hb dX11_bestPair_56 rfl (lv_at hl 4 rfl) ?_
      refine m_cl (m_runV (rest := []) hX hw (tX11_seekPair h) mtX11_seekPair k_761 ⟨k_763, k_16⟩ cl11 hT22 ⟨⟨rfl, rfl, Nat.le_of_ble_eq_true rfl, Nat.le_of_ble_eq_true rfl⟩, Nat.le_of_ble_eq_true rfl, Nat.le_of_ble_eq_true rfl⟩ rfl hl.1 rfl (Nat.le_of_ble_eq_true rfl) dX11_bestPair_57) hw (fun r27 σ28 H locs h hw => ?_)
      refine lv_lstore (lv' := [(5, _), (4, _), (0, _), (1, _), (2, _), (3, _)]) hx hb dX11_bestPair_60 hl (by decide) rfl (fun ls hl => ?_)
      refine lv_aload_n hx hb dX11_bestPair_62 rfl (lv_at hl 2 rfl) ?_
      refine lv_lload hx hb dX11_bestPair_63 (lv_at hl 0 rfl) ?_
      refine lv_aload_n hx hb dX11_bestPair_65 rfl (lv_at hl 2 rfl) ?_
      obtain ⟨hT29, h⟩ := h
      obtain ⟨b30, hb30, h⟩ := h
      refine m_get hX hw cl11 hT29 0 (by decide) k_249 (fun _ h => h) (v := .ref b30) (congrArg va_rf hb30) dX11_bestPair_66 ?_
      refine lv_iload_n hx hb dX11_bestPair_69 rfl (lv_at hl 3 rfl) ?_
      obtain ⟨hT31, h⟩ := h
      obtain ⟨hc32, h⟩ := h
      refine m_aald hX hw (t := 4) (by decide) hT31 hc32 dX11_bestPair_70 ?_
      obtain ⟨b33, hb33, h⟩ := h
      rw [hb33]
      refine W.eq (g2 := F0 _ _ _ (.ref b33 :: _)) rfl ?_
      refine lv_iload_n hx hb dX11_bestPair_71 rfl (lv_at hl 5 rfl) ?_
      refine m_cl (m_runS (rest := [_, _]) hX hw (tX11_rowsOf h) mtX11_rowsOf k_694 k_692 ⟨⟨rfl, rfl, Nat.le_of_ble_eq_true rfl, Nat.le_of_ble_eq_true rfl⟩, Nat.le_of_ble_eq_true rfl, Nat.le_of_ble_eq_true rfl⟩ rfl hl.1 rfl (Nat.le_of_ble_eq_true rfl) dX11_bestPair_72) hw (fun r34 σ35 H locs h hw => ?_)
      obtain ⟨hT38, h⟩ := h
      refine m_ci (m_runV (rest := []) hX hw (tX11_tell h) mtX11_tell k_695 ⟨k_697, k_9⟩ cl11 hT38 ⟨⟨rfl, rfl, Nat.le_of_ble_eq_true rfl, Nat.le_of_ble_eq_true rfl⟩, Nat.le_of_ble_eq_true rfl, Nat.le_of_ble_eq_true rfl⟩ rfl hl.1 rfl (Nat.le_of_ble_eq_true rfl) dX11_bestPair_75) hw (fun r36 σ37 H locs h hw => ?_)
      exact m_iret hX hlk hr hw h dX11_bestPair_78
    · have h := h.2 hc12
      refine lv_aload_n hx hb dX11_bestPair_28 rfl (lv_at hl 1 rfl) ?_
      refine lv_iload hx hb dX11_bestPair_29 (lv_at hl 0 rfl) ?_
      obtain ⟨hT41, h⟩ := h
      refine m_ci (m_runV (rest := []) hX hw (tX11_refuse h) mtX11_refuse k_322 ⟨k_324, k_0⟩ cl11 hT41 ⟨⟨rfl, rfl, Nat.le_of_ble_eq_true rfl, Nat.le_of_ble_eq_true rfl⟩, Nat.le_of_ble_eq_true rfl, Nat.le_of_ble_eq_true rfl⟩ rfl hl.1 rfl (Nat.le_of_ble_eq_true rfl) dX11_bestPair_31) hw (fun r39 σ40 H locs h hw => ?_)
      exact m_iret hX hlk hr hw h dX11_bestPair_34
  · have h := h.1 hc4
    refine lv_iconst (v := (-1)) hx hb dX11_bestPair_10 (by decide) ?_
    exact m_iret hX hlk hr hw h dX11_bestPair_11
theorem mtX11_bestPair : Mth yX11_bestPair cX11_bestPair 7 (some .int) 3 := ⟨k_760, k_43, by decide +kernel⟩
theorem tX11_bestPair {l : Launch} {D : va_G} {cA : Nat → ClassId} {z0 : Nat} {σ : Me} {a0 : Nat} {x1 : Int32} {x2 : Int32} {x3 : Int32} {Q : Int32 → Me → Prop} (h : pX11_bestPair σ a0 x1 x2 x3 Q) : Met l yX11_bestPair (Cond.code yX11_bestPair cX11_bestPair 7 (some .int) :: gTab) rX11_bestPair (PcM D cA z0 σ [.ref a0, .int x1, .int x2, .int x3]) (va_Qi Q (BM D cA z0) (AM z0)) 0 0 (AM z0) :=
  met_of (by decide) (Nat.le_of_ble_eq_true rfl) (fun hX hlk hr hn hw hl => wX11_bestPair hX hlk hr h hw hl)
