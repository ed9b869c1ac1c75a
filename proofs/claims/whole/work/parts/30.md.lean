abbrev rX12_isRule : Room := { frames := 1, cells := 0, slots := 0, locals := 22 }
def pX12_isRule (σ : Me) (a0 : Nat) (x1 : Int32) (Q : Int32 → Me → Prop) : Prop := gT σ a0 = 12 ∧ pX12_in σ x1 ((0 : Int32)) ((gI σ a0 9) - ((1 : Int32))) (fun r2 σ3 => (r2 = 0 ∨ r2 = 1) ∧ Q r2 σ3)
set_option maxHeartbeats 4000000 in
set_option maxRecDepth 100000 in
theorem wX12_isRule {p : Program} {l : Launch} {e : Env} {s : State} {m : MethodId} {args : Array Value} {below : List Frame} {meth : Method} {c : Code} {D : va_G} {cA : Nat → ClassId} {z0 : Nat} (hX : Cx p m c cX12_isRule 2 s args RX12 D cA) (hlk : meth.locks = false) (hr : meth.sig.returnType = (some .boolean)) {σ : Me} {a0 : Nat} {x1 : Int32} {Q : Int32 → Me → Prop} (h : pX12_isRule σ a0 x1 Q) {H : Heap} {locs : List Loc} {ls : Array Slot} (hw : wS D cA z0 s σ H locs) (hl : lv_has ls 2 [(0, .ref a0), (1, .int x1)]) : W p l e rX12_isRule s m args below meth c H locs 0 0 (MQ below (va_Qi Q (BM D cA z0) (AM z0)) args s 0 0 (AM z0)) (F0 m 0 ls []) := by
  have hx := hX.1.1
  have hb := hX.1.2.1
  have hown := hX.1.2.2.2.1
  have hts := hX.1.2.2.2.2
  unfold pX12_isRule at h
  refine lv_iload_n hx hb dX12_isRule_0 rfl (lv_at hl 1 rfl) ?_
  refine lv_iconst (v := 0) hx hb dX12_isRule_1 (by decide) ?_
  refine lv_aload_n hx hb dX12_isRule_2 rfl (lv_at hl 0 rfl) ?_
  obtain ⟨hT1, h⟩ := h
  refine m_get hX hw cl12 hT1 9 (by decide) k_883 (fun _ h => h) (v := .int _) rfl dX12_isRule_3 ?_
  refine lv_iconst (v := 1) hx hb dX12_isRule_6 (by decide) ?_
  refine lv_isub hx hb dX12_isRule_7 ?_
  refine m_ci (m_runS (rest := []) hX hw (tX12_in h) mtX12_in k_1054 k_1055 ⟨⟨rfl, rfl, Nat.le_of_ble_eq_true rfl, Nat.le_of_ble_eq_true rfl⟩, Nat.le_of_ble_eq_true rfl, Nat.le_of_ble_eq_true rfl⟩ rfl hl.1 rfl (Nat.le_of_ble_eq_true rfl) dX12_isRule_8) hw (fun r2 σ3 H locs h hw => ?_)
  exact m_zret hX hlk hr hw h.1 h.2 dX12_isRule_11
theorem mtX12_isRule : Mth yX12_isRule cX12_isRule 2 (some .boolean) 1 := ⟨k_1132, k_50, by decide +kernel⟩
theorem tX12_isRule {l : Launch} {D : va_G} {cA : Nat → ClassId} {z0 : Nat} {σ : Me} {a0 : Nat} {x1 : Int32} {Q : Int32 → Me → Prop} (h : pX12_isRule σ a0 x1 Q) : Met l yX12_isRule (Cond.code yX12_isRule cX12_isRule 2 (some .boolean) :: gTab) rX12_isRule (PcM D cA z0 σ [.ref a0, .int x1]) (va_Qi Q (BM D cA z0) (AM z0)) 0 0 (AM z0) :=
  met_of (by decide) (Nat.le_of_ble_eq_true rfl) (fun hX hlk hr hn hw hl => wX12_isRule hX hlk hr h hw hl)
abbrev rX12_need : Room := { frames := 2, cells := 0, slots := 0, locals := 43 }
def pX12_need (σ : Me) (a0 : Nat) (x1 : Int32) (x2 : Int32) (Q : Int32 → Me → Prop) : Prop := gT σ a0 = 12 ∧ pX12_isRule σ a0 x2 (fun r1 σ2 => (r1 = 0 → Q ((-1 : Int32)) σ2) ∧ (¬ r1 = 0 → (x1 = 0 → Q ((-1 : Int32)) σ2) ∧ (¬ x1 = 0 → gT σ2 a0 = 12 ∧ ∃ b9 : Nat, gP σ2 a0 16 = some b9 ∧ gT σ2 b9 = 22 ∧ vp_in x2 (gN σ2 b9) ∧ ((gI σ2 b9 x2.toNatClampNeg) = 0 → Q ((0 : Int32)) σ2) ∧ (¬ (gI σ2 b9 x2.toNatClampNeg) = 0 → pX12_meets σ2 a0 ((1 : Int32)) (fun r13 σ14 => Q r13 σ14)))))
set_option maxHeartbeats 4000000 in
set_option maxRecDepth 100000 in
theorem wX12_need {p : Program} {l : Launch} {e : Env} {s : State} {m : MethodId} {args : Array Value} {below : List Frame} {meth : Method} {c : Code} {D : va_G} {cA : Nat → ClassId} {z0 : Nat} (hX : Cx p m c cX12_need 3 s args RX12 D cA) (hlk : meth.locks = false) (hr : meth.sig.returnType = (some .int)) {σ : Me} {a0 : Nat} {x1 : Int32} {x2 : Int32} {Q : Int32 → Me → Prop} (h : pX12_need σ a0 x1 x2 Q) {H : Heap} {locs : List Loc} {ls : Array Slot} (hw : wS D cA z0 s σ H locs) (hl : lv_has ls 3 [(0, .ref a0), (1, .int x1), (2, .int x2)]) : W p l e rX12_need s m args below meth c H locs 0 0 (MQ below (va_Qi Q (BM D cA z0) (AM z0)) args s 0 0 (AM z0)) (F0 m 0 ls []) := by
  have hx := hX.1.1
  have hb := hX.1.2.1
  have hown := hX.1.2.2.2.1
  have hts := hX.1.2.2.2.2
  unfold pX12_need at h
  refine lv_aload_n hx hb dX12_need_0 rfl (lv_at hl 0 rfl) ?_
  refine lv_iload_n hx hb dX12_need_1 rfl (lv_at hl 2 rfl) ?_
  obtain ⟨hT3, h⟩ := h
  refine m_ci (m_runV (rest := []) hX hw (tX12_isRule h) mtX12_isRule k_1129 ⟨k_1131, k_28⟩ cl12 hT3 ⟨⟨rfl, rfl, Nat.le_of_ble_eq_true rfl, Nat.le_of_ble_eq_true rfl⟩, Nat.le_of_ble_eq_true rfl, Nat.le_of_ble_eq_true rfl⟩ rfl hl.1 rfl (Nat.le_of_ble_eq_true rfl) dX12_need_2) hw (fun r1 σ2 H locs h hw => ?_)
  refine lv_if_eq (tgt := 12) hx hb dX12_need_5 (by decide) (fun hc5 => ?_) (fun hc5 => ?_)
  · have h := h.1 hc5
    refine lv_iconst (v := (-1)) hx hb dX12_need_12 (by decide) ?_
    refine lv_goto (tgt := 34) hx hb dX12_need_13 (by decide) ?_
    exact m_iret hX hlk hr hw h dX12_need_34
  · have h := h.2 hc5
    refine lv_iload_n hx hb dX12_need_8 rfl (lv_at hl 1 rfl) ?_
    refine lv_if_ne (tgt := 16) hx hb dX12_need_9 (by decide) (fun hc7 => ?_) (fun hc7 => ?_)
    · have h := h.2 hc7
      refine lv_aload_n hx hb dX12_need_16 rfl (lv_at hl 0 rfl) ?_
      obtain ⟨hT8, h⟩ := h
      obtain ⟨b9, hb9, h⟩ := h
      refine m_get hX hw cl12 hT8 16 (by decide) k_890 (fun _ h => h) (v := .ref b9) (congrArg va_rf hb9) dX12_need_17 ?_
      refine lv_iload_n hx hb dX12_need_20 rfl (lv_at hl 2 rfl) ?_
      obtain ⟨hT10, h⟩ := h
      obtain ⟨hc11, h⟩ := h
      refine m_zald hX hw hT10 hc11 dX12_need_21 ?_
      refine lv_if_eq (tgt := 33) hx hb dX12_need_22 (by decide) (fun hc12 => ?_) (fun hc12 => ?_)
      · have h := h.1 hc12
        refine lv_iconst (v := 0) hx hb dX12_need_33 (by decide) ?_
        exact m_iret hX hlk hr hw h dX12_need_34
      · have h := h.2 hc12
        refine lv_aload_n hx hb dX12_need_25 rfl (lv_at hl 0 rfl) ?_
        refine lv_iconst (v := 1) hx hb dX12_need_26 (by decide) ?_
        refine m_ci (m_runV (rest := []) hX hw (tX12_meets h) mtX12_meets k_1076 ⟨k_1078, k_24⟩ cl12 hT8 ⟨⟨rfl, rfl, Nat.le_of_ble_eq_true rfl, Nat.le_of_ble_eq_true rfl⟩, Nat.le_of_ble_eq_true rfl, Nat.le_of_ble_eq_true rfl⟩ rfl hl.1 rfl (Nat.le_of_ble_eq_true rfl) dX12_need_27) hw (fun r13 σ14 H locs h hw => ?_)
        refine lv_goto (tgt := 34) hx hb dX12_need_30 (by decide) ?_
        exact m_iret hX hlk hr hw h dX12_need_34
    · have h := h.1 hc7
      refine lv_iconst (v := (-1)) hx hb dX12_need_12 (by decide) ?_
      refine lv_goto (tgt := 34) hx hb dX12_need_13 (by decide) ?_
      exact m_iret hX hlk hr hw h dX12_need_34
theorem mtX12_need : Mth yX12_need cX12_need 3 (some .int) 2 := ⟨k_1128, k_50, by decide +kernel⟩
theorem tX12_need {l : Launch} {D : va_G} {cA : Nat → ClassId} {z0 : Nat} {σ : Me} {a0 : Nat} {x1 : Int32} {x2 : Int32} {Q : Int32 → Me → Prop} (h : pX12_need σ a0 x1 x2 Q) : Met l yX12_need (Cond.code yX12_need cX12_need 3 (some .int) :: gTab) rX12_need (PcM D cA z0 σ [.ref a0, .int x1, .int x2]) (va_Qi Q (BM D cA z0) (AM z0)) 0 0 (AM z0) :=
  met_of (by decide) (Nat.le_of_ble_eq_true rfl) (fun hX hlk hr hn hw hl => wX12_need hX hlk hr h hw hl)
abbrev rX12_drop : Room := { frames := 3, cells := 0, slots := 0, locals := 65 }
def pX12_drop (σ : Me) (a0 : Nat) (x1 : Int32) (Q : Int32 → Me → Prop) : Prop := gT σ a0 = 12 ∧ pX12_need σ a0 ((1 : Int32)) x1 (fun r1 σ2 => (0 ≤ r1 → gT σ2 a0 = 12 ∧ ∃ b6 : Nat, gP σ2 a0 16 = some b6 ∧ gT σ2 b6 = 22 ∧ vp_in x1 (gN σ2 b6) ∧ ∀ σ9 : Me, σ9 = sI σ2 b6 x1.toNatClampNeg (vp_nar .boolean ((1 : Int32))) → Q ((1 : Int32)) σ9) ∧ (¬ 0 ≤ r1 → Q r1 σ2))
set_option maxHeartbeats 4000000 in
set_option maxRecDepth 100000 in
theorem wX12_drop {p : Program} {l : Launch} {e : Env} {s : State} {m : MethodId} {args : Array Value} {below : List Frame} {meth : Method} {c : Code} {D : va_G} {cA : Nat → ClassId} {z0 : Nat} (hX : Cx p m c cX12_drop 3 s args RX12 D cA) (hlk : meth.locks = false) (hr : meth.sig.returnType = (some .int)) {σ : Me} {a0 : Nat} {x1 : Int32} {Q : Int32 → Me → Prop} (h : pX12_drop σ a0 x1 Q) {H : Heap} {locs : List Loc} {ls : Array Slot} (hw : wS D cA z0 s σ H locs) (hl : lv_has ls 3 [(0, .ref a0), (1, .int x1)]) : W p l e rX12_drop s m args below meth c H locs 0 0 (MQ below (va_Qi Q (BM D cA z0) (AM z0)) args s 0 0 (AM z0)) (F0 m 0 ls []) := by
  have hx := hX.1.1
  have hb := hX.1.2.1
  have hown := hX.1.2.2.2.1
  have hts := hX.1.2.2.2.2
  unfold pX12_drop at h
  refine lv_aload_n hx hb dX12_drop_0 rfl (lv_at hl 0 rfl) ?_
  refine lv_iconst (v := 1) hx hb dX12_drop_1 (by decide) ?_
  refine lv_iload_n hx hb dX12_drop_2 rfl (lv_at hl 1 rfl) ?_
  obtain ⟨hT3, h⟩ := h
  refine m_ci (m_runV (rest := []) hX hw (tX12_need h) mtX12_need k_1125 ⟨k_1127, k_27⟩ cl12 hT3 ⟨⟨rfl, rfl, Nat.le_of_ble_eq_true rfl, Nat.le_of_ble_eq_true rfl⟩, Nat.le_of_ble_eq_true rfl, Nat.le_of_ble_eq_true rfl⟩ rfl hl.1 rfl (Nat.le_of_ble_eq_true rfl) dX12_drop_3) hw (fun r1 σ2 H locs h hw => ?_)
  refine lv_istore_n (lv' := [(2, _), (0, _), (1, _)]) hx hb dX12_drop_6 rfl hl (by decide) rfl (fun ls hl => ?_)
  refine lv_iload_n hx hb dX12_drop_7 rfl (lv_at hl 0 rfl) ?_
  refine lv_if_ge (tgt := 13) hx hb dX12_drop_8 (by decide) (fun hc4 => ?_) (fun hc4 => ?_)
  · have h := h.1 hc4
    refine lv_aload_n hx hb dX12_drop_13 rfl (lv_at hl 1 rfl) ?_
    obtain ⟨hT5, h⟩ := h
    obtain ⟨b6, hb6, h⟩ := h
    refine m_get hX hw cl12 hT5 16 (by decide) k_890 (fun _ h => h) (v := .ref b6) (congrArg va_rf hb6) dX12_drop_14 ?_
    refine lv_iload_n hx hb dX12_drop_17 rfl (lv_at hl 2 rfl) ?_
    refine lv_iconst (v := 1) hx hb dX12_drop_18 (by decide) ?_
    obtain ⟨hT7, h⟩ := h
    obtain ⟨hc8, h⟩ := h
    refine m_zast hX hw hT7 hc8 dX12_drop_19 (fun H locs hw => ?_)
    let σ9 : Me := sI σ2 b6 x1.toNatClampNeg (vp_nar .boolean ((1 : Int32)))
    have h := h σ9 rfl
    have hw : wS D cA z0 s σ9 H locs := hw
    refine lv_iconst (v := 1) hx hb dX12_drop_20 (by decide) ?_
    exact m_iret hX hlk hr hw h dX12_drop_21
  · have h := h.2 hc4
    refine lv_iload_n hx hb dX12_drop_11 rfl (lv_at hl 0 rfl) ?_
    exact m_iret hX hlk hr hw h dX12_drop_12
theorem mtX12_drop : Mth yX12_drop cX12_drop 3 (some .int) 1 := ⟨k_1124, k_50, by decide +kernel⟩
theorem tX12_drop {l : Launch} {D : va_G} {cA : Nat → ClassId} {z0 : Nat} {σ : Me} {a0 : Nat} {x1 : Int32} {Q : Int32 → Me → Prop} (h : pX12_drop σ a0 x1 Q) : Met l yX12_drop (Cond.code yX12_drop cX12_drop 3 (some .int) :: gTab) rX12_drop (PcM D cA z0 σ [.ref a0, .int x1]) (va_Qi Q (BM D cA z0) (AM z0)) 0 0 (AM z0) :=
  met_of (by decide) (Nat.le_of_ble_eq_true rfl) (fun hX hlk hr hn hw hl => wX12_drop hX hlk hr h hw hl)
abbrev rX12_toldOf : Room := { frames := 0, cells := 0, slots := 0, locals := 0 }
def pX12_toldOf (σ : Me) (a0 : Nat) (x1 : Int32) (x2 : Int32) (Q : Int32 → Me → Prop) : Prop := (x2 = 0 → gT σ a0 = 12 ∧ ∃ b26 : Nat, gP σ a0 10 = some b26 ∧ gT σ b26 = 20 ∧ vp_in x1 (gN σ b26) ∧ Q (gI σ b26 x1.toNatClampNeg) σ) ∧ (¬ x2 = 0 → (x2 = ((1 : Int32)) → gT σ a0 = 12 ∧ ∃ b22 : Nat, gP σ a0 12 = some b22 ∧ gT σ b22 = 20 ∧ vp_in x1 (gN σ b22) ∧ Q (gI σ b22 x1.toNatClampNeg) σ) ∧ (¬ x2 = ((1 : Int32)) → (x2 = ((2 : Int32)) → gT σ a0 = 12 ∧ ∃ b18 : Nat, gP σ a0 11 = some b18 ∧ gT σ b18 = 20 ∧ vp_in x1 (gN σ b18) ∧ Q (gI σ b18 x1.toNatClampNeg) σ) ∧ (¬ x2 = ((2 : Int32)) → (x2 = ((3 : Int32)) → gT σ a0 = 12 ∧ ∃ b14 : Nat, gP σ a0 13 = some b14 ∧ gT σ b14 = 20 ∧ vp_in x1 (gN σ b14) ∧ Q (gI σ b14 x1.toNatClampNeg) σ) ∧ (¬ x2 = ((3 : Int32)) → gT σ a0 = 12 ∧ ∃ b10 : Nat, gP σ a0 14 = some b10 ∧ gT σ b10 = 20 ∧ vp_in x1 (gN σ b10) ∧ Q (gI σ b10 x1.toNatClampNeg) σ))))
set_option maxHeartbeats 4000000 in
set_option maxRecDepth 100000 in
theorem wX12_toldOf {p : Program} {l : Launch} {e : Env} {s : State} {m : MethodId} {args : Array Value} {below : List Frame} {meth : Method} {c : Code} {D : va_G} {cA : Nat → ClassId} {z0 : Nat} (hX : Cx p m c cX12_toldOf 3 s args RX12 D cA) (hlk : meth.locks = false) (hr : meth.sig.returnType = (some .int)) {σ : Me} {a0 : Nat} {x1 : Int32} {x2 : Int32} {Q : Int32 → Me → Prop} (h : pX12_toldOf σ a0 x1 x2 Q) {H : Heap} {locs : List Loc} {ls : Array Slot} (hw : wS D cA z0 s σ H locs) (hl : lv_has ls 3 [(0, .ref a0), (1, .int x1), (2, .int x2)]) : W p l e rX12_toldOf s m args below meth c H locs 0 0 (MQ below (va_Qi Q (BM D cA z0) (AM z0)) args s 0 0 (AM z0)) (F0 m 0 ls []) := by
  have hx := hX.1.1
  have hb := hX.1.2.1
  have hown := hX.1.2.2.2.1
  have hts := hX.1.2.2.2.2
  unfold pX12_toldOf at h
  refine lv_iload_n hx hb dX12_toldOf_0 rfl (lv_at hl 2 rfl) ?_
  refine lv_if_ne (tgt := 13) hx hb dX12_toldOf_1 (by decide) (fun hc2 => ?_) (fun hc2 => ?_)
  · have h := h.2 hc2
    refine lv_iload_n hx hb dX12_toldOf_13 rfl (lv_at hl 2 rfl) ?_
    refine lv_iconst (v := 1) hx hb dX12_toldOf_14 (by decide) ?_
    refine lv_icmp_ne (tgt := 27) hx hb dX12_toldOf_15 (by decide) (fun hc4 => ?_) (fun hc4 => ?_)
    · have h := h.2 hc4
      refine lv_iload_n hx hb dX12_toldOf_27 rfl (lv_at hl 2 rfl) ?_
      refine lv_iconst (v := 2) hx hb dX12_toldOf_28 (by decide) ?_
      refine lv_icmp_ne (tgt := 41) hx hb dX12_toldOf_29 (by decide) (fun hc6 => ?_) (fun hc6 => ?_)
      · have h := h.2 hc6
        refine lv_iload_n hx hb dX12_toldOf_41 rfl (lv_at hl 2 rfl) ?_
        refine lv_iconst (v := 3) hx hb dX12_toldOf_42 (by decide) ?_
        refine lv_icmp_ne (tgt := 55) hx hb dX12_toldOf_43 (by decide) (fun hc8 => ?_) (fun hc8 => ?_)
        · have h := h.2 hc8
          refine lv_aload_n hx hb dX12_toldOf_55 rfl (lv_at hl 0 rfl) ?_
          obtain ⟨hT9, h⟩ := h
          obtain ⟨b10, hb10, h⟩ := h
          refine m_get hX hw cl12 hT9 14 (by decide) k_888 (fun _ h => h) (v := .ref b10) (congrArg va_rf hb10) dX12_toldOf_56 ?_
          refine lv_iload_n hx hb dX12_toldOf_59 rfl (lv_at hl 1 rfl) ?_
          obtain ⟨hT11, h⟩ := h
          obtain ⟨hc12, h⟩ := h
          refine m_iald hX hw hT11 hc12 dX12_toldOf_60 ?_
          exact m_iret hX hlk hr hw h dX12_toldOf_61
        · have h := h.1 hc8
          refine lv_aload_n hx hb dX12_toldOf_46 rfl (lv_at hl 0 rfl) ?_
          obtain ⟨hT13, h⟩ := h
          obtain ⟨b14, hb14, h⟩ := h
          refine m_get hX hw cl12 hT13 13 (by decide) k_887 (fun _ h => h) (v := .ref b14) (congrArg va_rf hb14) dX12_toldOf_47 ?_
          refine lv_iload_n hx hb dX12_toldOf_50 rfl (lv_at hl 1 rfl) ?_
          obtain ⟨hT15, h⟩ := h
          obtain ⟨hc16, h⟩ := h
          refine m_iald hX hw hT15 hc16 dX12_toldOf_51 ?_
          refine lv_goto (tgt := 61) hx hb dX12_toldOf_52 (by decide) ?_
          exact m_iret hX hlk hr hw h dX12_toldOf_61
      · have h := h.1 hc6
        refine lv_aload_n hx hb dX12_toldOf_32 rfl (lv_at hl 0 rfl) ?_
        obtain ⟨hT17, h⟩ := h
        obtain ⟨b18, hb18, h⟩ := h
        refine m_get hX hw cl12 hT17 11 (by decide) k_885 (fun _ h => h) (v := .ref b18) (congrArg va_rf hb18) dX12_toldOf_33 ?_
        refine lv_iload_n hx hb dX12_toldOf_36 rfl (lv_at hl 1 rfl) ?_
        obtain ⟨hT19, h⟩ := h
        obtain ⟨hc20, h⟩ := h
        refine m_iald hX hw hT19 hc20 dX12_toldOf_37 ?_
        refine lv_goto (tgt := 61) hx hb dX12_toldOf_38 (by decide) ?_
        exact m_iret hX hlk hr hw h dX12_toldOf_61
    · have h := h.1 hc4
      refine lv_aload_n hx hb dX12_toldOf_18 rfl (lv_at hl 0 rfl) ?_
      obtain ⟨hT21, h⟩ := h
      obtain ⟨b22, hb22, h⟩ := h
      refine m_get hX hw cl12 hT21 12 (by decide) k_886 (fun _ h => h) (v := .ref b22) (congrArg va_rf hb22) dX12_toldOf_19 ?_
      refine lv_iload_n hx hb dX12_toldOf_22 rfl (lv_at hl 1 rfl) ?_
      obtain ⟨hT23, h⟩ := h
      obtain ⟨hc24, h⟩ := h
      refine m_iald hX hw hT23 hc24 dX12_toldOf_23 ?_
      refine lv_goto (tgt := 61) hx hb dX12_toldOf_24 (by decide) ?_
      exact m_iret hX hlk hr hw h dX12_toldOf_61
  · have h := h.1 hc2
    refine lv_aload_n hx hb dX12_toldOf_4 rfl (lv_at hl 0 rfl) ?_
    obtain ⟨hT25, h⟩ := h
    obtain ⟨b26, hb26, h⟩ := h
    refine m_get hX hw cl12 hT25 10 (by decide) k_884 (fun _ h => h) (v := .ref b26) (congrArg va_rf hb26) dX12_toldOf_5 ?_
    refine lv_iload_n hx hb dX12_toldOf_8 rfl (lv_at hl 1 rfl) ?_
    obtain ⟨hT27, h⟩ := h
    obtain ⟨hc28, h⟩ := h
    refine m_iald hX hw hT27 hc28 dX12_toldOf_9 ?_
    refine lv_goto (tgt := 61) hx hb dX12_toldOf_10 (by decide) ?_
    exact m_iret hX hlk hr hw h dX12_toldOf_61
theorem mtX12_toldOf : Mth yX12_toldOf cX12_toldOf 3 (some .int) 2 := ⟨k_1140, k_50, by decide +kernel⟩
theorem tX12_toldOf {l : Launch} {D : va_G} {cA : Nat → ClassId} {z0 : Nat} {σ : Me} {a0 : Nat} {x1 : Int32} {x2 : Int32} {Q : Int32 → Me → Prop} (h : pX12_toldOf σ a0 x1 x2 Q) : Met l yX12_toldOf (Cond.code yX12_toldOf cX12_toldOf 3 (some .int) :: gTab) rX12_toldOf (PcM D cA z0 σ [.ref a0, .int x1, .int x2]) (va_Qi Q (BM D cA z0) (AM z0)) 0 0 (AM z0) :=
  met_of (by decide) (Nat.le_of_ble_eq_true rfl) (fun hX hlk hr hn hw hl => wX12_toldOf hX hlk hr h hw hl)
abbrev rX12_told : Room := { frames := 3, cells := 0, slots := 0, locals := 65 }
def pX12_told (σ : Me) (a0 : Nat) (x1 : Int32) (x2 : Int32) (Q : Int32 → Me → Prop) : Prop := pX12_in σ x2 ((0 : Int32)) ((4 : Int32)) (fun r1 σ2 => gT σ2 a0 = 12 ∧ pX12_need σ2 a0 r1 x1 (fun r3 σ4 => (0 ≤ r3 → gT σ4 a0 = 12 ∧ pX12_toldOf σ4 a0 x1 x2 (fun r7 σ8 => Q r7 σ8)) ∧ (¬ 0 ≤ r3 → Q r3 σ4)))
set_option maxHeartbeats 4000000 in
set_option maxRecDepth 100000 in
theorem wX12_told {p : Program} {l : Launch} {e : Env} {s : State} {m : MethodId} {args : Array Value} {below : List Frame} {meth : Method} {c : Code} {D : va_G} {cA : Nat → ClassId} {z0 : Nat} (hX : Cx p m c cX12_told 4 s args RX12 D cA) (hlk : meth.locks = false) (hr : meth.sig.returnType = (some .int)) {σ : Me} {a0 : Nat} {x1 : Int32} {x2 : Int32} {Q : Int32 → Me → Prop} (h : pX12_told σ a0 x1 x2 Q) {H : Heap} {locs : List Loc} {ls : Array Slot} (hw : wS D cA z0 s σ H locs) (hl : lv_has ls 4 [(0, .ref a0), (1, .int x1), (2, .int x2)]) : W p l e rX12_told s m args below meth c H locs 0 0 (MQ below (va_Qi Q (BM D cA z0) (AM z0)) args s 0 0 (AM z0)) (F0 m 0 ls []) := by
  have hx := hX.1.1
  have hb := hX.1.2.1
  have hown := hX.1.2.2.2.1
  have hts := hX.1.2.2.2.2
  unfold pX12_told at h
  refine lv_aload_n hx hb dX12_told_0 rfl (lv_at hl 0 rfl) ?_
  refine lv_iload_n hx hb dX12_told_1 rfl (lv_at hl 2 rfl) ?_
  refine lv_iconst (v := 0) hx hb dX12_told_2 (by decide) ?_
  refine lv_iconst (v := 4) hx hb dX12_told_3 (by decide) ?_
  refine m_ci (m_runS (rest := [_]) hX hw (tX12_in h) mtX12_in k_1054 k_1055 ⟨⟨rfl, rfl, Nat.le_of_ble_eq_true rfl, Nat.le_of_ble_eq_true rfl⟩, Nat.le_of_ble_eq_true rfl, Nat.le_of_ble_eq_true rfl⟩ rfl hl.1 rfl (Nat.le_of_ble_eq_true rfl) dX12_told_4) hw (fun r1 σ2 H locs h hw => ?_)
  refine lv_iload_n hx hb dX12_told_7 rfl (lv_at hl 1 rfl) ?_
  obtain ⟨hT5, h⟩ := h
  refine m_ci (m_runV (rest := []) hX hw (tX12_need h) mtX12_need k_1125 ⟨k_1127, k_27⟩ cl12 hT5 ⟨⟨rfl, rfl, Nat.le_of_ble_eq_true rfl, Nat.le_of_ble_eq_true rfl⟩, Nat.le_of_ble_eq_true rfl, Nat.le_of_ble_eq_true rfl⟩ rfl hl.1 rfl (Nat.le_of_ble_eq_true rfl) dX12_told_8) hw (fun r3 σ4 H locs h hw => ?_)
  refine lv_istore_n (lv' := [(3, _), (0, _), (1, _), (2, _)]) hx hb dX12_told_11 rfl hl (by decide) rfl (fun ls hl => ?_)
  refine lv_iload_n hx hb dX12_told_12 rfl (lv_at hl 0 rfl) ?_
  refine lv_if_ge (tgt := 20) hx hb dX12_told_13 (by decide) (fun hc6 => ?_) (fun hc6 => ?_)
  · have h := h.1 hc6
    refine lv_aload_n hx hb dX12_told_20 rfl (lv_at hl 1 rfl) ?_
    refine lv_iload_n hx hb dX12_told_21 rfl (lv_at hl 2 rfl) ?_
    refine lv_iload_n hx hb dX12_told_22 rfl (lv_at hl 3 rfl) ?_
    obtain ⟨hT9, h⟩ := h
    refine m_ci (m_runV (rest := []) hX hw (tX12_toldOf h) mtX12_toldOf k_1137 ⟨k_1139, k_29⟩ cl12 hT9 ⟨⟨rfl, rfl, Nat.le_of_ble_eq_true rfl, Nat.le_of_ble_eq_true rfl⟩, Nat.le_of_ble_eq_true rfl, Nat.le_of_ble_eq_true rfl⟩ rfl hl.1 rfl (Nat.le_of_ble_eq_true rfl) dX12_told_23) hw (fun r7 σ8 H locs h hw => ?_)
    exact m_iret hX hlk hr hw h dX12_told_26
  · have h := h.2 hc6
    refine lv_iload_n hx hb dX12_told_16 rfl (lv_at hl 0 rfl) ?_
    refine lv_goto (tgt := 26) hx hb dX12_told_17 (by decide) ?_
    exact m_iret hX hlk hr hw h dX12_told_26
theorem mtX12_told : Mth yX12_told cX12_told 4 (some .int) 2 := ⟨k_1136, k_50, by decide +kernel⟩
theorem tX12_told {l : Launch} {D : va_G} {cA : Nat → ClassId} {z0 : Nat} {σ : Me} {a0 : Nat} {x1 : Int32} {x2 : Int32} {Q : Int32 → Me → Prop} (h : pX12_told σ a0 x1 x2 Q) : Met l yX12_told (Cond.code yX12_told cX12_told 4 (some .int) :: gTab) rX12_told (PcM D cA z0 σ [.ref a0, .int x1, .int x2]) (va_Qi Q (BM D cA z0) (AM z0)) 0 0 (AM z0) :=
  met_of (by decide) (Nat.le_of_ble_eq_true rfl) (fun hX hlk hr hn hw hl => wX12_told hX hlk hr h hw hl)
abbrev rX12_mark : Room := { frames := 3, cells := 0, slots := 0, locals := 65 }
def pX12_mark (σ : Me) (a0 : Nat) (x1 : Int32) (x2 : Int32) (Q : Int32 → Me → Prop) : Prop := pX12_in σ x2 ((0 : Int32)) ((3 : Int32)) (fun r1 σ2 => gT σ2 a0 = 12 ∧ pX12_need σ2 a0 r1 x1 (fun r3 σ4 => (0 ≤ r3 → (x2 = 0 → Q x1 σ4) ∧ (¬ x2 = 0 → gT σ4 a0 = 12 ∧ ∃ b9 : Nat, gP σ4 a0 10 = some b9 ∧ gT σ4 b9 = 20 ∧ vp_in x1 (gN σ4 b9) ∧ ((gI σ4 b9 x1.toNatClampNeg) = x2 → (x2 = ((1 : Int32)) → ∃ b24 : Nat, gP σ4 a0 12 = some b24 ∧ gT σ4 b24 = 20 ∧ vp_in x1 (gN σ4 b24) ∧ Q (gI σ4 b24 x1.toNatClampNeg) σ4) ∧ (¬ x2 = ((1 : Int32)) → (x2 = ((2 : Int32)) → ∃ b18 : Nat, gP σ4 a0 12 = some b18 ∧ gT σ4 b18 = 20 ∧ vp_in x1 (gN σ4 b18) ∧ ∃ b21 : Nat, gP σ4 a0 11 = some b21 ∧ gT σ4 b21 = 20 ∧ vp_in x1 (gN σ4 b21) ∧ Q ((gI σ4 b18 x1.toNatClampNeg) - (gI σ4 b21 x1.toNatClampNeg)) σ4) ∧ (¬ x2 = ((2 : Int32)) → ∃ b15 : Nat, gP σ4 a0 13 = some b15 ∧ gT σ4 b15 = 20 ∧ vp_in x1 (gN σ4 b15) ∧ Q (gI σ4 b15 x1.toNatClampNeg) σ4))) ∧ (¬ (gI σ4 b9 x1.toNatClampNeg) = x2 → (x2 = ((1 : Int32)) → vp_in x1 (gN σ4 b9) ∧ ((gI σ4 b9 x1.toNatClampNeg) = ((2 : Int32)) → (x2 = ((1 : Int32)) → ∃ b43 : Nat, gP σ4 a0 12 = some b43 ∧ gT σ4 b43 = 20 ∧ vp_in x1 (gN σ4 b43) ∧ Q (gI σ4 b43 x1.toNatClampNeg) σ4) ∧ (¬ x2 = ((1 : Int32)) → (x2 = ((2 : Int32)) → ∃ b37 : Nat, gP σ4 a0 12 = some b37 ∧ gT σ4 b37 = 20 ∧ vp_in x1 (gN σ4 b37) ∧ ∃ b40 : Nat, gP σ4 a0 11 = some b40 ∧ gT σ4 b40 = 20 ∧ vp_in x1 (gN σ4 b40) ∧ Q ((gI σ4 b37 x1.toNatClampNeg) - (gI σ4 b40 x1.toNatClampNeg)) σ4) ∧ (¬ x2 = ((2 : Int32)) → ∃ b34 : Nat, gP σ4 a0 13 = some b34 ∧ gT σ4 b34 = 20 ∧ vp_in x1 (gN σ4 b34) ∧ Q (gI σ4 b34 x1.toNatClampNeg) σ4))) ∧ (¬ (gI σ4 b9 x1.toNatClampNeg) = ((2 : Int32)) → pX12_meets σ4 a0 ((3 : Int32)) (fun r46 σ47 => Q r46 σ47))) ∧ (¬ x2 = ((1 : Int32)) → pX12_meets σ4 a0 ((3 : Int32)) (fun r28 σ29 => Q r28 σ29))))) ∧ (¬ 0 ≤ r3 → Q r3 σ4)))
set_option maxHeartbeats 4000000 in
set_option maxRecDepth 100000 in
theorem wX12_mark {p : Program} {l : Launch} {e : Env} {s : State} {m : MethodId} {args : Array Value} {below : List Frame} {meth : Method} {c : Code} {D : va_G} {cA : Nat → ClassId} {z0 : Nat} (hX : Cx p m c cX12_mark 4 s args RX12 D cA) (hlk : meth.locks = false) (hr : meth.sig.returnType = (some .int)) {σ : Me} {a0 : Nat} {x1 : Int32} {x2 : Int32} {Q : Int32 → Me → Prop} (h : pX12_mark σ a0 x1 x2 Q) {H : Heap} {locs : List Loc} {ls : Array Slot} (hw : wS D cA z0 s σ H locs) (hl : lv_has ls 4 [(0, .ref a0), (1, .int x1), (2, .int x2)]) : W p l e rX12_mark s m args below meth c H locs 0 0 (MQ below (va_Qi Q (BM D cA z0) (AM z0)) args s 0 0 (AM z0)) (F0 m 0 ls []) := by
  have hx := hX.1.1
  have hb := hX.1.2.1
  have hown := hX.1.2.2.2.1
  have hts := hX.1.2.2.2.2
  unfold pX12_mark at h
  refine lv_aload_n hx hb dX12_mark_0 rfl (lv_at hl 0 rfl) ?_
  refine lv_iload_n hx hb dX12_mark_1 rfl (lv_at hl 2 rfl) ?_
  refine lv_iconst (v := 0) hx hb dX12_mark_2 (by decide) ?_
  refine lv_iconst (v := 3) hx hb dX12_mark_3 (by decide) ?_
  refine m_ci (m_runS (rest := [_]) hX hw (tX12_in h) mtX12_in k_1054 k_1055 ⟨⟨rfl, rfl, Nat.le_of_ble_eq_true rfl, Nat.le_of_ble_eq_true rfl⟩, Nat.le_of_ble_eq_true rfl, Nat.le_of_ble_eq_true rfl⟩ rfl hl.1 rfl (Nat.le_of_ble_eq_true rfl) dX12_mark_4) hw (fun r1 σ2 H locs h hw => ?_)
  refine lv_iload_n hx hb dX12_mark_7 rfl (lv_at hl 1 rfl) ?_
  obtain ⟨hT5, h⟩ := h
  refine m_ci (m_runV (rest := []) hX hw (tX12_need h) mtX12_need k_1125 ⟨k_1127, k_27⟩ cl12 hT5 ⟨⟨rfl, rfl, Nat.le_of_ble_eq_true rfl, Nat.le_of_ble_eq_true rfl⟩, Nat.le_of_ble_eq_true rfl, Nat.le_of_ble_eq_true rfl⟩ rfl hl.1 rfl (Nat.le_of_ble_eq_true rfl) dX12_mark_8) hw (fun r3 σ4 H locs h hw => ?_)
  refine lv_istore_n (lv' := [(3, _), (0, _), (1, _), (2, _)]) hx hb dX12_mark_11 rfl hl (by decide) rfl (fun ls hl => ?_)
  refine lv_iload_n hx hb dX12_mark_12 rfl (lv_at hl 0 rfl) ?_
  refine lv_if_ge (tgt := 18) hx hb dX12_mark_13 (by decide) (fun hc6 => ?_) (fun hc6 => ?_)
  · have h := h.1 hc6
    refine lv_iload_n hx hb dX12_mark_18 rfl (lv_at hl 3 rfl) ?_
    refine lv_if_ne (tgt := 24) hx hb dX12_mark_19 (by decide) (fun hc7 => ?_) (fun hc7 => ?_)
    · have h := h.2 hc7
      refine lv_aload_n hx hb dX12_mark_24 rfl (lv_at hl 1 rfl) ?_
      obtain ⟨hT8, h⟩ := h
      obtain ⟨b9, hb9, h⟩ := h
      refine m_get hX hw cl12 hT8 10 (by decide) k_884 (fun _ h => h) (v := .ref b9) (congrArg va_rf hb9) dX12_mark_25 ?_
      refine lv_iload_n hx hb dX12_mark_28 rfl (lv_at hl 2 rfl) ?_
      obtain ⟨hT10, h⟩ := h
      obtain ⟨hc11, h⟩ := h
      refine m_iald hX hw hT10 hc11 dX12_mark_29 ?_
      refine lv_iload_n hx hb dX12_mark_30 rfl (lv_at hl 3 rfl) ?_
      refine lv_icmp_eq (tgt := 55) hx hb dX12_mark_31 (by decide) (fun hc12 => ?_) (fun hc12 => ?_)
      · have h := h.1 hc12
        refine lv_iload_n hx hb dX12_mark_55 rfl (lv_at hl 3 rfl) ?_
        refine lv_iconst (v := 1) hx hb dX12_mark_56 (by decide) ?_
        refine lv_icmp_ne (tgt := 69) hx hb dX12_mark_57 (by decide) (fun hc13 => ?_) (fun hc13 => ?_)
        · have h := h.2 hc13
          refine lv_iload_n hx hb dX12_mark_69 rfl (lv_at hl 3 rfl) ?_
          refine lv_iconst (v := 2) hx hb dX12_mark_70 (by decide) ?_
          refine lv_icmp_ne (tgt := 90) hx hb dX12_mark_71 (by decide) (fun hc14 => ?_) (fun hc14 => ?_)
          · have h := h.2 hc14
            refine lv_aload_n hx hb dX12_mark_90 rfl (lv_at hl 1 rfl) ?_
            obtain ⟨b15, hb15, h⟩ := h
            refine m_get hX hw cl12 hT8 13 (by decide) k_887 (fun _ h => h) (v := .ref b15) (congrArg va_rf hb15) dX12_mark_91 ?_
            refine lv_iload_n hx hb dX12_mark_94 rfl (lv_at hl 2 rfl) ?_
            obtain ⟨hT16, h⟩ := h
            obtain ⟨hc17, h⟩ := h
            refine m_iald hX hw hT16 hc17 dX12_mark_95 ?_
            exact m_iret hX hlk hr hw h dX12_mark_96
          · have h := h.1 hc14
            refine lv_aload_n hx hb dX12_mark_74 rfl (lv_at hl 1 rfl) ?_
            obtain ⟨b18, hb18, h⟩ := h
            refine m_get hX hw cl12 hT8 12 (by decide) k_886 (fun _ h => h) (v := .ref b18) (congrArg va_rf hb18) dX12_mark_75 ?_
            refine lv_iload_n hx hb dX12_mark_78 rfl (lv_at hl 2 rfl) ?_
            obtain ⟨hT19, h⟩ := h
            obtain ⟨hc20, h⟩ := h
            refine m_iald hX hw hT19 hc20 dX12_mark_79 ?_
            refine lv_aload_n hx hb dX12_mark_80 rfl (lv_at hl 1 rfl) ?_
            obtain ⟨b21, hb21, h⟩ := h
            refine m_get hX hw cl12 hT8 11 (by decide) k_885 (fun _ h => h) (v := .ref b21) (congrArg va_rf hb21) dX12_mark_81 ?_
            refine lv_iload_n hx hb dX12_mark_84 rfl (lv_at hl 2 rfl) ?_
            obtain ⟨hT22, h⟩ := h
            obtain ⟨hc23, h⟩ := h
            refine m_iald hX hw hT22 hc23 dX12_mark_85 ?_
            refine lv_isub hx hb dX12_mark_86 ?_
            refine lv_goto (tgt := 96) hx hb dX12_mark_87 (by decide) ?_
            exact m_iret hX hlk hr hw h dX12_mark_96
        · have h := h.1 hc13
          refine lv_aload_n hx hb dX12_mark_60 rfl (lv_at hl 1 rfl) ?_
          obtain ⟨b24, hb24, h⟩ := h
          refine m_get hX hw cl12 hT8 12 (by decide) k_886 (fun _ h => h) (v := .ref b24) (congrArg va_rf hb24) dX12_mark_61 ?_
          refine lv_iload_n hx hb dX12_mark_64 rfl (lv_at hl 2 rfl) ?_
          obtain ⟨hT25, h⟩ := h
          obtain ⟨hc26, h⟩ := h
          refine m_iald hX hw hT25 hc26 dX12_mark_65 ?_
          refine lv_goto (tgt := 96) hx hb dX12_mark_66 (by decide) ?_
          exact m_iret hX hlk hr hw h dX12_mark_96
      · have h := h.2 hc12
        refine lv_iload_n hx hb dX12_mark_34 rfl (lv_at hl 3 rfl) ?_
        refine lv_iconst (v := 1) hx hb dX12_mark_35 (by decide) ?_
        refine lv_icmp_ne (tgt := 49) hx hb dX12_mark_36 (by decide) (fun hc27 => ?_) (fun hc27 => ?_)
        · have h := h.2 hc27
          refine lv_aload_n hx hb dX12_mark_49 rfl (lv_at hl 1 rfl) ?_
          refine lv_iconst (v := 3) hx hb dX12_mark_50 (by decide) ?_
          refine m_ci (m_runV (rest := []) hX hw (tX12_meets h) mtX12_meets k_1076 ⟨k_1078, k_24⟩ cl12 hT8 ⟨⟨rfl, rfl, Nat.le_of_ble_eq_true rfl, Nat.le_of_ble_eq_true rfl⟩, Nat.le_of_ble_eq_true rfl, Nat.le_of_ble_eq_true rfl⟩ rfl hl.1 rfl (Nat.le_of_ble_eq_true rfl) dX12_mark_51) hw (fun r28 σ29 H locs h hw => ?_)
          exact m_iret hX hlk hr hw h dX12_mark_54
        · have h := h.1 hc27
          refine lv_aload_n hx hb dX12_mark_39 rfl (lv_at hl 1 rfl) ?_
          refine m_get hX hw cl12 hT8 10 (by decide) k_884 (fun _ h => h) (v := .ref b9) (congrArg va_rf hb9) dX12_mark_40 ?_
          refine lv_iload_n hx hb dX12_mark_43 rfl (lv_at hl 2 rfl) ?_
          obtain ⟨hc30, h⟩ := h
          refine m_iald hX hw hT10 hc30 dX12_mark_44 ?_
          refine lv_iconst (v := 2) hx hb dX12_mark_45 (by decide) ?_
          refine lv_icmp_eq (tgt := 55) hx hb dX12_mark_46 (by decide) (fun hc31 => ?_) (fun hc31 => ?_)
          · have h := h.1 hc31
            refine lv_iload_n hx hb dX12_mark_55 rfl (lv_at hl 3 rfl) ?_
            refine lv_iconst (v := 1) hx hb dX12_mark_56 (by decide) ?_
            refine lv_icmp_ne (tgt := 69) hx hb dX12_mark_57 (by decide) (fun hc32 => ?_) (fun hc32 => ?_)
            · have h := h.2 hc32
              refine lv_iload_n hx hb dX12_mark_69 rfl (lv_at hl 3 rfl) ?_
              refine lv_iconst (v := 2) hx hb dX12_mark_70 (by decide) ?_
              refine lv_icmp_ne (tgt := 90) hx hb dX12_mark_71 (by decide) (fun hc33 => ?_) (fun hc33 => ?_)
              · have h := h.2 hc33
                refine lv_aload_n hx hb dX12_mark_90 rfl (lv_at hl 1 rfl) ?_
                obtain ⟨b34, hb34, h⟩ := h
                refine m_get hX hw cl12 hT8 13 (by decide) k_887 (fun _ h => h) (v := .ref b34) (congrArg va_rf hb34) dX12_mark_91 ?_
                refine lv_iload_n hx hb dX12_mark_94 rfl (lv_at hl 2 rfl) ?_
                obtain ⟨hT35, h⟩ := h
                obtain ⟨hc36, h⟩ := h
                refine m_iald hX hw hT35 hc36 dX12_mark_95 ?_
                exact m_iret hX hlk hr hw h dX12_mark_96
              · have h := h.1 hc33
                refine lv_aload_n hx hb dX12_mark_74 rfl (lv_at hl 1 rfl) ?_
                obtain ⟨b37, hb37, h⟩ := h
                refine m_get hX hw cl12 hT8 12 (by decide) k_886 (fun _ h => h) (v := .ref b37) (congrArg va_rf hb37) dX12_mark_75 ?_
                refine lv_iload_n hx hb dX12_mark_78 rfl (lv_at hl 2 rfl) ?_
                obtain ⟨hT38, h⟩ := h
                obtain ⟨hc39, h⟩ := h
                refine m_iald hX hw hT38 hc39 dX12_mark_79 ?_
                refine lv_aload_n hx hb dX12_mark_80 rfl (lv_at hl 1 rfl) ?_
                obtain ⟨b40, hb40, h⟩ := h
                refine m_get hX hw cl12 hT8 11 (by decide) k_885 (fun _ h => h) (v := .ref b40) (congrArg va_rf hb40) dX12_mark_81 ?_
                refine lv_iload_n hx hb dX12_mark_84 rfl (lv_at hl 2 rfl) ?_
                obtain ⟨hT41, h⟩ := h
                obtain ⟨hc42, h⟩ := h
                refine m_iald hX hw hT41 hc42 dX12_mark_85 ?_
                refine lv_isub hx hb dX12_mark_86 ?_
                refine lv_goto (tgt := 96) hx hb dX12_mark_87 (by decide) ?_
                exact m_iret hX hlk hr hw h dX12_mark_96
            · have h := h.1 hc32
              refine lv_aload_n hx hb dX12_mark_60 rfl (lv_at hl 1 rfl) ?_
              obtain ⟨b43, hb43, h⟩ := h
              refine m_get hX hw cl12 hT8 12 (by decide) k_886 (fun _ h => h) (v := .ref b43) (congrArg va_rf hb43) dX12_mark_61 ?_
              refine lv_iload_n hx hb dX12_mark_64 rfl (lv_at hl 2 rfl) ?_
              obtain ⟨hT44, h⟩ := h
              obtain ⟨hc45, h⟩ := h
              refine m_iald hX hw hT44 hc45 dX12_mark_65 ?_
              refine lv_goto (tgt := 96) hx hb dX12_mark_66 (by decide) ?_
              exact m_iret hX hlk hr hw h dX12_mark_96
          · have h := h.2 hc31
            refine lv_aload_n hx hb dX12_mark_49 rfl (lv_at hl 1 rfl) ?_
            refine lv_iconst (v := 3) hx hb dX12_mark_50 (by decide) ?_
            refine m_ci (m_runV (rest := []) hX hw (tX12_meets h) mtX12_meets k_1076 ⟨k_1078, k_24⟩ cl12 hT8 ⟨⟨rfl, rfl, Nat.le_of_ble_eq_true rfl, Nat.le_of_ble_eq_true rfl⟩, Nat.le_of_ble_eq_true rfl, Nat.le_of_ble_eq_true rfl⟩ rfl hl.1 rfl (Nat.le_of_ble_eq_true rfl) dX12_mark_51) hw (fun r46 σ47 H locs h hw => ?_)
            exact m_iret hX hlk hr hw h dX12_mark_54
    · have h := h.1 hc7
      refine lv_iload_n hx hb dX12_mark_22 rfl (lv_at hl 2 rfl) ?_
      exact m_iret hX hlk hr hw h dX12_mark_23
  · have h := h.2 hc6
    refine lv_iload_n hx hb dX12_mark_16 rfl (lv_at hl 0 rfl) ?_
    exact m_iret hX hlk hr hw h dX12_mark_17
theorem mtX12_mark : Mth yX12_mark cX12_mark 4 (some .int) 2 := ⟨k_1144, k_50, by decide +kernel⟩
theorem tX12_mark {l : Launch} {D : va_G} {cA : Nat → ClassId} {z0 : Nat} {σ : Me} {a0 : Nat} {x1 : Int32} {x2 : Int32} {Q : Int32 → Me → Prop} (h : pX12_mark σ a0 x1 x2 Q) : Met l yX12_mark (Cond.code yX12_mark cX12_mark 4 (some .int) :: gTab) rX12_mark (PcM D cA z0 σ [.ref a0, .int x1, .int x2]) (va_Qi Q (BM D cA z0) (AM z0)) 0 0 (AM z0) :=
  met_of (by decide) (Nat.le_of_ble_eq_true rfl) (fun hX hlk hr hn hw hl => wX12_mark hX hlk hr h hw hl)
abbrev rX12_orders : Room := { frames := 1, cells := 0, slots := 0, locals := 22 }
def pX12_orders (σ : Me) (a0 : Nat) (x1 : Int32) (x2 : Int32) (Q : Int32 → Me → Prop) : Prop := gT σ a0 = 12 ∧ ∃ b2 : Nat, gP σ a0 10 = some b2 ∧ gT σ b2 = 20 ∧ vp_in x1 (gN σ b2) ∧ ((gI σ b2 x1.toNatClampNeg) = 1 → ∃ b6 : Nat, gP σ a0 12 = some b6 ∧ gT σ b6 = 20 ∧ vp_in x1 (gN σ b6) ∧ ∀ x3_9 : Int32, x3_9 = ((gI σ b6 x1.toNatClampNeg) - x2) → ∀ v_10 : Int32, v_10 = (if 0 ≤ x3_9 then (if x3_9 ≤ ((12 : Int32)) then x3_9 else ((12 : Int32))) else ((0 : Int32))) → Q v_10 σ) ∧ ((gI σ b2 x1.toNatClampNeg) = 2 → ∃ b14 : Nat, gP σ a0 11 = some b14 ∧ gT σ b14 = 20 ∧ vp_in x1 (gN σ b14) ∧ ∃ J66 : Me → Int32 → Prop, (∀ (σ21 : Me) (v_22 : Int32), J66 σ21 v_22 → ∀ v_23 : Int32, v_23 = (if 0 ≤ v_22 then (if v_22 ≤ ((12 : Int32)) then v_22 else ((12 : Int32))) else ((0 : Int32))) → Q v_23 σ21) ∧ (((gI σ b14 x1.toNatClampNeg) < x2 → J66 σ ((0 : Int32))) ∧ (¬ (gI σ b14 x1.toNatClampNeg) < x2 → ∃ b18 : Nat, gP σ a0 12 = some b18 ∧ gT σ b18 = 20 ∧ vp_in x1 (gN σ b18) ∧ J66 σ ((gI σ b18 x1.toNatClampNeg) - x2)))) ∧ ((gI σ b2 x1.toNatClampNeg) = 3 → ∃ b27 : Nat, gP σ a0 11 = some b27 ∧ gT σ b27 = 20 ∧ vp_in x1 (gN σ b27) ∧ ∃ J90 : Me → Int32 → Prop, (∀ (σ34 : Me) (v_35 : Int32), J90 σ34 v_35 → ∀ v_36 : Int32, v_36 = (if 0 ≤ v_35 then (if v_35 ≤ ((12 : Int32)) then v_35 else ((12 : Int32))) else ((0 : Int32))) → Q v_36 σ34) ∧ (((gI σ b27 x1.toNatClampNeg) < x2 → J90 σ ((0 : Int32))) ∧ (¬ (gI σ b27 x1.toNatClampNeg) < x2 → ∃ b31 : Nat, gP σ a0 13 = some b31 ∧ gT σ b31 = 20 ∧ vp_in x1 (gN σ b31) ∧ J90 σ (gI σ b31 x1.toNatClampNeg)))) ∧ (¬ (gI σ b2 x1.toNatClampNeg) = 1 → ¬ (gI σ b2 x1.toNatClampNeg) = 2 → ¬ (gI σ b2 x1.toNatClampNeg) = 3 → ∃ b40 : Nat, gP σ a0 14 = some b40 ∧ gT σ b40 = 20 ∧ vp_in x1 (gN σ b40) ∧ pX12_in σ (x2 + ((12 : Int32))) ((0 : Int32)) ((gI σ b40 x1.toNatClampNeg) - ((1 : Int32))) (fun r43 σ44 => ∃ J131 : Me → Int32 → Prop, (∀ (σ51 : Me) (v_52 : Int32), J131 σ51 v_52 → ∀ v_53 : Int32, v_53 = (if 0 ≤ v_52 then (if v_52 ≤ ((12 : Int32)) then v_52 else ((12 : Int32))) else ((0 : Int32))) → Q v_53 σ51) ∧ ((r43 = 0 → J131 σ44 ((0 : Int32))) ∧ (¬ r43 = 0 → gT σ44 a0 = 12 ∧ ∃ b48 : Nat, gP σ44 a0 15 = some b48 ∧ gT σ44 b48 = 23 ∧ vp_in (((((25 : Int32)) * x1) + x2) + ((12 : Int32))) (gN σ44 b48) ∧ J131 σ44 (gI σ44 b48 (((((25 : Int32)) * x1) + x2) + ((12 : Int32))).toNatClampNeg)))))
set_option maxHeartbeats 4000000 in
set_option maxRecDepth 100000 in
theorem wX12_orders {p : Program} {l : Launch} {e : Env} {s : State} {m : MethodId} {args : Array Value} {below : List Frame} {meth : Method} {c : Code} {D : va_G} {cA : Nat → ClassId} {z0 : Nat} (hX : Cx p m c cX12_orders 4 s args RX12 D cA) (hlk : meth.locks = false) (hr : meth.sig.returnType = (some .int)) {σ : Me} {a0 : Nat} {x1 : Int32} {x2 : Int32} {Q : Int32 → Me → Prop} (h : pX12_orders σ a0 x1 x2 Q) {H : Heap} {locs : List Loc} {ls : Array Slot} (hw : wS D cA z0 s σ H locs) (hl : lv_has ls 4 [(0, .ref a0), (1, .int x1), (2, .int x2)]) : W p l e rX12_orders s m args below meth c H locs 0 0 (MQ below (va_Qi Q (BM D cA z0) (AM z0)) args s 0 0 (AM z0)) (F0 m 0 ls []) := by
  have hx := hX.1.1
  have hb := hX.1.2.1
  have hown := hX.1.2.2.2.1
  have hts := hX.1.2.2.2.2
  unfold pX12_orders at h
  refine lv_aload_n hx hb dX12_orders_0 rfl (lv_at hl 0 rfl) ?_
  obtain ⟨hT1, h⟩ := h
  obtain ⟨b2, hb2, h⟩ := h
  refine m_get hX hw cl12 hT1 10 (by decide) k_884 (fun _ h => h) (v := .ref b2) (congrArg va_rf hb2) dX12_orders_1 ?_
  refine lv_iload_n hx hb dX12_orders_4 rfl (lv_at hl 1 rfl) ?_
  obtain ⟨hT3, h⟩ := h
  obtain ⟨hc4, h⟩ := h
  refine m_iald hX hw hT3 hc4 dX12_orders_5 ?_
  by_cases hs5_1 : (gI σ b2 x1.toNatClampNeg) = 1
  · refine lv_tableIn (off := 26) (tgt := 32) hx hb dX12_orders_6 (by rw [hs5_1]; decide) (by rw [hs5_1]; decide) (by rw [hs5_1]; rfl) (by decide) ?_
    have h := h.1 hs5_1
    refine lv_aload_n hx hb dX12_orders_32 rfl (lv_at hl 0 rfl) ?_
    obtain ⟨b6, hb6, h⟩ := h
    refine m_get hX hw cl12 hT1 12 (by decide) k_886 (fun _ h => h) (v := .ref b6) (congrArg va_rf hb6) dX12_orders_33 ?_
    refine lv_iload_n hx hb dX12_orders_36 rfl (lv_at hl 1 rfl) ?_
    obtain ⟨hT7, h⟩ := h
    obtain ⟨hc8, h⟩ := h
    refine m_iald hX hw hT7 hc8 dX12_orders_37 ?_
    refine lv_iload_n hx hb dX12_orders_38 rfl (lv_at hl 2 rfl) ?_
    refine lv_isub hx hb dX12_orders_39 ?_
    refine lv_topi (fun x3_9 e_x3_9 => ?_)
    have h := h x3_9 e_x3_9
    refine lv_istore_n (lv' := [(3, _), (0, _), (1, _), (2, _)]) hx hb dX12_orders_40 rfl hl (by decide) rfl (fun ls hl => ?_)
    refine lv_goto (tgt := 132) hx hb dX12_orders_41 (by decide) ?_
    refine lv_iload_n hx hb dX12_orders_132 rfl (lv_at hl 0 rfl) ?_
    have kM11 : ∀ (v_10 : Int32) (ls : Array Slot), v_10 = (if 0 ≤ x3_9 then (if x3_9 ≤ ((12 : Int32)) then x3_9 else ((12 : Int32))) else ((0 : Int32))) → lv_has ls 4 [] → W p l e rX12_orders s m args below meth c H locs 0 0 (MQ below (va_Qi Q (BM D cA z0) (AM z0)) args s 0 0 (AM z0)) (F0 m 152 ls [.int v_10]) := by
      intro v_10 ls e_v_10 hl
      have h := h v_10 e_v_10
      exact m_iret hX hlk hr hw h dX12_orders_152
    refine lv_if_ge (tgt := 140) hx hb dX12_orders_133 (by decide) (fun hc12 => ?_) (fun hc12 => ?_)
    · refine lv_iload_n hx hb dX12_orders_140 rfl (lv_at hl 0 rfl) ?_
      refine lv_bipush (v := 12) hx hb dX12_orders_141 (by decide) ?_
      refine lv_icmp_le (tgt := 151) hx hb dX12_orders_143 (by decide) (fun hc13 => ?_) (fun hc13 => ?_)
      · refine lv_iload_n hx hb dX12_orders_151 rfl (lv_at hl 0 rfl) ?_
        exact kM11 _ _ (by first | rfl | rw [if_pos hc12, if_pos hc13] | simp only [if_pos hc12, if_pos hc13]) (lv_sub hl [] rfl)
      · refine lv_bipush (v := 12) hx hb dX12_orders_146 (by decide) ?_
        refine lv_goto (tgt := 152) hx hb dX12_orders_148 (by decide) ?_
        exact kM11 _ _ (by first | rfl | rw [if_pos hc12, if_neg hc13] | simp only [if_pos hc12, if_neg hc13]) (lv_sub hl [] rfl)
    · refine lv_iconst (v := 0) hx hb dX12_orders_136 (by decide) ?_
      refine lv_goto (tgt := 152) hx hb dX12_orders_137 (by decide) ?_
      exact kM11 _ _ (by first | rfl | rw [if_neg hc12] | simp only [if_neg hc12]) (lv_sub hl [] rfl)
  by_cases hs5_2 : (gI σ b2 x1.toNatClampNeg) = 2
  · refine lv_tableIn (off := 38) (tgt := 44) hx hb dX12_orders_6 (by rw [hs5_2]; decide) (by rw [hs5_2]; decide) (by rw [hs5_2]; rfl) (by decide) ?_
    have h := h.2.1 hs5_2
    refine lv_iload_n hx hb dX12_orders_44 rfl (lv_at hl 2 rfl) ?_
    refine lv_aload_n hx hb dX12_orders_45 rfl (lv_at hl 0 rfl) ?_
    obtain ⟨b14, hb14, h⟩ := h
    refine m_get hX hw cl12 hT1 11 (by decide) k_885 (fun _ h => h) (v := .ref b14) (congrArg va_rf hb14) dX12_orders_46 ?_
    refine lv_iload_n hx hb dX12_orders_49 rfl (lv_at hl 1 rfl) ?_
    obtain ⟨hT15, h⟩ := h
    obtain ⟨hc16, h⟩ := h
    refine m_iald hX hw hT15 hc16 dX12_orders_50 ?_
    obtain ⟨J66, hJ66, h⟩ := h
    have kJ66 : ∀ (σ21 : Me) (v_22 : Int32) (H : Heap) (locs : List Loc) (ls : Array Slot), J66 σ21 v_22 → wS D cA z0 s σ21 H locs → lv_has ls 4 [] → W p l e rX12_orders s m args below meth c H locs 0 0 (MQ below (va_Qi Q (BM D cA z0) (AM z0)) args s 0 0 (AM z0)) (F0 m 66 ls [.int v_22]) := by
      intro σ21 v_22 H locs ls h hw hl
      have h := hJ66 _ _ h
      refine lv_istore_n (lv' := [(3, _)]) hx hb dX12_orders_66 rfl hl (by decide) rfl (fun ls hl => ?_)
      refine lv_goto (tgt := 132) hx hb dX12_orders_67 (by decide) ?_
      refine lv_iload_n hx hb dX12_orders_132 rfl (lv_at hl 0 rfl) ?_
      have kM24 : ∀ (v_23 : Int32) (ls : Array Slot), v_23 = (if 0 ≤ v_22 then (if v_22 ≤ ((12 : Int32)) then v_22 else ((12 : Int32))) else ((0 : Int32))) → lv_has ls 4 [] → W p l e rX12_orders s m args below meth c H locs 0 0 (MQ below (va_Qi Q (BM D cA z0) (AM z0)) args s 0 0 (AM z0)) (F0 m 152 ls [.int v_23]) := by
        intro v_23 ls e_v_23 hl
        have h := h v_23 e_v_23
        exact m_iret hX hlk hr hw h dX12_orders_152
      refine lv_if_ge (tgt := 140) hx hb dX12_orders_133 (by decide) (fun hc25 => ?_) (fun hc25 => ?_)
      · refine lv_iload_n hx hb dX12_orders_140 rfl (lv_at hl 0 rfl) ?_
        refine lv_bipush (v := 12) hx hb dX12_orders_141 (by decide) ?_
        refine lv_icmp_le (tgt := 151) hx hb dX12_orders_143 (by decide) (fun hc26 => ?_) (fun hc26 => ?_)
        · refine lv_iload_n hx hb dX12_orders_151 rfl (lv_at hl 0 rfl) ?_
          exact kM24 _ _ (by first | rfl | rw [if_pos hc25, if_pos hc26] | simp only [if_pos hc25, if_pos hc26]) (lv_sub hl [] rfl)
        · refine lv_bipush (v := 12) hx hb dX12_orders_146 (by decide) ?_
          refine lv_goto (tgt := 152) hx hb dX12_orders_148 (by decide) ?_
          exact kM24 _ _ (by first | rfl | rw [if_pos hc25, if_neg hc26] | simp only [if_pos hc25, if_neg hc26]) (lv_sub hl [] rfl)
      · refine lv_iconst (v := 0) hx hb dX12_orders_136 (by decide) ?_
        refine lv_goto (tgt := 152) hx hb dX12_orders_137 (by decide) ?_
        exact kM24 _ _ (by first | rfl | rw [if_neg hc25] | simp only [if_neg hc25]) (lv_sub hl [] rfl)
    refine lv_icmp_gt (tgt := 65) hx hb dX12_orders_51 (by decide) (fun hc17 => ?_) (fun hc17 => ?_)
    · have h := h.1 hc17
      refine lv_iconst (v := 0) hx hb dX12_orders_65 (by decide) ?_
      exact kJ66 _ _ _ _ _ h hw (lv_sub hl [] rfl)
    · have h := h.2 hc17
      refine lv_aload_n hx hb dX12_orders_54 rfl (lv_at hl 0 rfl) ?_
      obtain ⟨b18, hb18, h⟩ := h
      refine m_get hX hw cl12 hT1 12 (by decide) k_886 (fun _ h => h) (v := .ref b18) (congrArg va_rf hb18) dX12_orders_55 ?_
      refine lv_iload_n hx hb dX12_orders_58 rfl (lv_at hl 1 rfl) ?_
      obtain ⟨hT19, h⟩ := h
      obtain ⟨hc20, h⟩ := h
      refine m_iald hX hw hT19 hc20 dX12_orders_59 ?_
      refine lv_iload_n hx hb dX12_orders_60 rfl (lv_at hl 2 rfl) ?_
      refine lv_isub hx hb dX12_orders_61 ?_
      refine lv_goto (tgt := 66) hx hb dX12_orders_62 (by decide) ?_
      exact kJ66 _ _ _ _ _ h hw (lv_sub hl [] rfl)
  by_cases hs5_3 : (gI σ b2 x1.toNatClampNeg) = 3
  · refine lv_tableIn (off := 64) (tgt := 70) hx hb dX12_orders_6 (by rw [hs5_3]; decide) (by rw [hs5_3]; decide) (by rw [hs5_3]; rfl) (by decide) ?_
    have h := h.2.2.1 hs5_3
    refine lv_iload_n hx hb dX12_orders_70 rfl (lv_at hl 2 rfl) ?_
    refine lv_aload_n hx hb dX12_orders_71 rfl (lv_at hl 0 rfl) ?_
    obtain ⟨b27, hb27, h⟩ := h
    refine m_get hX hw cl12 hT1 11 (by decide) k_885 (fun _ h => h) (v := .ref b27) (congrArg va_rf hb27) dX12_orders_72 ?_
    refine lv_iload_n hx hb dX12_orders_75 rfl (lv_at hl 1 rfl) ?_
    obtain ⟨hT28, h⟩ := h
    obtain ⟨hc29, h⟩ := h
    refine m_iald hX hw hT28 hc29 dX12_orders_76 ?_
    obtain ⟨J90, hJ90, h⟩ := h
    have kJ90 : ∀ (σ34 : Me) (v_35 : Int32) (H : Heap) (locs : List Loc) (ls : Array Slot), J90 σ34 v_35 → wS D cA z0 s σ34 H locs → lv_has ls 4 [] → W p l e rX12_orders s m args below meth c H locs 0 0 (MQ below (va_Qi Q (BM D cA z0) (AM z0)) args s 0 0 (AM z0)) (F0 m 90 ls [.int v_35]) := by
      intro σ34 v_35 H locs ls h hw hl
      have h := hJ90 _ _ h
      refine lv_istore_n (lv' := [(3, _)]) hx hb dX12_orders_90 rfl hl (by decide) rfl (fun ls hl => ?_)
      refine lv_goto (tgt := 132) hx hb dX12_orders_91 (by decide) ?_
      refine lv_iload_n hx hb dX12_orders_132 rfl (lv_at hl 0 rfl) ?_
      have kM37 : ∀ (v_36 : Int32) (ls : Array Slot), v_36 = (if 0 ≤ v_35 then (if v_35 ≤ ((12 : Int32)) then v_35 else ((12 : Int32))) else ((0 : Int32))) → lv_has ls 4 [] → W p l e rX12_orders s m args below meth c H locs 0 0 (MQ below (va_Qi Q (BM D cA z0) (AM z0)) args s 0 0 (AM z0)) (F0 m 152 ls [.int v_36]) := by
        intro v_36 ls e_v_36 hl
        have h := h v_36 e_v_36
        exact m_iret hX hlk hr hw h dX12_orders_152
      refine lv_if_ge (tgt := 140) hx hb dX12_orders_133 (by decide) (fun hc38 => ?_) (fun hc38 => ?_)
      · refine lv_iload_n hx hb dX12_orders_140 rfl (lv_at hl 0 rfl) ?_
        refine lv_bipush (v := 12) hx hb dX12_orders_141 (by decide) ?_
        refine lv_icmp_le (tgt := 151) hx hb dX12_orders_143 (by decide) (fun hc39 => ?_) (fun hc39 => ?_)
        · refine lv_iload_n hx hb dX12_orders_151 rfl (lv_at hl 0 rfl) ?_
          exact kM37 _ _ (by first | rfl | rw [if_pos hc38, if_pos hc39] | simp only [if_pos hc38, if_pos hc39]) (lv_sub hl [] rfl)
        · refine lv_bipush (v := 12) hx hb dX12_orders_146 (by decide) ?_
          refine lv_goto (tgt := 152) hx hb dX12_orders_148 (by decide) ?_
          exact kM37 _ _ (by first | rfl | rw [if_pos hc38, if_neg hc39] | simp only [if_pos hc38, if_neg hc39]) (lv_sub hl [] rfl)
      · refine lv_iconst (v := 0) hx hb dX12_orders_136 (by decide) ?_
        refine lv_goto (tgt := 152) hx hb dX12_orders_137 (by decide) ?_
        exact kM37 _ _ (by first | rfl | rw [if_neg hc38] | simp only [if_neg hc38]) (lv_sub hl [] rfl)
    refine lv_icmp_gt (tgt := 89) hx hb dX12_orders_77 (by decide) (fun hc30 => ?_) (fun hc30 => ?_)
    · have h := h.1 hc30
      refine lv_iconst (v := 0) hx hb dX12_orders_89 (by decide) ?_
      exact kJ90 _ _ _ _ _ h hw (lv_sub hl [] rfl)
    · have h := h.2 hc30
      refine lv_aload_n hx hb dX12_orders_80 rfl (lv_at hl 0 rfl) ?_
      obtain ⟨b31, hb31, h⟩ := h
      refine m_get hX hw cl12 hT1 13 (by decide) k_887 (fun _ h => h) (v := .ref b31) (congrArg va_rf hb31) dX12_orders_81 ?_
      refine lv_iload_n hx hb dX12_orders_84 rfl (lv_at hl 1 rfl) ?_
      obtain ⟨hT32, h⟩ := h
      obtain ⟨hc33, h⟩ := h
      refine m_iald hX hw hT32 hc33 dX12_orders_85 ?_
      refine lv_goto (tgt := 90) hx hb dX12_orders_86 (by decide) ?_
      exact kJ90 _ _ _ _ _ h hw (lv_sub hl [] rfl)
  refine lv_tableOut (tgt := 94) hx hb dX12_orders_6 (by have q1 := lv_neT hs5_1 (show (1 : Int32).toInt = 1 by decide); have q2 := lv_neT hs5_2 (show (2 : Int32).toInt = 2 by decide); have q3 := lv_neT hs5_3 (show (3 : Int32).toInt = 3 by decide); omega) (by decide) ?_
  have h := h.2.2.2 hs5_1 hs5_2 hs5_3
  refine lv_iload_n hx hb dX12_orders_94 rfl (lv_at hl 2 rfl) ?_
  refine lv_bipush (v := 12) hx hb dX12_orders_95 (by decide) ?_
  refine lv_iadd hx hb dX12_orders_97 ?_
  refine lv_iconst (v := 0) hx hb dX12_orders_98 (by decide) ?_
  refine lv_aload_n hx hb dX12_orders_99 rfl (lv_at hl 0 rfl) ?_
  obtain ⟨b40, hb40, h⟩ := h
  refine m_get hX hw cl12 hT1 14 (by decide) k_888 (fun _ h => h) (v := .ref b40) (congrArg va_rf hb40) dX12_orders_100 ?_
  refine lv_iload_n hx hb dX12_orders_103 rfl (lv_at hl 1 rfl) ?_
  obtain ⟨hT41, h⟩ := h
  obtain ⟨hc42, h⟩ := h
  refine m_iald hX hw hT41 hc42 dX12_orders_104 ?_
  refine lv_iconst (v := 1) hx hb dX12_orders_105 (by decide) ?_
  refine lv_isub hx hb dX12_orders_106 ?_
  refine m_ci (m_runS (rest := []) hX hw (tX12_in h) mtX12_in k_1054 k_1055 ⟨⟨rfl, rfl, Nat.le_of_ble_eq_true rfl, Nat.le_of_ble_eq_true rfl⟩, Nat.le_of_ble_eq_true rfl, Nat.le_of_ble_eq_true rfl⟩ rfl hl.1 rfl (Nat.le_of_ble_eq_true rfl) dX12_orders_107) hw (fun r43 σ44 H locs h hw => ?_)
  obtain ⟨J131, hJ131, h⟩ := h
  have kJ131 : ∀ (σ51 : Me) (v_52 : Int32) (H : Heap) (locs : List Loc) (ls : Array Slot), J131 σ51 v_52 → wS D cA z0 s σ51 H locs → lv_has ls 4 [] → W p l e rX12_orders s m args below meth c H locs 0 0 (MQ below (va_Qi Q (BM D cA z0) (AM z0)) args s 0 0 (AM z0)) (F0 m 131 ls [.int v_52]) := by
    intro σ51 v_52 H locs ls h hw hl
    have h := hJ131 _ _ h
    refine lv_istore_n (lv' := [(3, _)]) hx hb dX12_orders_131 rfl hl (by decide) rfl (fun ls hl => ?_)
    refine lv_iload_n hx hb dX12_orders_132 rfl (lv_at hl 0 rfl) ?_
    have kM54 : ∀ (v_53 : Int32) (ls : Array Slot), v_53 = (if 0 ≤ v_52 then (if v_52 ≤ ((12 : Int32)) then v_52 else ((12 : Int32))) else ((0 : Int32))) → lv_has ls 4 [] → W p l e rX12_orders s m args below meth c H locs 0 0 (MQ below (va_Qi Q (BM D cA z0) (AM z0)) args s 0 0 (AM z0)) (F0 m 152 ls [.int v_53]) := by
      intro v_53 ls e_v_53 hl
      have h := h v_53 e_v_53
      exact m_iret hX hlk hr hw h dX12_orders_152
    refine lv_if_ge (tgt := 140) hx hb dX12_orders_133 (by decide) (fun hc55 => ?_) (fun hc55 => ?_)
    · refine lv_iload_n hx hb dX12_orders_140 rfl (lv_at hl 0 rfl) ?_
      refine lv_bipush (v := 12) hx hb dX12_orders_141 (by decide) ?_
      refine lv_icmp_le (tgt := 151) hx hb dX12_orders_143 (by decide) (fun hc56 => ?_) (fun hc56 => ?_)
      · refine lv_iload_n hx hb dX12_orders_151 rfl (lv_at hl 0 rfl) ?_
        exact kM54 _ _ (by first | rfl | rw [if_pos hc55, if_pos hc56] | simp only [if_pos hc55, if_pos hc56]) (lv_sub hl [] rfl)
      · refine lv_bipush (v := 12) hx hb dX12_orders_146 (by decide) ?_
        refine lv_goto (tgt := 152) hx hb dX12_orders_148 (by decide) ?_
        exact kM54 _ _ (by first | rfl | rw [if_pos hc55, if_neg hc56] | simp only [if_pos hc55, if_neg hc56]) (lv_sub hl [] rfl)
    · refine lv_iconst (v := 0) hx hb dX12_orders_136 (by decide) ?_
      refine lv_goto (tgt := 152) hx hb dX12_orders_137 (by decide) ?_
      exact kM54 _ _ (by first | rfl | rw [if_neg hc55] | simp only [if_neg hc55]) (lv_sub hl [] rfl)
  refine lv_if_eq (tgt := 130) hx hb dX12_orders_110 (by decide) (fun hc46 => ?_) (fun hc46 => ?_)
  · have h := h.1 hc46
    refine lv_iconst (v := 0) hx hb dX12_orders_130 (by decide) ?_
    exact kJ131 _ _ _ _ _ h hw (lv_sub hl [] rfl)
  · have h := h.2 hc46
    refine lv_aload_n hx hb dX12_orders_113 rfl (lv_at hl 0 rfl) ?_
    obtain ⟨hT47, h⟩ := h
    obtain ⟨b48, hb48, h⟩ := h
    refine m_get hX hw cl12 hT47 15 (by decide) k_889 (fun _ h => h) (v := .ref b48) (congrArg va_rf hb48) dX12_orders_114 ?_
    refine lv_bipush (v := 25) hx hb dX12_orders_117 (by decide) ?_
    refine lv_iload_n hx hb dX12_orders_119 rfl (lv_at hl 1 rfl) ?_
    refine lv_imul hx hb dX12_orders_120 ?_
    refine lv_iload_n hx hb dX12_orders_121 rfl (lv_at hl 2 rfl) ?_
    refine lv_iadd hx hb dX12_orders_122 ?_
    refine lv_bipush (v := 12) hx hb dX12_orders_123 (by decide) ?_
    refine lv_iadd hx hb dX12_orders_125 ?_
    obtain ⟨hT49, h⟩ := h
    obtain ⟨hc50, h⟩ := h
    refine m_bald hX hw hT49 hc50 dX12_orders_126 ?_
    refine lv_goto (tgt := 131) hx hb dX12_orders_127 (by decide) ?_
    exact kJ131 _ _ _ _ _ h hw (lv_sub hl [] rfl)
theorem mtX12_orders : Mth yX12_orders cX12_orders 4 (some .int) 2 := ⟨k_1152, k_50, by decide +kernel⟩
theorem tX12_orders {l : Launch} {D : va_G} {cA : Nat → ClassId} {z0 : Nat} {σ : Me} {a0 : Nat} {x1 : Int32} {x2 : Int32} {Q : Int32 → Me → Prop} (h : pX12_orders σ a0 x1 x2 Q) : Met l yX12_orders (Cond.code yX12_orders cX12_orders 4 (some .int) :: gTab) rX12_orders (PcM D cA z0 σ [.ref a0, .int x1, .int x2]) (va_Qi Q (BM D cA z0) (AM z0)) 0 0 (AM z0) :=
  met_of (by decide) (Nat.le_of_ble_eq_true rfl) (fun hX hlk hr hn hw hl => wX12_orders hX hlk hr h hw hl)
abbrev rX12_order : Room := { frames := 3, cells := 0, slots := 0, locals := 65 }
def pX12_order (σ : Me) (a0 : Nat) (x1 : Int32) (x2 : Int32) (Q : Int32 → Me → Prop) : Prop := pX12_in σ x2 ((-12 : Int32)) ((36 : Int32)) (fun r1 σ2 => gT σ2 a0 = 12 ∧ pX12_need σ2 a0 r1 x1 (fun r3 σ4 => (0 ≤ r3 → gT σ4 a0 = 12 ∧ pX12_orders σ4 a0 x1 x2 (fun r7 σ8 => Q r7 σ8)) ∧ (¬ 0 ≤ r3 → Q r3 σ4)))
set_option maxHeartbeats 4000000 in
set_option maxRecDepth 100000 in
theorem wX12_order {p : Program} {l : Launch} {e : Env} {s : State} {m : MethodId} {args : Array Value} {below : List Frame} {meth : Method} {c : Code} {D : va_G} {cA : Nat → ClassId} {z0 : Nat} (hX : Cx p m c cX12_order 4 s args RX12 D cA) (hlk : meth.locks = false) (hr : meth.sig.returnType = (some .int)) {σ : Me} {a0 : Nat} {x1 : Int32} {x2 : Int32} {Q : Int32 → Me → Prop} (h : pX12_order σ a0 x1 x2 Q) {H : Heap} {locs : List Loc} {ls : Array Slot} (hw : wS D cA z0 s σ H locs) (hl : lv_has ls 4 [(0, .ref a0), (1, .int x1), (2, .int x2)]) : W p l e rX12_order s m args below meth c H locs 0 0 (MQ below (va_Qi Q (BM D cA z0) (AM z0)) args s 0 0 (AM z0)) (F0 m 0 ls []) := by
  have hx := hX.1.1
  have hb := hX.1.2.1
  have hown := hX.1.2.2.2.1
  have hts := hX.1.2.2.2.2
  unfold pX12_order at h
  refine lv_aload_n hx hb dX12_order_0 rfl (lv_at hl 0 rfl) ?_
  refine lv_iload_n hx hb dX12_order_1 rfl (lv_at hl 2 rfl) ?_
  refine lv_bipush (v := (-12)) hx hb dX12_order_2 (by decide) ?_
  refine lv_bipush (v := 36) hx hb dX12_order_4 (by decide) ?_
  refine m_ci (m_runS (rest := [_]) hX hw (tX12_in h) mtX12_in k_1054 k_1055 ⟨⟨rfl, rfl, Nat.le_of_ble_eq_true rfl, Nat.le_of_ble_eq_true rfl⟩, Nat.le_of_ble_eq_true rfl, Nat.le_of_ble_eq_true rfl⟩ rfl hl.1 rfl (Nat.le_of_ble_eq_true rfl) dX12_order_6) hw (fun r1 σ2 H locs h hw => ?_)
  refine lv_iload_n hx hb dX12_order_9 rfl (lv_at hl 1 rfl) ?_
  obtain ⟨hT5, h⟩ := h
  refine m_ci (m_runV (rest := []) hX hw (tX12_need h) mtX12_need k_1125 ⟨k_1127, k_27⟩ cl12 hT5 ⟨⟨rfl, rfl, Nat.le_of_ble_eq_true rfl, Nat.le_of_ble_eq_true rfl⟩, Nat.le_of_ble_eq_true rfl, Nat.le_of_ble_eq_true rfl⟩ rfl hl.1 rfl (Nat.le_of_ble_eq_true rfl) dX12_order_10) hw (fun r3 σ4 H locs h hw => ?_)
  refine lv_istore_n (lv' := [(3, _), (0, _), (1, _), (2, _)]) hx hb dX12_order_13 rfl hl (by decide) rfl (fun ls hl => ?_)
  refine lv_iload_n hx hb dX12_order_14 rfl (lv_at hl 0 rfl) ?_
  refine lv_if_ge (tgt := 22) hx hb dX12_order_15 (by decide) (fun hc6 => ?_) (fun hc6 => ?_)
  · have h := h.1 hc6
    refine lv_aload_n hx hb dX12_order_22 rfl (lv_at hl 1 rfl) ?_
    refine lv_iload_n hx hb dX12_order_23 rfl (lv_at hl 2 rfl) ?_
    refine lv_iload_n hx hb dX12_order_24 rfl (lv_at hl 3 rfl) ?_
    obtain ⟨hT9, h⟩ := h
    refine m_ci (m_runV (rest := []) hX hw (tX12_orders h) mtX12_orders k_1149 ⟨k_1151, k_30⟩ cl12 hT9 ⟨⟨rfl, rfl, Nat.le_of_ble_eq_true rfl, Nat.le_of_ble_eq_true rfl⟩, Nat.le_of_ble_eq_true rfl, Nat.le_of_ble_eq_true rfl⟩ rfl hl.1 rfl (Nat.le_of_ble_eq_true rfl) dX12_order_25) hw (fun r7 σ8 H locs h hw => ?_)
    exact m_iret hX hlk hr hw h dX12_order_28
  · have h := h.2 hc6
    refine lv_iload_n hx hb dX12_order_18 rfl (lv_at hl 0 rfl) ?_
    refine lv_goto (tgt := 28) hx hb dX12_order_19 (by decide) ?_
    exact m_iret hX hlk hr hw h dX12_order_28
theorem mtX12_order : Mth yX12_order cX12_order 4 (some .int) 2 := ⟨k_1148, k_50, by decide +kernel⟩
theorem tX12_order {l : Launch} {D : va_G} {cA : Nat → ClassId} {z0 : Nat} {σ : Me} {a0 : Nat} {x1 : Int32} {x2 : Int32} {Q : Int32 → Me → Prop} (h : pX12_order σ a0 x1 x2 Q) : Met l yX12_order (Cond.code yX12_order cX12_order 4 (some .int) :: gTab) rX12_order (PcM D cA z0 σ [.ref a0, .int x1, .int x2]) (va_Qi Q (BM D cA z0) (AM z0)) 0 0 (AM z0) :=
  met_of (by decide) (Nat.le_of_ble_eq_true rfl) (fun hX hlk hr hn hw hl => wX12_order hX hlk hr h hw hl)
abbrev rX12_shop : Room := { frames := 1, cells := 0, slots := 0, locals := 22 }
def pX12_shop (σ : Me) (a0 : Nat) (x1 : Int32) (x2 : Int32) (x3 : Int32) (Q : Int32 → Me → Prop) : Prop := pX12_in σ x1 ((1 : Int32)) ((12 : Int32)) (fun r1 σ2 => (r1 = 0 → Q ((-1 : Int32)) σ2) ∧ (¬ r1 = 0 → pX12_in σ2 x2 ((0 : Int32)) ((2 : Int32)) (fun r4 σ5 => (r4 = 0 → Q ((-1 : Int32)) σ5) ∧ (¬ r4 = 0 → gT σ5 a0 = 12 ∧ ∀ σ8 : Me, σ8 = sI σ5 a0 17 x1 → ∀ σ9 : Me, σ9 = sI σ8 a0 18 x2 → (x3 = 0 ∨ x3 = 1) ∧ ∀ σ11 : Me, σ11 = sI σ9 a0 19 x3 → Q ((1 : Int32)) σ11))))
set_option maxHeartbeats 4000000 in
set_option maxRecDepth 100000 in
theorem wX12_shop {p : Program} {l : Launch} {e : Env} {s : State} {m : MethodId} {args : Array Value} {below : List Frame} {meth : Method} {c : Code} {D : va_G} {cA : Nat → ClassId} {z0 : Nat} (hX : Cx p m c cX12_shop 4 s args RX12 D cA) (hlk : meth.locks = false) (hr : meth.sig.returnType = (some .int)) {σ : Me} {a0 : Nat} {x1 : Int32} {x2 : Int32} {x3 : Int32} {Q : Int32 → Me → Prop} (h : pX12_shop σ a0 x1 x2 x3 Q) {H : Heap} {locs : List Loc} {ls : Array Slot} (hw : wS D cA z0 s σ H locs) (hl : lv_has ls 4 [(0, .ref a0), (1, .int x1), (2, .int x2), (3, .int x3)]) : W p l e rX12_shop s m args below meth c H locs 0 0 (MQ below (va_Qi Q (BM D cA z0) (AM z0)) args s 0 0 (AM z0)) (F0 m 0 ls []) := by
  have hx := hX.1.1
  have hb := hX.1.2.1
  have hown := hX.1.2.2.2.1
  have hts := hX.1.2.2.2.2
  unfold pX12_shop at h
  refine lv_iload_n hx hb dX12_shop_0 rfl (lv_at hl 1 rfl) ?_
  refine lv_iconst (v := 1) hx hb dX12_shop_1 (by decide) ?_
  refine lv_bipush (v := 12) hx hb dX12_shop_2 (by decide) ?_
  refine m_ci (m_runS (rest := []) hX hw (tX12_in h) mtX12_in k_1054 k_1055 ⟨⟨rfl, rfl, Nat.le_of_ble_eq_true rfl, Nat.le_of_ble_eq_true rfl⟩, Nat.le_of_ble_eq_true rfl, Nat.le_of_ble_eq_true rfl⟩ rfl hl.1 rfl (Nat.le_of_ble_eq_true rfl) dX12_shop_4) hw (fun r1 σ2 H locs h hw => ?_)
  refine lv_if_eq (tgt := 19) hx hb dX12_shop_7 (by decide) (fun hc3 => ?_) (fun hc3 => ?_)
  · have h := h.1 hc3
    refine lv_iconst (v := (-1)) hx hb dX12_shop_19 (by decide) ?_
    exact m_iret hX hlk hr hw h dX12_shop_20
  · have h := h.2 hc3
    refine lv_iload_n hx hb dX12_shop_10 rfl (lv_at hl 2 rfl) ?_
    refine lv_iconst (v := 0) hx hb dX12_shop_11 (by decide) ?_
    refine lv_iconst (v := 2) hx hb dX12_shop_12 (by decide) ?_
    refine m_ci (m_runS (rest := []) hX hw (tX12_in h) mtX12_in k_1054 k_1055 ⟨⟨rfl, rfl, Nat.le_of_ble_eq_true rfl, Nat.le_of_ble_eq_true rfl⟩, Nat.le_of_ble_eq_true rfl, Nat.le_of_ble_eq_true rfl⟩ rfl hl.1 rfl (Nat.le_of_ble_eq_true rfl) dX12_shop_13) hw (fun r4 σ5 H locs h hw => ?_)
    refine lv_if_ne (tgt := 21) hx hb dX12_shop_16 (by decide) (fun hc6 => ?_) (fun hc6 => ?_)
    · have h := h.2 hc6
      refine lv_aload_n hx hb dX12_shop_21 rfl (lv_at hl 0 rfl) ?_
      refine lv_iload_n hx hb dX12_shop_22 rfl (lv_at hl 1 rfl) ?_
      obtain ⟨hT7, h⟩ := h
      refine m_putI hX hw cl12 hT7 17 (by decide) k_891 (fun _ h => h) rfl rfl dX12_shop_23 (fun H locs hw => ?_)
      let σ8 : Me := sI σ5 a0 17 x1
      have h := h σ8 rfl
      have hw : wS D cA z0 s σ8 H locs := hw
      refine lv_aload_n hx hb dX12_shop_26 rfl (lv_at hl 0 rfl) ?_
      refine lv_iload_n hx hb dX12_shop_27 rfl (lv_at hl 2 rfl) ?_
      refine m_putI hX hw cl12 hT7 18 (by decide) k_892 (fun _ h => h) rfl rfl dX12_shop_28 (fun H locs hw => ?_)
      let σ9 : Me := sI σ8 a0 18 x2
      have h := h σ9 rfl
      have hw : wS D cA z0 s σ9 H locs := hw
      refine lv_aload_n hx hb dX12_shop_31 rfl (lv_at hl 0 rfl) ?_
      refine lv_iload_n hx hb dX12_shop_32 rfl (lv_at hl 3 rfl) ?_
      obtain ⟨hc10, h⟩ := h
      refine m_putZ hX hw cl12 hT7 19 (by decide) k_893 (fun _ h => h) rfl rfl hc10 dX12_shop_33 (fun H locs hw => ?_)
      let σ11 : Me := sI σ9 a0 19 x3
      have h := h σ11 rfl
      have hw : wS D cA z0 s σ11 H locs := hw
      refine lv_iconst (v := 1) hx hb dX12_shop_36 (by decide) ?_
      exact m_iret hX hlk hr hw h dX12_shop_37
    · have h := h.1 hc6
      refine lv_iconst (v := (-1)) hx hb dX12_shop_19 (by decide) ?_
      exact m_iret hX hlk hr hw h dX12_shop_20
theorem mtX12_shop : Mth yX12_shop cX12_shop 4 (some .int) 3 := ⟨k_1156, k_50, by decide +kernel⟩
theorem tX12_shop {l : Launch} {D : va_G} {cA : Nat → ClassId} {z0 : Nat} {σ : Me} {a0 : Nat} {x1 : Int32} {x2 : Int32} {x3 : Int32} {Q : Int32 → Me → Prop} (h : pX12_shop σ a0 x1 x2 x3 Q) : Met l yX12_shop (Cond.code yX12_shop cX12_shop 4 (some .int) :: gTab) rX12_shop (PcM D cA z0 σ [.ref a0, .int x1, .int x2, .int x3]) (va_Qi Q (BM D cA z0) (AM z0)) 0 0 (AM z0) :=
  met_of (by decide) (Nat.le_of_ble_eq_true rfl) (fun hX hlk hr hn hw hl => wX12_shop hX hlk hr h hw hl)
abbrev rX12_costs : Room := { frames := 1, cells := 0, slots := 0, locals := 22 }
def pX12_costs (σ : Me) (a0 : Nat) (x1 : Int32) (x2 : Int32) (x3 : Int32) (x4 : Int32) (Q : Int32 → Me → Prop) : Prop := pX12_in σ x1 ((0 : Int32)) ((100 : Int32)) (fun r1 σ2 => (r1 = 0 → Q ((-1 : Int32)) σ2) ∧ (¬ r1 = 0 → pX12_in σ2 x2 ((0 : Int32)) ((100 : Int32)) (fun r4 σ5 => (r4 = 0 → Q ((-1 : Int32)) σ5) ∧ (¬ r4 = 0 → pX12_in σ5 x3 ((0 : Int32)) ((100 : Int32)) (fun r7 σ8 => (r7 = 0 → Q ((-1 : Int32)) σ8) ∧ (¬ r7 = 0 → pX12_in σ8 x4 ((0 : Int32)) ((100 : Int32)) (fun r10 σ11 => (r10 = 0 → Q ((-1 : Int32)) σ11) ∧ (¬ r10 = 0 → gT σ11 a0 = 12 ∧ ∀ σ14 : Me, σ14 = sI σ11 a0 20 x1 → ∀ σ15 : Me, σ15 = sI σ14 a0 21 x2 → ∀ σ16 : Me, σ16 = sI σ15 a0 22 x3 → ∀ σ17 : Me, σ17 = sI σ16 a0 23 x4 → Q ((1 : Int32)) σ17))))))))
set_option maxHeartbeats 4000000 in
set_option maxRecDepth 100000 in
theorem wX12_costs {p : Program} {l : Launch} {e : Env} {s : State} {m : MethodId} {args : Array Value} {below : List Frame} {meth : Method} {c : Code} {D : va_G} {cA : Nat → ClassId} {z0 : Nat} (hX : Cx p m c cX12_costs 5 s args RX12 D cA) (hlk : meth.locks = false) (hr : meth.sig.returnType = (some .int)) {σ : Me} {a0 : Nat} {x1 : Int32} {x2 : Int32} {x3 : Int32} {x4 : Int32} {Q : Int32 → Me → Prop} (h : pX12_costs σ a0 x1 x2 x3 x4 Q) {H : Heap} {locs : List Loc} {ls : Array Slot} (hw : wS D cA z0 s σ H locs) (hl : lv_has ls 5 [(0, .ref a0), (1, .int x1), (2, .int x2), (3, .int x3), (4, .int x4)]) : W p l e rX12_costs s m args below meth c H locs 0 0 (MQ below (va_Qi Q (BM D cA z0) (AM z0)) args s 0 0 (AM z0)) (F0 m 0 ls []) := by
  have hx := hX.1.1
  have hb := hX.1.2.1
  have hown := hX.1.2.2.2.1
  have hts := hX.1.2.2.2.2
  unfold pX12_costs at h
  refine lv_iload_n hx hb dX12_costs_0 rfl (lv_at hl 1 rfl) ?_
  refine lv_iconst (v := 0) hx hb dX12_costs_1 (by decide) ?_
  refine lv_bipush (v := 100) hx hb dX12_costs_2 (by decide) ?_
  refine m_ci (m_runS (rest := []) hX hw (tX12_in h) mtX12_in k_1054 k_1055 ⟨⟨rfl, rfl, Nat.le_of_ble_eq_true rfl, Nat.le_of_ble_eq_true rfl⟩, Nat.le_of_ble_eq_true rfl, Nat.le_of_ble_eq_true rfl⟩ rfl hl.1 rfl (Nat.le_of_ble_eq_true rfl) dX12_costs_4) hw (fun r1 σ2 H locs h hw => ?_)
  refine lv_if_eq (tgt := 41) hx hb dX12_costs_7 (by decide) (fun hc3 => ?_) (fun hc3 => ?_)
  · have h := h.1 hc3
    refine lv_iconst (v := (-1)) hx hb dX12_costs_41 (by decide) ?_
    exact m_iret hX hlk hr hw h dX12_costs_42
  · have h := h.2 hc3
    refine lv_iload_n hx hb dX12_costs_10 rfl (lv_at hl 2 rfl) ?_
    refine lv_iconst (v := 0) hx hb dX12_costs_11 (by decide) ?_
    refine lv_bipush (v := 100) hx hb dX12_costs_12 (by decide) ?_
    refine m_ci (m_runS (rest := []) hX hw (tX12_in h) mtX12_in k_1054 k_1055 ⟨⟨rfl, rfl, Nat.le_of_ble_eq_true rfl, Nat.le_of_ble_eq_true rfl⟩, Nat.le_of_ble_eq_true rfl, Nat.le_of_ble_eq_true rfl⟩ rfl hl.1 rfl (Nat.le_of_ble_eq_true rfl) dX12_costs_14) hw (fun r4 σ5 H locs h hw => ?_)
    refine lv_if_eq (tgt := 41) hx hb dX12_costs_17 (by decide) (fun hc6 => ?_) (fun hc6 => ?_)
    · have h := h.1 hc6
      refine lv_iconst (v := (-1)) hx hb dX12_costs_41 (by decide) ?_
      exact m_iret hX hlk hr hw h dX12_costs_42
    · have h := h.2 hc6
      refine lv_iload_n hx hb dX12_costs_20 rfl (lv_at hl 3 rfl) ?_
      refine lv_iconst (v := 0) hx hb dX12_costs_21 (by decide) ?_
      refine lv_bipush (v := 100) hx hb dX12_costs_22 (by decide) ?_
      refine m_ci (m_runS (rest := []) hX hw (tX12_in h) mtX12_in k_1054 k_1055 ⟨⟨rfl, rfl, Nat.le_of_ble_eq_true rfl, Nat.le_of_ble_eq_true rfl⟩, Nat.le_of_ble_eq_true rfl, Nat.le_of_ble_eq_true rfl⟩ rfl hl.1 rfl (Nat.le_of_ble_eq_true rfl) dX12_costs_24) hw (fun r7 σ8 H locs h hw => ?_)
      refine lv_if_eq (tgt := 41) hx hb dX12_costs_27 (by decide) (fun hc9 => ?_) (fun hc9 => ?_)
      · have h := h.1 hc9
        refine lv_iconst (v := (-1)) hx hb dX12_costs_41 (by decide) ?_
        exact m_iret hX hlk hr hw h dX12_costs_42
      · have h := h.2 hc9
        refine lv_iload hx hb dX12_costs_30 (lv_at hl 4 rfl) ?_
        refine lv_iconst (v := 0) hx hb dX12_costs_32 (by decide) ?_
        refine lv_bipush (v := 100) hx hb dX12_costs_33 (by decide) ?_
        refine m_ci (m_runS (rest := []) hX hw (tX12_in h) mtX12_in k_1054 k_1055 ⟨⟨rfl, rfl, Nat.le_of_ble_eq_true rfl, Nat.le_of_ble_eq_true rfl⟩, Nat.le_of_ble_eq_true rfl, Nat.le_of_ble_eq_true rfl⟩ rfl hl.1 rfl (Nat.le_of_ble_eq_true rfl) dX12_costs_35) hw (fun r10 σ11 H locs h hw => ?_)
        refine lv_if_ne (tgt := 43) hx hb dX12_costs_38 (by decide) (fun hc12 => ?_) (fun hc12 => ?_)
        · have h := h.2 hc12
          refine lv_aload_n hx hb dX12_costs_43 rfl (lv_at hl 0 rfl) ?_
          refine lv_iload_n hx hb dX12_costs_44 rfl (lv_at hl 1 rfl) ?_
          obtain ⟨hT13, h⟩ := h
          refine m_putI hX hw cl12 hT13 20 (by decide) k_894 (fun _ h => h) rfl rfl dX12_costs_45 (fun H locs hw => ?_)
          let σ14 : Me := sI σ11 a0 20 x1
          have h := h σ14 rfl
          have hw : wS D cA z0 s σ14 H locs := hw
          refine lv_aload_n hx hb dX12_costs_48 rfl (lv_at hl 0 rfl) ?_
          refine lv_iload_n hx hb dX12_costs_49 rfl (lv_at hl 2 rfl) ?_
          refine m_putI hX hw cl12 hT13 21 (by decide) k_895 (fun _ h => h) rfl rfl dX12_costs_50 (fun H locs hw => ?_)
          let σ15 : Me := sI σ14 a0 21 x2
          have h := h σ15 rfl
          have hw : wS D cA z0 s σ15 H locs := hw
          refine lv_aload_n hx hb dX12_costs_53 rfl (lv_at hl 0 rfl) ?_
          refine lv_iload_n hx hb dX12_costs_54 rfl (lv_at hl 3 rfl) ?_
          refine m_putI hX hw cl12 hT13 22 (by decide) k_896 (fun _ h => h) rfl rfl dX12_costs_55 (fun H locs hw => ?_)
          let σ16 : Me := sI σ15 a0 22 x3
          have h := h σ16 rfl
          have hw : wS D cA z0 s σ16 H locs := hw
          refine lv_aload_n hx hb dX12_costs_58 rfl (lv_at hl 0 rfl) ?_
          refine lv_iload hx hb dX12_costs_59 (lv_at hl 4 rfl) ?_
          refine m_putI hX hw cl12 hT13 23 (by decide) k_897 (fun _ h => h) rfl rfl dX12_costs_61 (fun H locs hw => ?_)
          let σ17 : Me := sI σ16 a0 23 x4
          have h := h σ17 rfl
          have hw : wS D cA z0 s σ17 H locs := hw
          refine lv_iconst (v := 1) hx hb dX12_costs_64 (by decide) ?_
          exact m_iret hX hlk hr hw h dX12_costs_65
        · have h := h.1 hc12
          refine lv_iconst (v := (-1)) hx hb dX12_costs_41 (by decide) ?_
          exact m_iret hX hlk hr hw h dX12_costs_42
theorem mtX12_costs : Mth yX12_costs cX12_costs 5 (some .int) 4 := ⟨k_1160, k_50, by decide +kernel⟩
theorem tX12_costs {l : Launch} {D : va_G} {cA : Nat → ClassId} {z0 : Nat} {σ : Me} {a0 : Nat} {x1 : Int32} {x2 : Int32} {x3 : Int32} {x4 : Int32} {Q : Int32 → Me → Prop} (h : pX12_costs σ a0 x1 x2 x3 x4 Q) : Met l yX12_costs (Cond.code yX12_costs cX12_costs 5 (some .int) :: gTab) rX12_costs (PcM D cA z0 σ [.ref a0, .int x1, .int x2, .int x3, .int x4]) (va_Qi Q (BM D cA z0) (AM z0)) 0 0 (AM z0) :=
  met_of (by decide) (Nat.le_of_ble_eq_true rfl) (fun hX hlk hr hn hw hl => wX12_costs hX hlk hr h hw hl)
abbrev rX12_day : Room := { frames := 0, cells := 0, slots := 0, locals := 0 }
def pX12_day (σ : Me) (a0 : Nat) (x1 : Int32) (x2 : Int32) (x3 : Int32) (x4 : Int32) (x5 : Int32) (Q : Me → Prop) : Prop := gT σ a0 = 12 ∧ ∀ v_2 : Int32, v_2 = (if (gI σ a0 18) = 0 then x4 else x2) → ∀ v_4 : Int32, v_4 = (if (gI σ a0 18) = 0 then ((0 : Int32)) else (if (gI σ a0 18) = ((1 : Int32)) then x4 else x3)) → ∀ σ6 : Me, σ6 = sI σ a0 25 v_4 → ∀ v_7 : Int32, v_7 = (if (gI σ6 a0 18) = ((2 : Int32)) then x4 else ((0 : Int32))) → ∀ σ9 : Me, σ9 = sI σ6 a0 26 v_7 → ∀ v_10 : Int32, v_10 = (if (x1 + v_2) ≤ (gI σ9 a0 17) then (x1 + v_2) else (gI σ9 a0 17)) → ∀ v_12 : Int32, v_12 = (if v_10 ≤ 0 then ((0 : Int32)) else v_10) → ∀ v_14 : Int32, v_14 = (if v_12 ≤ x5 then v_12 else x5) → ∀ σ16 : Me, σ16 = sI σ9 a0 28 v_14 → ∀ σ17 : Me, σ17 = sI σ16 a0 29 (x5 - (gI σ16 a0 28)) → ∀ x7_18 : Int32, x7_18 = (v_10 - x5) → ∀ v_19 : Int32, v_19 = (if (gI σ17 a0 19) = 0 then ((0 : Int32)) else ((-12 : Int32))) → ∀ v_21 : Int32, v_21 = (if v_19 ≤ x7_18 then x7_18 else v_19) → ∀ σ23 : Me, σ23 = sI σ17 a0 24 v_21 → ∀ v_24 : Int32, v_24 = (if x4 ≤ 0 then ((0 : Int32)) else (gI σ23 a0 20)) → ∀ v_26 : Int32, v_26 = (if (gI σ23 a0 24) ≤ 0 then ((0 : Int32)) else (gI σ23 a0 24)) → ∀ σ28 : Me, σ28 = sI σ23 a0 27 (((v_24 + ((gI σ23 a0 21) * x4)) + ((gI σ23 a0 22) * v_26)) + ((gI σ23 a0 23) * (gI σ23 a0 29))) → Q σ28
set_option maxHeartbeats 4000000 in
set_option maxRecDepth 100000 in
theorem wX12_day {p : Program} {l : Launch} {e : Env} {s : State} {m : MethodId} {args : Array Value} {below : List Frame} {meth : Method} {c : Code} {D : va_G} {cA : Nat → ClassId} {z0 : Nat} (hX : Cx p m c cX12_day 10 s args RX12 D cA) (hlk : meth.locks = false) (hr : meth.sig.returnType = none) {σ : Me} {a0 : Nat} {x1 : Int32} {x2 : Int32} {x3 : Int32} {x4 : Int32} {x5 : Int32} {Q : Me → Prop} (h : pX12_day σ a0 x1 x2 x3 x4 x5 Q) {H : Heap} {locs : List Loc} {ls : Array Slot} (hw : wS D cA z0 s σ H locs) (hl : lv_has ls 10 [(0, .ref a0), (1, .int x1), (2, .int x2), (3, .int x3), (4, .int x4), (5, .int x5)]) : W p l e rX12_day s m args below meth c H locs 0 0 (MQ below (va_Qv Q (BM D cA z0) (AM z0)) args s 0 0 (AM z0)) (F0 m 0 ls []) := by
  have hx := hX.1.1
  have hb := hX.1.2.1
  have hown := hX.1.2.2.2.1
  have hts := hX.1.2.2.2.2
  unfold pX12_day at h
  refine lv_aload_n hx hb dX12_day_0 rfl (lv_at hl 0 rfl) ?_
  obtain ⟨hT1, h⟩ := h
  refine m_get hX hw cl12 hT1 18 (by decide) k_892 (fun _ h => h) (v := .int _) rfl dX12_day_1 ?_
  have kM3 : ∀ (v_2 : Int32) (ls : Array Slot), v_2 = (if (gI σ a0 18) = 0 then x4 else x2) → lv_has ls 10 [(0, .ref a0), (1, .int x1), (3, .int x3), (4, .int x4), (5, .int x5)] → W p l e rX12_day s m args below meth c H locs 0 0 (MQ below (va_Qv Q (BM D cA z0) (AM z0)) args s 0 0 (AM z0)) (F0 m 13 ls [.int v_2]) := by
    intro v_2 ls e_v_2 hl
    have h := h v_2 e_v_2
    refine lv_istore (lv' := [(6, _), (0, _), (1, _), (3, _), (4, _), (5, _)]) hx hb dX12_day_13 hl (by decide) rfl (fun ls hl => ?_)
    refine lv_aload_n hx hb dX12_day_15 rfl (lv_at hl 1 rfl) ?_
    refine lv_aload_n hx hb dX12_day_16 rfl (lv_at hl 1 rfl) ?_
    refine m_get hX hw cl12 hT1 18 (by decide) k_892 (fun _ h => h) (v := .int _) rfl dX12_day_17 ?_
    have kM5 : ∀ (v_4 : Int32) (ls : Array Slot), v_4 = (if (gI σ a0 18) = 0 then ((0 : Int32)) else (if (gI σ a0 18) = ((1 : Int32)) then x4 else x3)) → lv_has ls 10 [(6, .int v_2), (0, .ref a0), (1, .int x1), (4, .int x4), (5, .int x5)] → W p l e rX12_day s m args below meth c H locs 0 0 (MQ below (va_Qv Q (BM D cA z0) (AM z0)) args s 0 0 (AM z0)) (F0 m 41 ls [.int v_4, .ref a0]) := by
      intro v_4 ls e_v_4 hl
      have h := h v_4 e_v_4
      refine m_putI hX hw cl12 hT1 25 (by decide) k_899 (fun _ h => h) rfl rfl dX12_day_41 (fun H locs hw => ?_)
      let σ6 : Me := sI σ a0 25 v_4
      have h := h σ6 rfl
      have hw : wS D cA z0 s σ6 H locs := hw
      refine lv_aload_n hx hb dX12_day_44 rfl (lv_at hl 1 rfl) ?_
      refine lv_aload_n hx hb dX12_day_45 rfl (lv_at hl 1 rfl) ?_
      refine m_get hX hw cl12 hT1 18 (by decide) k_892 (fun _ h => h) (v := .int _) rfl dX12_day_46 ?_
      refine lv_iconst (v := 2) hx hb dX12_day_49 (by decide) ?_
      have kM8 : ∀ (v_7 : Int32) (ls : Array Slot), v_7 = (if (gI σ6 a0 18) = ((2 : Int32)) then x4 else ((0 : Int32))) → lv_has ls 10 [(6, .int v_2), (0, .ref a0), (1, .int x1), (4, .int x4), (5, .int x5)] → W p l e rX12_day s m args below meth c H locs 0 0 (MQ below (va_Qv Q (BM D cA z0) (AM z0)) args s 0 0 (AM z0)) (F0 m 59 ls [.int v_7, .ref a0]) := by
        intro v_7 ls e_v_7 hl
        have h := h v_7 e_v_7
        refine m_putI hX hw cl12 hT1 26 (by decide) k_900 (fun _ h => h) rfl rfl dX12_day_59 (fun H locs hw => ?_)
        let σ9 : Me := sI σ6 a0 26 v_7
        have h := h σ9 rfl
        have hw : wS D cA z0 s σ9 H locs := hw
        refine lv_iload_n hx hb dX12_day_62 rfl (lv_at hl 2 rfl) ?_
        refine lv_iload hx hb dX12_day_63 (lv_at hl 0 rfl) ?_
        refine lv_iadd hx hb dX12_day_65 ?_
        refine lv_aload_n hx hb dX12_day_66 rfl (lv_at hl 1 rfl) ?_
        refine m_get hX hw cl12 hT1 17 (by decide) k_891 (fun _ h => h) (v := .int _) rfl dX12_day_67 ?_
        have kM11 : ∀ (v_10 : Int32) (ls : Array Slot), v_10 = (if (x1 + v_2) ≤ (gI σ9 a0 17) then (x1 + v_2) else (gI σ9 a0 17)) → lv_has ls 10 [(0, .ref a0), (4, .int x4), (5, .int x5)] → W p l e rX12_day s m args below meth c H locs 0 0 (MQ below (va_Qv Q (BM D cA z0) (AM z0)) args s 0 0 (AM z0)) (F0 m 84 ls [.int v_10]) := by
          intro v_10 ls e_v_10 hl
          have h := h v_10 e_v_10
          refine lv_istore (lv' := [(7, _), (0, _), (4, _), (5, _)]) hx hb dX12_day_84 hl (by decide) rfl (fun ls hl => ?_)
          refine lv_iload hx hb dX12_day_86 (lv_at hl 0 rfl) ?_
          have kM13 : ∀ (v_12 : Int32) (ls : Array Slot), v_12 = (if v_10 ≤ 0 then ((0 : Int32)) else v_10) → lv_has ls 10 [(7, .int v_10), (0, .ref a0), (4, .int x4), (5, .int x5)] → W p l e rX12_day s m args below meth c H locs 0 0 (MQ below (va_Qv Q (BM D cA z0) (AM z0)) args s 0 0 (AM z0)) (F0 m 97 ls [.int v_12]) := by
            intro v_12 ls e_v_12 hl
            have h := h v_12 e_v_12
            refine lv_istore (lv' := [(8, _), (7, _), (0, _), (4, _), (5, _)]) hx hb dX12_day_97 hl (by decide) rfl (fun ls hl => ?_)
            refine lv_aload_n hx hb dX12_day_99 rfl (lv_at hl 2 rfl) ?_
            refine lv_iload hx hb dX12_day_100 (lv_at hl 4 rfl) ?_
            refine lv_iload hx hb dX12_day_102 (lv_at hl 0 rfl) ?_
            have kM15 : ∀ (v_14 : Int32) (ls : Array Slot), v_14 = (if v_12 ≤ x5 then v_12 else x5) → lv_has ls 10 [(7, .int v_10), (0, .ref a0), (4, .int x4), (5, .int x5)] → W p l e rX12_day s m args below meth c H locs 0 0 (MQ below (va_Qv Q (BM D cA z0) (AM z0)) args s 0 0 (AM z0)) (F0 m 114 ls [.int v_14, .ref a0]) := by
              intro v_14 ls e_v_14 hl
              have h := h v_14 e_v_14
              refine m_putI hX hw cl12 hT1 28 (by decide) k_902 (fun _ h => h) rfl rfl dX12_day_114 (fun H locs hw => ?_)
              let σ16 : Me := sI σ9 a0 28 v_14
              have h := h σ16 rfl
              have hw : wS D cA z0 s σ16 H locs := hw
              refine lv_aload_n hx hb dX12_day_117 rfl (lv_at hl 1 rfl) ?_
              refine lv_iload hx hb dX12_day_118 (lv_at hl 3 rfl) ?_
              refine lv_aload_n hx hb dX12_day_120 rfl (lv_at hl 1 rfl) ?_
              refine m_get hX hw cl12 hT1 28 (by decide) k_902 (fun _ h => h) (v := .int _) rfl dX12_day_121 ?_
              refine lv_isub hx hb dX12_day_124 ?_
              refine m_putI hX hw cl12 hT1 29 (by decide) k_903 (fun _ h => h) rfl rfl dX12_day_125 (fun H locs hw => ?_)
              let σ17 : Me := sI σ16 a0 29 (x5 - (gI σ16 a0 28))
              have h := h σ17 rfl
              have hw : wS D cA z0 s σ17 H locs := hw
              refine lv_iload hx hb dX12_day_128 (lv_at hl 0 rfl) ?_
              refine lv_iload hx hb dX12_day_130 (lv_at hl 3 rfl) ?_
              refine lv_isub hx hb dX12_day_132 ?_
              refine lv_topi (fun x7_18 e_x7_18 => ?_)
              have h := h x7_18 e_x7_18
              refine lv_istore (lv' := [(7, _), (0, _), (4, _), (5, _)]) hx hb dX12_day_133 hl (by decide) rfl (fun ls hl => ?_)
              refine lv_aload_n hx hb dX12_day_135 rfl (lv_at hl 1 rfl) ?_
              refine m_get hX hw cl12 hT1 19 (by decide) k_893 (fun _ h => h) (v := .int _) rfl dX12_day_136 ?_
              have kM20 : ∀ (v_19 : Int32) (ls : Array Slot), v_19 = (if (gI σ17 a0 19) = 0 then ((0 : Int32)) else ((-12 : Int32))) → lv_has ls 10 [(7, .int x7_18), (0, .ref a0), (4, .int x4)] → W p l e rX12_day s m args below meth c H locs 0 0 (MQ below (va_Qv Q (BM D cA z0) (AM z0)) args s 0 0 (AM z0)) (F0 m 148 ls [.int v_19]) := by
                intro v_19 ls e_v_19 hl
                have h := h v_19 e_v_19
                refine lv_istore (lv' := [(9, _), (7, _), (0, _), (4, _)]) hx hb dX12_day_148 hl (by decide) rfl (fun ls hl => ?_)
                refine lv_aload_n hx hb dX12_day_150 rfl (lv_at hl 2 rfl) ?_
                refine lv_iload hx hb dX12_day_151 (lv_at hl 1 rfl) ?_
                refine lv_iload hx hb dX12_day_153 (lv_at hl 0 rfl) ?_
                have kM22 : ∀ (v_21 : Int32) (ls : Array Slot), v_21 = (if v_19 ≤ x7_18 then x7_18 else v_19) → lv_has ls 10 [(0, .ref a0), (4, .int x4)] → W p l e rX12_day s m args below meth c H locs 0 0 (MQ below (va_Qv Q (BM D cA z0) (AM z0)) args s 0 0 (AM z0)) (F0 m 165 ls [.int v_21, .ref a0]) := by
                  intro v_21 ls e_v_21 hl
                  have h := h v_21 e_v_21
                  refine m_putI hX hw cl12 hT1 24 (by decide) k_898 (fun _ h => h) rfl rfl dX12_day_165 (fun H locs hw => ?_)
                  let σ23 : Me := sI σ17 a0 24 v_21
                  have h := h σ23 rfl
                  have hw : wS D cA z0 s σ23 H locs := hw
                  refine lv_aload_n hx hb dX12_day_168 rfl (lv_at hl 0 rfl) ?_
                  refine lv_iload hx hb dX12_day_169 (lv_at hl 1 rfl) ?_
                  have kM25 : ∀ (v_24 : Int32) (ls : Array Slot), v_24 = (if x4 ≤ 0 then ((0 : Int32)) else (gI σ23 a0 20)) → lv_has ls 10 [(0, .ref a0), (4, .int x4)] → W p l e rX12_day s m args below meth c H locs 0 0 (MQ below (va_Qv Q (BM D cA z0) (AM z0)) args s 0 0 (AM z0)) (F0 m 182 ls [.int v_24, .ref a0]) := by
                    intro v_24 ls e_v_24 hl
                    have h := h v_24 e_v_24
                    refine lv_aload_n hx hb dX12_day_182 rfl (lv_at hl 0 rfl) ?_
                    refine m_get hX hw cl12 hT1 21 (by decide) k_895 (fun _ h => h) (v := .int _) rfl dX12_day_183 ?_
                    refine lv_iload hx hb dX12_day_186 (lv_at hl 1 rfl) ?_
                    refine lv_imul hx hb dX12_day_188 ?_
                    refine lv_iadd hx hb dX12_day_189 ?_
                    refine lv_aload_n hx hb dX12_day_190 rfl (lv_at hl 0 rfl) ?_
                    refine m_get hX hw cl12 hT1 22 (by decide) k_896 (fun _ h => h) (v := .int _) rfl dX12_day_191 ?_
                    refine lv_aload_n hx hb dX12_day_194 rfl (lv_at hl 0 rfl) ?_
                    refine m_get hX hw cl12 hT1 24 (by decide) k_898 (fun _ h => h) (v := .int _) rfl dX12_day_195 ?_
                    have kM27 : ∀ (v_26 : Int32) (ls : Array Slot), v_26 = (if (gI σ23 a0 24) ≤ 0 then ((0 : Int32)) else (gI σ23 a0 24)) → lv_has ls 10 [(0, .ref a0)] → W p l e rX12_day s m args below meth c H locs 0 0 (MQ below (va_Qv Q (BM D cA z0) (AM z0)) args s 0 0 (AM z0)) (F0 m 209 ls [.int v_26, .int (gI σ23 a0 22), .int (v_24 + ((gI σ23 a0 21) * x4)), .ref a0]) := by
                      intro v_26 ls e_v_26 hl
                      have h := h v_26 e_v_26
                      refine lv_imul hx hb dX12_day_209 ?_
                      refine lv_iadd hx hb dX12_day_210 ?_
                      refine lv_aload_n hx hb dX12_day_211 rfl (lv_at hl 0 rfl) ?_
                      refine m_get hX hw cl12 hT1 23 (by decide) k_897 (fun _ h => h) (v := .int _) rfl dX12_day_212 ?_
                      refine lv_aload_n hx hb dX12_day_215 rfl (lv_at hl 0 rfl) ?_
                      refine m_get hX hw cl12 hT1 29 (by decide) k_903 (fun _ h => h) (v := .int _) rfl dX12_day_216 ?_
                      refine lv_imul hx hb dX12_day_219 ?_
                      refine lv_iadd hx hb dX12_day_220 ?_
                      refine m_putI hX hw cl12 hT1 27 (by decide) k_901 (fun _ h => h) rfl rfl dX12_day_221 (fun H locs hw => ?_)
                      let σ28 : Me := sI σ23 a0 27 (((v_24 + ((gI σ23 a0 21) * x4)) + ((gI σ23 a0 22) * v_26)) + ((gI σ23 a0 23) * (gI σ23 a0 29)))
                      have h := h σ28 rfl
                      have hw : wS D cA z0 s σ28 H locs := hw
                      exact m_vret hX hlk hr hw h dX12_day_224
                    refine lv_if_le (tgt := 208) hx hb dX12_day_198 (by decide) (fun hc29 => ?_) (fun hc29 => ?_)
                    · refine lv_iconst (v := 0) hx hb dX12_day_208 (by decide) ?_
                      exact kM27 _ _ (by first | rfl | rw [if_pos hc29] | simp only [if_pos hc29]) (lv_sub hl [0] rfl)
                    · refine lv_aload_n hx hb dX12_day_201 rfl (lv_at hl 0 rfl) ?_
                      refine m_get hX hw cl12 hT1 24 (by decide) k_898 (fun _ h => h) (v := .int _) rfl dX12_day_202 ?_
                      refine lv_goto (tgt := 209) hx hb dX12_day_205 (by decide) ?_
                      exact kM27 _ _ (by first | rfl | rw [if_neg hc29] | simp only [if_neg hc29]) (lv_sub hl [0] rfl)
                  refine lv_if_le (tgt := 181) hx hb dX12_day_171 (by decide) (fun hc30 => ?_) (fun hc30 => ?_)
                  · refine lv_iconst (v := 0) hx hb dX12_day_181 (by decide) ?_
                    exact kM25 _ _ (by first | rfl | rw [if_pos hc30] | simp only [if_pos hc30]) (lv_sub hl [0, 1] rfl)
                  · refine lv_aload_n hx hb dX12_day_174 rfl (lv_at hl 0 rfl) ?_
                    refine m_get hX hw cl12 hT1 20 (by decide) k_894 (fun _ h => h) (v := .int _) rfl dX12_day_175 ?_
                    refine lv_goto (tgt := 182) hx hb dX12_day_178 (by decide) ?_
                    exact kM25 _ _ (by first | rfl | rw [if_neg hc30] | simp only [if_neg hc30]) (lv_sub hl [0, 1] rfl)
                refine lv_icmp_ge (tgt := 163) hx hb dX12_day_155 (by decide) (fun hc31 => ?_) (fun hc31 => ?_)
                · refine lv_iload hx hb dX12_day_163 (lv_at hl 1 rfl) ?_
                  exact kM22 _ _ (by first | rfl | rw [if_pos hc31] | simp only [if_pos hc31]) (lv_sub hl [2, 3] rfl)
                · refine lv_iload hx hb dX12_day_158 (lv_at hl 0 rfl) ?_
                  refine lv_goto (tgt := 165) hx hb dX12_day_160 (by decide) ?_
                  exact kM22 _ _ (by first | rfl | rw [if_neg hc31] | simp only [if_neg hc31]) (lv_sub hl [2, 3] rfl)
              refine lv_if_eq (tgt := 147) hx hb dX12_day_139 (by decide) (fun hc32 => ?_) (fun hc32 => ?_)
              · refine lv_iconst (v := 0) hx hb dX12_day_147 (by decide) ?_
                exact kM20 _ _ (by first | rfl | rw [if_pos hc32] | simp only [if_pos hc32]) (lv_sub hl [0, 1, 2] rfl)
              · refine lv_bipush (v := (-12)) hx hb dX12_day_142 (by decide) ?_
                refine lv_goto (tgt := 148) hx hb dX12_day_144 (by decide) ?_
                exact kM20 _ _ (by first | rfl | rw [if_neg hc32] | simp only [if_neg hc32]) (lv_sub hl [0, 1, 2] rfl)
            refine lv_icmp_ge (tgt := 112) hx hb dX12_day_104 (by decide) (fun hc33 => ?_) (fun hc33 => ?_)
            · refine lv_iload hx hb dX12_day_112 (lv_at hl 0 rfl) ?_
              exact kM15 _ _ (by first | rfl | rw [if_pos hc33] | simp only [if_pos hc33]) (lv_sub hl [1, 2, 3, 4] rfl)
            · refine lv_iload hx hb dX12_day_107 (lv_at hl 4 rfl) ?_
              refine lv_goto (tgt := 114) hx hb dX12_day_109 (by decide) ?_
              exact kM15 _ _ (by first | rfl | rw [if_neg hc33] | simp only [if_neg hc33]) (lv_sub hl [1, 2, 3, 4] rfl)
          refine lv_if_le (tgt := 96) hx hb dX12_day_88 (by decide) (fun hc34 => ?_) (fun hc34 => ?_)
          · refine lv_iconst (v := 0) hx hb dX12_day_96 (by decide) ?_
            exact kM13 _ _ (by first | rfl | rw [if_pos hc34] | simp only [if_pos hc34]) (lv_sub hl [0, 1, 2, 3] rfl)
          · refine lv_iload hx hb dX12_day_91 (lv_at hl 0 rfl) ?_
            refine lv_goto (tgt := 97) hx hb dX12_day_93 (by decide) ?_
            exact kM13 _ _ (by first | rfl | rw [if_neg hc34] | simp only [if_neg hc34]) (lv_sub hl [0, 1, 2, 3] rfl)
        refine lv_icmp_le (tgt := 80) hx hb dX12_day_70 (by decide) (fun hc35 => ?_) (fun hc35 => ?_)
        · refine lv_iload_n hx hb dX12_day_80 rfl (lv_at hl 2 rfl) ?_
          refine lv_iload hx hb dX12_day_81 (lv_at hl 0 rfl) ?_
          refine lv_iadd hx hb dX12_day_83 ?_
          exact kM11 _ _ (by first | rfl | rw [if_pos hc35] | simp only [if_pos hc35]) (lv_sub hl [1, 3, 4] rfl)
        · refine lv_aload_n hx hb dX12_day_73 rfl (lv_at hl 1 rfl) ?_
          refine m_get hX hw cl12 hT1 17 (by decide) k_891 (fun _ h => h) (v := .int _) rfl dX12_day_74 ?_
          refine lv_goto (tgt := 84) hx hb dX12_day_77 (by decide) ?_
          exact kM11 _ _ (by first | rfl | rw [if_neg hc35] | simp only [if_neg hc35]) (lv_sub hl [1, 3, 4] rfl)
      refine lv_icmp_ne (tgt := 58) hx hb dX12_day_50 (by decide) (fun hc36 => ?_) (fun hc36 => ?_)
      · refine lv_iconst (v := 0) hx hb dX12_day_58 (by decide) ?_
        exact kM8 _ _ (by first | rfl | rw [if_neg hc36] | simp only [if_neg hc36]) (lv_sub hl [0, 1, 2, 3, 4] rfl)
      · refine lv_iload hx hb dX12_day_53 (lv_at hl 3 rfl) ?_
        refine lv_goto (tgt := 59) hx hb dX12_day_55 (by decide) ?_
        exact kM8 _ _ (by first | rfl | rw [if_pos hc36] | simp only [if_pos hc36]) (lv_sub hl [0, 1, 2, 3, 4] rfl)
    refine lv_if_ne (tgt := 27) hx hb dX12_day_20 (by decide) (fun hc37 => ?_) (fun hc37 => ?_)
    · refine lv_aload_n hx hb dX12_day_27 rfl (lv_at hl 1 rfl) ?_
      refine m_get hX hw cl12 hT1 18 (by decide) k_892 (fun _ h => h) (v := .int _) rfl dX12_day_28 ?_
      refine lv_iconst (v := 1) hx hb dX12_day_31 (by decide) ?_
      refine lv_icmp_ne (tgt := 40) hx hb dX12_day_32 (by decide) (fun hc38 => ?_) (fun hc38 => ?_)
      · refine lv_iload_n hx hb dX12_day_40 rfl (lv_at hl 3 rfl) ?_
        exact kM5 _ _ (by first | rfl | rw [if_neg hc37, if_neg hc38] | simp only [if_neg hc37, if_neg hc38]) (lv_sub hl [0, 1, 2, 4, 5] rfl)
      · refine lv_iload hx hb dX12_day_35 (lv_at hl 4 rfl) ?_
        refine lv_goto (tgt := 41) hx hb dX12_day_37 (by decide) ?_
        exact kM5 _ _ (by first | rfl | rw [if_neg hc37, if_pos hc38] | simp only [if_neg hc37, if_pos hc38]) (lv_sub hl [0, 1, 2, 4, 5] rfl)
    · refine lv_iconst (v := 0) hx hb dX12_day_23 (by decide) ?_
      refine lv_goto (tgt := 41) hx hb dX12_day_24 (by decide) ?_
      exact kM5 _ _ (by first | rfl | rw [if_pos hc37] | simp only [if_pos hc37]) (lv_sub hl [0, 1, 2, 4, 5] rfl)
  refine lv_if_ne (tgt := 12) hx hb dX12_day_4 (by decide) (fun hc39 => ?_) (fun hc39 => ?_)
  · refine lv_iload_n hx hb dX12_day_12 rfl (lv_at hl 2 rfl) ?_
    exact kM3 _ _ (by first | rfl | rw [if_neg hc39] | simp only [if_neg hc39]) (lv_sub hl [0, 1, 3, 4, 5] rfl)
  · refine lv_iload hx hb dX12_day_7 (lv_at hl 4 rfl) ?_
    refine lv_goto (tgt := 13) hx hb dX12_day_9 (by decide) ?_
    exact kM3 _ _ (by first | rfl | rw [if_pos hc39] | simp only [if_pos hc39]) (lv_sub hl [0, 1, 3, 4, 5] rfl)
theorem mtX12_day : Mth yX12_day cX12_day 10 none 5 := ⟨k_1191, k_50, by decide +kernel⟩
theorem tX12_day {l : Launch} {D : va_G} {cA : Nat → ClassId} {z0 : Nat} {σ : Me} {a0 : Nat} {x1 : Int32} {x2 : Int32} {x3 : Int32} {x4 : Int32} {x5 : Int32} {Q : Me → Prop} (h : pX12_day σ a0 x1 x2 x3 x4 x5 Q) : Met l yX12_day (Cond.code yX12_day cX12_day 10 none :: gTab) rX12_day (PcM D cA z0 σ [.ref a0, .int x1, .int x2, .int x3, .int x4, .int x5]) (va_Qv Q (BM D cA z0) (AM z0)) 0 0 (AM z0) :=
  met_of (by decide) (Nat.le_of_ble_eq_true rfl) (fun hX hlk hr hn hw hl => wX12_day hX hlk hr h hw hl)
abbrev rX12_put : Room := { frames := 0, cells := 0, slots := 0, locals := 0 }
def pX12_put (σ : Me) (a0 : Nat) (x1 : Int32) (y2 : Int64) (Q : Me → Prop) : Prop := gT σ a0 = 12 ∧ ∃ b2 : Nat, gP σ a0 37 = some b2 ∧ gT σ b2 = 20 ∧ vp_in x1 (gN σ b2) ∧ ∃ J63 : Me → Prop, (∀ (σ21 : Me), J63 σ21 → gT σ21 a0 = 12 ∧ ∃ b23 : Nat, gP σ21 a0 34 = some b23 ∧ ∃ b24 : Nat, gP σ21 a0 36 = some b24 ∧ gT σ21 b24 = 20 ∧ vp_in x1 (gN σ21 b24) ∧ gT σ21 b23 = 21 ∧ vp_in (gI σ21 b24 x1.toNatClampNeg) (gN σ21 b23) ∧ vp_in (gI σ21 b24 x1.toNatClampNeg) (gN σ21 b23) ∧ ∀ σ30 : Me, σ30 = sL σ21 b23 (gI σ21 b24 x1.toNatClampNeg).toNatClampNeg ((gL σ21 b23 (gI σ21 b24 x1.toNatClampNeg).toNatClampNeg) + y2) → Q σ30) ∧ (((gI σ b2 x1.toNatClampNeg) = (gI σ a0 38) → J63 σ) ∧ (¬ (gI σ b2 x1.toNatClampNeg) = (gI σ a0 38) → vp_in x1 (gN σ b2) ∧ ∀ σ7 : Me, σ7 = sI σ b2 x1.toNatClampNeg (gI σ a0 38) → ∃ b8 : Nat, gP σ7 a0 36 = some b8 ∧ gT σ7 b8 = 20 ∧ vp_in x1 (gN σ7 b8) ∧ ∀ σ11 : Me, σ11 = sI σ7 b8 x1.toNatClampNeg (gI σ7 a0 35) → ∃ b12 : Nat, gP σ11 a0 33 = some b12 ∧ gT σ11 b12 = 20 ∧ vp_in (gI σ11 a0 35) (gN σ11 b12) ∧ ∀ σ15 : Me, σ15 = sI σ11 b12 (gI σ11 a0 35).toNatClampNeg x1 → ∃ b16 : Nat, gP σ15 a0 34 = some b16 ∧ gT σ15 b16 = 21 ∧ vp_in (gI σ15 a0 35) (gN σ15 b16) ∧ ∀ σ19 : Me, σ19 = sL σ15 b16 (gI σ15 a0 35).toNatClampNeg ((0 : Int64)) → ∀ σ20 : Me, σ20 = sI σ19 a0 35 ((gI σ19 a0 35) + ((1 : Int32))) → J63 σ20))
set_option maxHeartbeats 4000000 in
set_option maxRecDepth 100000 in
theorem wX12_put {p : Program} {l : Launch} {e : Env} {s : State} {m : MethodId} {args : Array Value} {below : List Frame} {meth : Method} {c : Code} {D : va_G} {cA : Nat → ClassId} {z0 : Nat} (hX : Cx p m c cX12_put 4 s args RX12 D cA) (hlk : meth.locks = false) (hr : meth.sig.returnType = none) {σ : Me} {a0 : Nat} {x1 : Int32} {y2 : Int64} {Q : Me → Prop} (h : pX12_put σ a0 x1 y2 Q) {H : Heap} {locs : List Loc} {ls : Array Slot} (hw : wS D cA z0 s σ H locs) (hl : lv_has ls 4 [(0, .ref a0), (1, .int x1), (2, .long y2)]) : W p l e rX12_put s m args below meth c H locs 0 0 (MQ below (va_Qv Q (BM D cA z0) (AM z0)) args s 0 0 (AM z0)) (F0 m 0 ls []) := by
  have hx := hX.1.1
  have hb := hX.1.2.1
  have hown := hX.1.2.2.2.1
  have hts := hX.1.2.2.2.2
  unfold pX12_put at h
  refine lv_aload_n hx hb dX12_put_0 rfl (lv_at hl 0 rfl) ?_
  obtain ⟨hT1, h⟩ := h
  obtain ⟨b2, hb2, h⟩ := h
  refine m_get hX hw cl12 hT1 37 (by decide) k_911 (fun _ h => h) (v := .ref b2) (congrArg va_rf hb2) dX12_put_1 ?_
  refine lv_iload_n hx hb dX12_put_4 rfl (lv_at hl 1 rfl) ?_
  obtain ⟨hT3, h⟩ := h
  obtain ⟨hc4, h⟩ := h
  refine m_iald hX hw hT3 hc4 dX12_put_5 ?_
  refine lv_aload_n hx hb dX12_put_6 rfl (lv_at hl 0 rfl) ?_
  refine m_get hX hw cl12 hT1 38 (by decide) k_912 (fun _ h => h) (v := .int _) rfl dX12_put_7 ?_
  obtain ⟨J63, hJ63, h⟩ := h
  have kJ63 : ∀ (σ21 : Me) (H : Heap) (locs : List Loc) (ls : Array Slot), J63 σ21 → wS D cA z0 s σ21 H locs → lv_has ls 4 [(0, .ref a0), (1, .int x1), (2, .long y2)] → W p l e rX12_put s m args below meth c H locs 0 0 (MQ below (va_Qv Q (BM D cA z0) (AM z0)) args s 0 0 (AM z0)) (F0 m 63 ls []) := by
    intro σ21  H locs ls h hw hl
    have h := hJ63 _ h
    refine lv_aload_n hx hb dX12_put_63 rfl (lv_at hl 0 rfl) ?_
    obtain ⟨hT22, h⟩ := h
    obtain ⟨b23, hb23, h⟩ := h
    refine m_get hX hw cl12 hT22 34 (by decide) k_908 (fun _ h => h) (v := .ref b23) (congrArg va_rf hb23) dX12_put_64 ?_
    refine lv_aload_n hx hb dX12_put_67 rfl (lv_at hl 0 rfl) ?_
    obtain ⟨b24, hb24, h⟩ := h
    refine m_get hX hw cl12 hT22 36 (by decide) k_910 (fun _ h => h) (v := .ref b24) (congrArg va_rf hb24) dX12_put_68 ?_
    refine lv_iload_n hx hb dX12_put_71 rfl (lv_at hl 1 rfl) ?_
    obtain ⟨hT25, h⟩ := h
    obtain ⟨hc26, h⟩ := h
    refine m_iald hX hw hT25 hc26 dX12_put_72 ?_
    refine lv_dup2_11 hx hb dX12_put_73 rfl rfl ?_
    obtain ⟨hT27, h⟩ := h
    obtain ⟨hc28, h⟩ := h
    refine m_lald hX hw hT27 hc28 dX12_put_74 ?_
    refine lv_lload_n hx hb dX12_put_75 rfl (lv_at hl 2 rfl) ?_
    refine lv_ladd hx hb dX12_put_76 ?_
    obtain ⟨hc29, h⟩ := h
    refine m_last hX hw hT27 hc29 dX12_put_77 (fun H locs hw => ?_)
    let σ30 : Me := sL σ21 b23 (gI σ21 b24 x1.toNatClampNeg).toNatClampNeg ((gL σ21 b23 (gI σ21 b24 x1.toNatClampNeg).toNatClampNeg) + y2)
    have h := h σ30 rfl
    have hw : wS D cA z0 s σ30 H locs := hw
    exact m_vret hX hlk hr hw h dX12_put_78
  refine lv_icmp_eq (tgt := 63) hx hb dX12_put_10 (by decide) (fun hc5 => ?_) (fun hc5 => ?_)
  · have h := h.1 hc5
    exact kJ63 _ _ _ _ h hw (lv_sub hl [0, 1, 2] rfl)
  · have h := h.2 hc5
    refine lv_aload_n hx hb dX12_put_13 rfl (lv_at hl 0 rfl) ?_
    refine m_get hX hw cl12 hT1 37 (by decide) k_911 (fun _ h => h) (v := .ref b2) (congrArg va_rf hb2) dX12_put_14 ?_
    refine lv_iload_n hx hb dX12_put_17 rfl (lv_at hl 1 rfl) ?_
    refine lv_aload_n hx hb dX12_put_18 rfl (lv_at hl 0 rfl) ?_
    refine m_get hX hw cl12 hT1 38 (by decide) k_912 (fun _ h => h) (v := .int _) rfl dX12_put_19 ?_
    obtain ⟨hc6, h⟩ := h
    refine m_iast hX hw hT3 hc6 dX12_put_22 (fun H locs hw => ?_)
    let σ7 : Me := sI σ b2 x1.toNatClampNeg (gI σ a0 38)
    have h := h σ7 rfl
    have hw : wS D cA z0 s σ7 H locs := hw
    refine lv_aload_n hx hb dX12_put_23 rfl (lv_at hl 0 rfl) ?_
    obtain ⟨b8, hb8, h⟩ := h
    refine m_get hX hw cl12 hT1 36 (by decide) k_910 (fun _ h => h) (v := .ref b8) (congrArg va_rf hb8) dX12_put_24 ?_
    refine lv_iload_n hx hb dX12_put_27 rfl (lv_at hl 1 rfl) ?_
    refine lv_aload_n hx hb dX12_put_28 rfl (lv_at hl 0 rfl) ?_
    refine m_get hX hw cl12 hT1 35 (by decide) k_909 (fun _ h => h) (v := .int _) rfl dX12_put_29 ?_
    obtain ⟨hT9, h⟩ := h
    obtain ⟨hc10, h⟩ := h
    refine m_iast hX hw hT9 hc10 dX12_put_32 (fun H locs hw => ?_)
    let σ11 : Me := sI σ7 b8 x1.toNatClampNeg (gI σ7 a0 35)
    have h := h σ11 rfl
    have hw : wS D cA z0 s σ11 H locs := hw
    refine lv_aload_n hx hb dX12_put_33 rfl (lv_at hl 0 rfl) ?_
    obtain ⟨b12, hb12, h⟩ := h
    refine m_get hX hw cl12 hT1 33 (by decide) k_907 (fun _ h => h) (v := .ref b12) (congrArg va_rf hb12) dX12_put_34 ?_
    refine lv_aload_n hx hb dX12_put_37 rfl (lv_at hl 0 rfl) ?_
    refine m_get hX hw cl12 hT1 35 (by decide) k_909 (fun _ h => h) (v := .int _) rfl dX12_put_38 ?_
    refine lv_iload_n hx hb dX12_put_41 rfl (lv_at hl 1 rfl) ?_
    obtain ⟨hT13, h⟩ := h
    obtain ⟨hc14, h⟩ := h
    refine m_iast hX hw hT13 hc14 dX12_put_42 (fun H locs hw => ?_)
    let σ15 : Me := sI σ11 b12 (gI σ11 a0 35).toNatClampNeg x1
    have h := h σ15 rfl
    have hw : wS D cA z0 s σ15 H locs := hw
    refine lv_aload_n hx hb dX12_put_43 rfl (lv_at hl 0 rfl) ?_
    obtain ⟨b16, hb16, h⟩ := h
    refine m_get hX hw cl12 hT1 34 (by decide) k_908 (fun _ h => h) (v := .ref b16) (congrArg va_rf hb16) dX12_put_44 ?_
    refine lv_aload_n hx hb dX12_put_47 rfl (lv_at hl 0 rfl) ?_
    refine m_get hX hw cl12 hT1 35 (by decide) k_909 (fun _ h => h) (v := .int _) rfl dX12_put_48 ?_
    refine lv_lconst (v := 0) hx hb dX12_put_51 (by decide) ?_
    obtain ⟨hT17, h⟩ := h
    obtain ⟨hc18, h⟩ := h
    refine m_last hX hw hT17 hc18 dX12_put_52 (fun H locs hw => ?_)
    let σ19 : Me := sL σ15 b16 (gI σ15 a0 35).toNatClampNeg ((0 : Int64))
    have h := h σ19 rfl
    have hw : wS D cA z0 s σ19 H locs := hw
    refine lv_aload_n hx hb dX12_put_53 rfl (lv_at hl 0 rfl) ?_
    refine lv_dup hx hb dX12_put_54 rfl ?_
    refine m_get hX hw cl12 hT1 35 (by decide) k_909 (fun _ h => h) (v := .int _) rfl dX12_put_55 ?_
    refine lv_iconst (v := 1) hx hb dX12_put_58 (by decide) ?_
    refine lv_iadd hx hb dX12_put_59 ?_
    refine m_putI hX hw cl12 hT1 35 (by decide) k_909 (fun _ h => h) rfl rfl dX12_put_60 (fun H locs hw => ?_)
    let σ20 : Me := sI σ19 a0 35 ((gI σ19 a0 35) + ((1 : Int32)))
    have h := h σ20 rfl
    have hw : wS D cA z0 s σ20 H locs := hw
    exact kJ63 _ _ _ _ h hw (lv_sub hl [0, 1, 2] rfl)
theorem mtX12_put : Mth yX12_put cX12_put 4 none 2 := ⟨k_1195, k_50, by decide +kernel⟩
theorem tX12_put {l : Launch} {D : va_G} {cA : Nat → ClassId} {z0 : Nat} {σ : Me} {a0 : Nat} {x1 : Int32} {y2 : Int64} {Q : Me → Prop} (h : pX12_put σ a0 x1 y2 Q) : Met l yX12_put (Cond.code yX12_put cX12_put 4 none :: gTab) rX12_put (PcM D cA z0 σ [.ref a0, .int x1, .long y2]) (va_Qv Q (BM D cA z0) (AM z0)) 0 0 (AM z0) :=
  met_of (by decide) (Nat.le_of_ble_eq_true rfl) (fun hX hlk hr hn hw hl => wX12_put hX hlk hr h hw hl)
abbrev rX12_stateOf : Room := { frames := 0, cells := 0, slots := 0, locals := 0 }
def pX12_stateOf (σ : Me) (x0 : Int32) (x1 : Int32) (x2 : Int32) (Q : Int32 → Me → Prop) : Prop := Q (((((625 : Int32)) * (x0 + ((12 : Int32)))) + (((25 : Int32)) * x1)) + x2) σ
set_option maxHeartbeats 4000000 in
set_option maxRecDepth 100000 in
theorem wX12_stateOf {p : Program} {l : Launch} {e : Env} {s : State} {m : MethodId} {args : Array Value} {below : List Frame} {meth : Method} {c : Code} {D : va_G} {cA : Nat → ClassId} {z0 : Nat} (hX : Cx p m c cX12_stateOf 3 s args RX12 D cA) (hlk : meth.locks = false) (hr : meth.sig.returnType = (some .int)) {σ : Me} {x0 : Int32} {x1 : Int32} {x2 : Int32} {Q : Int32 → Me → Prop} (h : pX12_stateOf σ x0 x1 x2 Q) {H : Heap} {locs : List Loc} {ls : Array Slot} (hw : wS D cA z0 s σ H locs) (hl : lv_has ls 3 [(0, .int x0), (1, .int x1), (2, .int x2)]) : W p l e rX12_stateOf s m args below meth c H locs 0 0 (MQ below (va_Qi Q (BM D cA z0) (AM z0)) args s 0 0 (AM z0)) (F0 m 0 ls []) := by
  have hx := hX.1.1
  have hb := hX.1.2.1
  have hown := hX.1.2.2.2.1
  have hts := hX.1.2.2.2.2
  unfold pX12_stateOf at h
  refine lv_sipush (v := 625) hx hb dX12_stateOf_0 (by decide) ?_
  refine lv_iload_n hx hb dX12_stateOf_3 rfl (lv_at hl 0 rfl) ?_
  refine lv_bipush (v := 12) hx hb dX12_stateOf_4 (by decide) ?_
  refine lv_iadd hx hb dX12_stateOf_6 ?_
  refine lv_imul hx hb dX12_stateOf_7 ?_
  refine lv_bipush (v := 25) hx hb dX12_stateOf_8 (by decide) ?_
  refine lv_iload_n hx hb dX12_stateOf_10 rfl (lv_at hl 1 rfl) ?_
  refine lv_imul hx hb dX12_stateOf_11 ?_
  refine lv_iadd hx hb dX12_stateOf_12 ?_
  refine lv_iload_n hx hb dX12_stateOf_13 rfl (lv_at hl 2 rfl) ?_
  refine lv_iadd hx hb dX12_stateOf_14 ?_
  exact m_iret hX hlk hr hw h dX12_stateOf_15
theorem mtX12_stateOf : Mth yX12_stateOf cX12_stateOf 3 (some .int) 3 := ⟨k_1183, k_50, by decide +kernel⟩
theorem tX12_stateOf {l : Launch} {D : va_G} {cA : Nat → ClassId} {z0 : Nat} {σ : Me} {x0 : Int32} {x1 : Int32} {x2 : Int32} {Q : Int32 → Me → Prop} (h : pX12_stateOf σ x0 x1 x2 Q) : Met l yX12_stateOf (Cond.code yX12_stateOf cX12_stateOf 3 (some .int) :: gTab) rX12_stateOf (PcM D cA z0 σ [.int x0, .int x1, .int x2]) (va_Qi Q (BM D cA z0) (AM z0)) 0 0 (AM z0) :=
  met_of (by decide) (Nat.le_of_ble_eq_true rfl) (fun hX hlk hr hn hw hl => wX12_stateOf hX hlk hr h hw hl)
abbrev rX12_goOn : Room := { frames := 2, cells := 0, slots := 0, locals := 45 }
def pX12_goOn (σ : Me) (a0 : Nat) (x1 : Int32) (x2 : Int32) (x3 : Int32) (x4 : Int32) (Q : Me → Prop) : Prop := gT σ a0 = 12 ∧ ∃ b2 : Nat, gP σ a0 30 = some b2 ∧ gT σ b2 = 20 ∧ vp_in x1 (gN σ b2) ∧ ∀ x5_5 : Int32, x5_5 = (((gI σ b2 x1.toNatClampNeg) / ((625 : Int32))) - ((12 : Int32))) → vp_in x1 (gN σ b2) ∧ ∀ x6_7 : Int32, x6_7 = (((gI σ b2 x1.toNatClampNeg) / ((25 : Int32))) - ((gI σ b2 x1.toNatClampNeg) / ((25 : Int32))) / ((25 : Int32)) * ((25 : Int32))) → vp_in x1 (gN σ b2) ∧ ∀ x7_9 : Int32, x7_9 = ((gI σ b2 x1.toNatClampNeg) - (gI σ b2 x1.toNatClampNeg) / ((25 : Int32)) * ((25 : Int32))) → pX12_orders σ a0 x2 ((x5_5 + x6_7) + x7_9) (fun r10 σ11 => ∃ I58 : Nat → Me → Int32 → Prop, (∀ (n58 : Nat) (σ12 : Me) (x9_13 : Int32), I58 n58 σ12 x9_13 → (((7 : Int32)) ≤ x9_13 → Q σ12) ∧ (¬ ((7 : Int32)) ≤ x9_13 → gT σ12 a0 = 12 ∧ ∃ b17 : Nat, gP σ12 a0 5 = some b17 ∧ gT σ12 b17 = 20 ∧ vp_in ((((7 : Int32)) * x3) + x9_13) (gN σ12 b17) ∧ ∀ x10_20 : Int32, x10_20 = (gI σ12 b17 ((((7 : Int32)) * x3) + x9_13).toNatClampNeg) → (x10_20 ≤ 0 → ∀ x9_22 : Int32, x9_22 = x9_13 + 1 → ∃ m58 : Nat, m58 < n58 ∧ I58 m58 σ12 x9_22) ∧ (¬ x10_20 ≤ 0 → pX12_day σ12 a0 x5_5 x6_7 x7_9 r10 x9_13 (fun σ24 => (x4 = 0 → gT σ24 a0 = 12 ∧ ∃ b28 : Nat, gP σ24 a0 31 = some b28 ∧ gT σ24 b28 = 21 ∧ vp_in x1 (gN σ24 b28) ∧ ∀ x11_31 : Int64, x11_31 = ((gL σ24 b28 x1.toNatClampNeg) * x10_20.toInt64) → ∀ σ32 : Me, σ32 = sL σ24 a0 39 ((gL σ24 a0 39) + (x11_31 * ((gI σ24 a0 27).toInt64))) → ∀ σ33 : Me, σ33 = sL σ32 a0 40 ((gL σ32 a0 40) + (x11_31 * ((gI σ32 a0 28).toInt64))) → ∀ σ34 : Me, σ34 = sL σ33 a0 41 ((gL σ33 a0 41) + (x11_31 * x9_13.toInt64)) → ∀ v_35 : Int64, v_35 = (if (gI σ34 a0 24) ≤ 0 then ((0 : Int64)) else x11_31) → ∀ σ37 : Me, σ37 = sL σ34 a0 42 ((gL σ34 a0 42) + v_35) → pX12_stateOf σ37 (gI σ37 a0 24) (gI σ37 a0 25) (gI σ37 a0 26) (fun r38 σ39 => gT σ39 a0 = 12 ∧ pX12_put σ39 a0 r38 x11_31 (fun σ41 => ∀ x9_43 : Int32, x9_43 = x9_13 + 1 → ∃ m58 : Nat, m58 < n58 ∧ I58 m58 σ41 x9_43))) ∧ (¬ x4 = 0 → gT σ24 a0 = 12 ∧ ((gI σ24 a0 29) = 0 → ∃ b48 : Nat, gP σ24 a0 31 = some b48 ∧ gT σ24 b48 = 21 ∧ vp_in x1 (gN σ24 b48) ∧ ∀ x11_51 : Int64, x11_51 = ((gL σ24 b48 x1.toNatClampNeg) * x10_20.toInt64) → ∀ σ52 : Me, σ52 = sL σ24 a0 39 ((gL σ24 a0 39) + (x11_51 * ((gI σ24 a0 27).toInt64))) → ∀ σ53 : Me, σ53 = sL σ52 a0 40 ((gL σ52 a0 40) + (x11_51 * ((gI σ52 a0 28).toInt64))) → ∀ σ54 : Me, σ54 = sL σ53 a0 41 ((gL σ53 a0 41) + (x11_51 * x9_13.toInt64)) → ∀ v_55 : Int64, v_55 = (if (gI σ54 a0 24) ≤ 0 then ((0 : Int64)) else x11_51) → ∀ σ57 : Me, σ57 = sL σ54 a0 42 ((gL σ54 a0 42) + v_55) → pX12_stateOf σ57 (gI σ57 a0 24) (gI σ57 a0 25) (gI σ57 a0 26) (fun r58 σ59 => gT σ59 a0 = 12 ∧ pX12_put σ59 a0 r58 x11_51 (fun σ61 => ∀ x9_63 : Int32, x9_63 = x9_13 + 1 → ∃ m58 : Nat, m58 < n58 ∧ I58 m58 σ61 x9_63))) ∧ (¬ (gI σ24 a0 29) = 0 → ∀ x9_47 : Int32, x9_47 = x9_13 + 1 → ∃ m58 : Nat, m58 < n58 ∧ I58 m58 σ24 x9_47)))))) ∧ ∃ n58 : Nat, I58 n58 σ11 ((0 : Int32)))
set_option maxHeartbeats 4000000 in
set_option maxRecDepth 100000 in
theorem wX12_goOn {p : Program} {l : Launch} {e : Env} {s : State} {m : MethodId} {args : Array Value} {below : List Frame} {meth : Method} {c : Code} {D : va_G} {cA : Nat → ClassId} {z0 : Nat} (hX : Cx p m c cX12_goOn 13 s args RX12 D cA) (hlk : meth.locks = false) (hr : meth.sig.returnType = none) {σ : Me} {a0 : Nat} {x1 : Int32} {x2 : Int32} {x3 : Int32} {x4 : Int32} {Q : Me → Prop} (h : pX12_goOn σ a0 x1 x2 x3 x4 Q) {H : Heap} {locs : List Loc} {ls : Array Slot} (hw : wS D cA z0 s σ H locs) (hl : lv_has ls 13 [(0, .ref a0), (1, .int x1), (2, .int x2), (3, .int x3), (4, .int x4)]) : W p l e rX12_goOn s m args below meth c H locs 0 0 (MQ below (va_Qv Q (BM D cA z0) (AM z0)) args s 0 0 (AM z0)) (F0 m 0 ls []) := by
  have hx := hX.1.1
  have hb := hX.1.2.1
  have hown := hX.1.2.2.2.1
  have hts := hX.1.2.2.2.2
  unfold pX12_goOn at h
  refine lv_aload_n hx hb dX12_goOn_0 rfl (lv_at hl 0 rfl) ?_
  obtain ⟨hT1, h⟩ := h
  obtain ⟨b2, hb2, h⟩ := h
  refine m_get hX hw cl12 hT1 30 (by decide) k_904 (fun _ h => h) (v := .ref b2) (congrArg va_rf hb2) dX12_goOn_1 ?_
  refine lv_iload_n hx hb dX12_goOn_4 rfl (lv_at hl 1 rfl) ?_
  obtain ⟨hT3, h⟩ := h
  obtain ⟨hc4, h⟩ := h
  refine m_iald hX hw hT3 hc4 dX12_goOn_5 ?_
  refine lv_sipush (v := 625) hx hb dX12_goOn_6 (by decide) ?_
  refine lv_idiv hx hb dX12_goOn_9 (by decide) ?_
  refine lv_bipush (v := 12) hx hb dX12_goOn_10 (by decide) ?_
  refine lv_isub hx hb dX12_goOn_12 ?_
  refine lv_topi (fun x5_5 e_x5_5 => ?_)
  have h := h x5_5 e_x5_5
  refine lv_istore (lv' := [(5, _), (0, _), (1, _), (2, _), (3, _), (4, _)]) hx hb dX12_goOn_13 hl (by decide) rfl (fun ls hl => ?_)
  refine lv_aload_n hx hb dX12_goOn_15 rfl (lv_at hl 1 rfl) ?_
  refine m_get hX hw cl12 hT1 30 (by decide) k_904 (fun _ h => h) (v := .ref b2) (congrArg va_rf hb2) dX12_goOn_16 ?_
  refine lv_iload_n hx hb dX12_goOn_19 rfl (lv_at hl 2 rfl) ?_
  obtain ⟨hc6, h⟩ := h
  refine m_iald hX hw hT3 hc6 dX12_goOn_20 ?_
  refine lv_bipush (v := 25) hx hb dX12_goOn_21 (by decide) ?_
  refine lv_idiv hx hb dX12_goOn_23 (by decide) ?_
  refine lv_bipush (v := 25) hx hb dX12_goOn_24 (by decide) ?_
  refine lv_irem hx hb dX12_goOn_26 (by decide) ?_
  refine lv_topi (fun x6_7 e_x6_7 => ?_)
  have h := h x6_7 e_x6_7
  refine lv_istore (lv' := [(6, _), (5, _), (0, _), (1, _), (2, _), (3, _), (4, _)]) hx hb dX12_goOn_27 hl (by decide) rfl (fun ls hl => ?_)
  refine lv_aload_n hx hb dX12_goOn_29 rfl (lv_at hl 2 rfl) ?_
  refine m_get hX hw cl12 hT1 30 (by decide) k_904 (fun _ h => h) (v := .ref b2) (congrArg va_rf hb2) dX12_goOn_30 ?_
  refine lv_iload_n hx hb dX12_goOn_33 rfl (lv_at hl 3 rfl) ?_
  obtain ⟨hc8, h⟩ := h
  refine m_iald hX hw hT3 hc8 dX12_goOn_34 ?_
  refine lv_bipush (v := 25) hx hb dX12_goOn_35 (by decide) ?_
  refine lv_irem hx hb dX12_goOn_37 (by decide) ?_
  refine lv_topi (fun x7_9 e_x7_9 => ?_)
  have h := h x7_9 e_x7_9
  refine lv_istore (lv' := [(7, _), (6, _), (5, _), (0, _), (1, _), (2, _), (3, _), (4, _)]) hx hb dX12_goOn_38 hl (by decide) rfl (fun ls hl => ?_)
  refine lv_aload_n hx hb dX12_goOn_40 rfl (lv_at hl 3 rfl) ?_
  refine lv_iload_n hx hb dX12_goOn_41 rfl (lv_at hl 5 rfl) ?_
  refine lv_iload hx hb dX12_goOn_42 (lv_at hl 2 rfl) ?_
  refine lv_iload hx hb dX12_goOn_44 (lv_at hl 1 rfl) ?_
  refine lv_iadd hx hb dX12_goOn_46 ?_
  refine lv_iload hx hb dX12_goOn_47 (lv_at hl 0 rfl) ?_
  refine lv_iadd hx hb dX12_goOn_49 ?_
  refine m_ci (m_runV (rest := []) hX hw (tX12_orders h) mtX12_orders k_1149 ⟨k_1151, k_30⟩ cl12 hT1 ⟨⟨rfl, rfl, Nat.le_of_ble_eq_true rfl, Nat.le_of_ble_eq_true rfl⟩, Nat.le_of_ble_eq_true rfl, Nat.le_of_ble_eq_true rfl⟩ rfl hl.1 rfl (Nat.le_of_ble_eq_true rfl) dX12_goOn_50) hw (fun r10 σ11 H locs h hw => ?_)
  refine lv_istore (lv' := [(8, _), (7, _), (6, _), (5, _), (0, _), (1, _), (2, _), (3, _), (4, _)]) hx hb dX12_goOn_53 hl (by decide) rfl (fun ls hl => ?_)
  refine lv_iconst (v := 0) hx hb dX12_goOn_55 (by decide) ?_
  refine lv_istore (lv' := [(9, _), (8, _), (7, _), (6, _), (5, _), (0, _), (1, _), (2, _), (3, _), (4, _)]) hx hb dX12_goOn_56 hl (by decide) rfl (fun ls hl => ?_)
  obtain ⟨I58, hI58, n58, h⟩ := h
  have key58 : ∀ (n58 : Nat) (σ12 : Me) (x9_13 : Int32) (H : Heap) (locs : List Loc) (ls : Array Slot), I58 n58 σ12 x9_13 → wS D cA z0 s σ12 H locs → lv_has ls 13 [(0, .ref a0), (1, .int x1), (3, .int x3), (4, .int x4), (5, .int x5_5), (6, .int x6_7), (7, .int x7_9), (8, .int r10), (9, .int x9_13)] → W p l e rX12_goOn s m args below meth c H locs 0 0 (MQ below (va_Qv Q (BM D cA z0) (AM z0)) args s 0 0 (AM z0)) (F0 m 58 ls []) := by
    intro n58
    induction n58 using Nat.strongRecOn with
    | _ n58 ih58 =>
      intro σ12 x9_13 H locs ls h hw hl
      have h := hI58 _ _ _ h
      refine lv_iload hx hb dX12_goOn_58 (lv_at hl 8 rfl) ?_
      refine lv_bipush (v := 7) hx hb dX12_goOn_60 (by decide) ?_
      refine lv_icmp_ge (tgt := 220) hx hb dX12_goOn_62 (by decide) (fun hc15 => ?_) (fun hc15 => ?_)
      · have h := h.1 hc15
        exact m_vret hX hlk hr hw h dX12_goOn_220
      · have h := h.2 hc15
        refine lv_aload_n hx hb dX12_goOn_65 rfl (lv_at hl 0 rfl) ?_
        obtain ⟨hT16, h⟩ := h
        obtain ⟨b17, hb17, h⟩ := h
        refine m_get hX hw cl12 hT16 5 (by decide) k_879 (fun _ h => h) (v := .ref b17) (congrArg va_rf hb17) dX12_goOn_66 ?_
        refine lv_bipush (v := 7) hx hb dX12_goOn_69 (by decide) ?_
        refine lv_iload_n hx hb dX12_goOn_71 rfl (lv_at hl 2 rfl) ?_
        refine lv_imul hx hb dX12_goOn_72 ?_
        refine lv_iload hx hb dX12_goOn_73 (lv_at hl 8 rfl) ?_
        refine lv_iadd hx hb dX12_goOn_75 ?_
        obtain ⟨hT18, h⟩ := h
        obtain ⟨hc19, h⟩ := h
        refine m_iald hX hw hT18 hc19 dX12_goOn_76 ?_
        refine lv_topi (fun x10_20 e_x10_20 => ?_)
        have h := h x10_20 e_x10_20
        refine lv_istore (lv' := [(10, _), (0, _), (1, _), (3, _), (4, _), (5, _), (6, _), (7, _), (8, _), (9, _)]) hx hb dX12_goOn_77 hl (by decide) rfl (fun ls hl => ?_)
        refine lv_iload hx hb dX12_goOn_79 (lv_at hl 0 rfl) ?_
        refine lv_if_le (tgt := 214) hx hb dX12_goOn_81 (by decide) (fun hc21 => ?_) (fun hc21 => ?_)
        · have h := h.1 hc21
          obtain ⟨x9_22, e_x9_22⟩ : ∃ y : Int32, y = x9_13 + 1 := ⟨_, rfl⟩
          have h := h x9_22 e_x9_22
          refine lv_iinc (v := x9_22) (lv' := [(9, _), (10, _), (0, _), (1, _), (3, _), (4, _), (5, _), (6, _), (7, _), (8, _)]) hx hb dX12_goOn_214 hl (k := 9) rfl (by rw [e_x9_22]; rfl) (by decide) rfl (fun ls hl => ?_)
          refine lv_goto (tgt := 58) hx hb dX12_goOn_217 (by decide) ?_
          obtain ⟨m58, hm58, h⟩ := h
          exact ih58 m58 hm58 _ _ _ _ _ h hw (lv_sub hl [2, 3, 4, 5, 6, 7, 8, 9, 0] rfl)
        · have h := h.2 hc21
          refine lv_aload_n hx hb dX12_goOn_84 rfl (lv_at hl 1 rfl) ?_
          refine lv_iload hx hb dX12_goOn_85 (lv_at hl 5 rfl) ?_
          refine lv_iload hx hb dX12_goOn_87 (lv_at hl 6 rfl) ?_
          refine lv_iload hx hb dX12_goOn_89 (lv_at hl 7 rfl) ?_
          refine lv_iload hx hb dX12_goOn_91 (lv_at hl 8 rfl) ?_
          refine lv_iload hx hb dX12_goOn_93 (lv_at hl 9 rfl) ?_
          refine m_cv (m_runV (rest := []) hX hw (tX12_day h) mtX12_day k_1188 ⟨k_1190, k_36⟩ cl12 hT16 ⟨⟨rfl, rfl, Nat.le_of_ble_eq_true rfl, Nat.le_of_ble_eq_true rfl⟩, Nat.le_of_ble_eq_true rfl, Nat.le_of_ble_eq_true rfl⟩ rfl hl.1 rfl (Nat.le_of_ble_eq_true rfl) dX12_goOn_95) hw (fun σ24 H locs h hw => ?_)
          refine lv_iload hx hb dX12_goOn_98 (lv_at hl 4 rfl) ?_
          refine lv_if_eq (tgt := 110) hx hb dX12_goOn_100 (by decide) (fun hc26 => ?_) (fun hc26 => ?_)
          · have h := h.1 hc26
            refine lv_aload_n hx hb dX12_goOn_110 rfl (lv_at hl 1 rfl) ?_
            obtain ⟨hT27, h⟩ := h
            obtain ⟨b28, hb28, h⟩ := h
            refine m_get hX hw cl12 hT27 31 (by decide) k_905 (fun _ h => h) (v := .ref b28) (congrArg va_rf hb28) dX12_goOn_111 ?_
            refine lv_iload_n hx hb dX12_goOn_114 rfl (lv_at hl 2 rfl) ?_
            obtain ⟨hT29, h⟩ := h
            obtain ⟨hc30, h⟩ := h
            refine m_lald hX hw hT29 hc30 dX12_goOn_115 ?_
            refine lv_iload hx hb dX12_goOn_116 (lv_at hl 0 rfl) ?_
            refine lv_i2l hx hb dX12_goOn_118 rfl ?_
            refine lv_lmul hx hb dX12_goOn_119 ?_
            refine lv_topl (fun x11_31 e_x11_31 => ?_)
            have h := h x11_31 e_x11_31
            refine lv_lstore (lv' := [(11, _), (10, _), (0, _), (1, _), (3, _), (4, _), (5, _), (6, _), (7, _), (8, _), (9, _)]) hx hb dX12_goOn_120 hl (by decide) rfl (fun ls hl => ?_)
            refine lv_aload_n hx hb dX12_goOn_122 rfl (lv_at hl 2 rfl) ?_
            refine lv_dup hx hb dX12_goOn_123 rfl ?_
            refine m_get hX hw cl12 hT27 39 (by decide) k_913 (fun _ h => h) (v := .long _) rfl dX12_goOn_124 ?_
            refine lv_lload hx hb dX12_goOn_127 (lv_at hl 0 rfl) ?_
            refine lv_aload_n hx hb dX12_goOn_129 rfl (lv_at hl 2 rfl) ?_
            refine m_get hX hw cl12 hT27 27 (by decide) k_901 (fun _ h => h) (v := .int _) rfl dX12_goOn_130 ?_
            refine lv_i2l hx hb dX12_goOn_133 rfl ?_
            refine lv_lmul hx hb dX12_goOn_134 ?_
            refine lv_ladd hx hb dX12_goOn_135 ?_
            refine m_putL hX hw cl12 hT27 39 (by decide) k_913 (fun _ h => h) rfl rfl dX12_goOn_136 (fun H locs hw => ?_)
            let σ32 : Me := sL σ24 a0 39 ((gL σ24 a0 39) + (x11_31 * ((gI σ24 a0 27).toInt64)))
            have h := h σ32 rfl
            have hw : wS D cA z0 s σ32 H locs := hw
            refine lv_aload_n hx hb dX12_goOn_139 rfl (lv_at hl 2 rfl) ?_
            refine lv_dup hx hb dX12_goOn_140 rfl ?_
            refine m_get hX hw cl12 hT27 40 (by decide) k_914 (fun _ h => h) (v := .long _) rfl dX12_goOn_141 ?_
            refine lv_lload hx hb dX12_goOn_144 (lv_at hl 0 rfl) ?_
            refine lv_aload_n hx hb dX12_goOn_146 rfl (lv_at hl 2 rfl) ?_
            refine m_get hX hw cl12 hT27 28 (by decide) k_902 (fun _ h => h) (v := .int _) rfl dX12_goOn_147 ?_
            refine lv_i2l hx hb dX12_goOn_150 rfl ?_
            refine lv_lmul hx hb dX12_goOn_151 ?_
            refine lv_ladd hx hb dX12_goOn_152 ?_
            refine m_putL hX hw cl12 hT27 40 (by decide) k_914 (fun _ h => h) rfl rfl dX12_goOn_153 (fun H locs hw => ?_)
            let σ33 : Me := sL σ32 a0 40 ((gL σ32 a0 40) + (x11_31 * ((gI σ32 a0 28).toInt64)))
            have h := h σ33 rfl
            have hw : wS D cA z0 s σ33 H locs := hw
            refine lv_aload_n hx hb dX12_goOn_156 rfl (lv_at hl 2 rfl) ?_
            refine lv_dup hx hb dX12_goOn_157 rfl ?_
            refine m_get hX hw cl12 hT27 41 (by decide) k_915 (fun _ h => h) (v := .long _) rfl dX12_goOn_158 ?_
            refine lv_lload hx hb dX12_goOn_161 (lv_at hl 0 rfl) ?_
            refine lv_iload hx hb dX12_goOn_163 (lv_at hl 10 rfl) ?_
            refine lv_i2l hx hb dX12_goOn_165 rfl ?_
            refine lv_lmul hx hb dX12_goOn_166 ?_
            refine lv_ladd hx hb dX12_goOn_167 ?_
            refine m_putL hX hw cl12 hT27 41 (by decide) k_915 (fun _ h => h) rfl rfl dX12_goOn_168 (fun H locs hw => ?_)
            let σ34 : Me := sL σ33 a0 41 ((gL σ33 a0 41) + (x11_31 * x9_13.toInt64))
            have h := h σ34 rfl
            have hw : wS D cA z0 s σ34 H locs := hw
            refine lv_aload_n hx hb dX12_goOn_171 rfl (lv_at hl 2 rfl) ?_
            refine lv_dup hx hb dX12_goOn_172 rfl ?_
            refine m_get hX hw cl12 hT27 42 (by decide) k_916 (fun _ h => h) (v := .long _) rfl dX12_goOn_173 ?_
            refine lv_aload_n hx hb dX12_goOn_176 rfl (lv_at hl 2 rfl) ?_
            refine m_get hX hw cl12 hT27 24 (by decide) k_898 (fun _ h => h) (v := .int _) rfl dX12_goOn_177 ?_
            have kM36 : ∀ (v_35 : Int64) (ls : Array Slot), v_35 = (if (gI σ34 a0 24) ≤ 0 then ((0 : Int64)) else x11_31) → lv_has ls 13 [(11, .long x11_31), (0, .ref a0), (1, .int x1), (3, .int x3), (4, .int x4), (5, .int x5_5), (6, .int x6_7), (7, .int x7_9), (8, .int r10), (9, .int x9_13)] → W p l e rX12_goOn s m args below meth c H locs 0 0 (MQ below (va_Qv Q (BM D cA z0) (AM z0)) args s 0 0 (AM z0)) (F0 m 189 ls [.long v_35, .long (gL σ34 a0 42), .ref a0]) := by
              intro v_35 ls e_v_35 hl
              have h := h v_35 e_v_35
              refine lv_ladd hx hb dX12_goOn_189 ?_
              refine m_putL hX hw cl12 hT27 42 (by decide) k_916 (fun _ h => h) rfl rfl dX12_goOn_190 (fun H locs hw => ?_)
              let σ37 : Me := sL σ34 a0 42 ((gL σ34 a0 42) + v_35)
              have h := h σ37 rfl
              have hw : wS D cA z0 s σ37 H locs := hw
              refine lv_aload_n hx hb dX12_goOn_193 rfl (lv_at hl 1 rfl) ?_
              refine lv_aload_n hx hb dX12_goOn_194 rfl (lv_at hl 1 rfl) ?_
              refine m_get hX hw cl12 hT27 24 (by decide) k_898 (fun _ h => h) (v := .int _) rfl dX12_goOn_195 ?_
              refine lv_aload_n hx hb dX12_goOn_198 rfl (lv_at hl 1 rfl) ?_
              refine m_get hX hw cl12 hT27 25 (by decide) k_899 (fun _ h => h) (v := .int _) rfl dX12_goOn_199 ?_
              refine lv_aload_n hx hb dX12_goOn_202 rfl (lv_at hl 1 rfl) ?_
              refine m_get hX hw cl12 hT27 26 (by decide) k_900 (fun _ h => h) (v := .int _) rfl dX12_goOn_203 ?_
              refine m_ci (m_runS (rest := [_]) hX hw (tX12_stateOf h) mtX12_stateOf k_1181 k_1182 ⟨⟨rfl, rfl, Nat.le_of_ble_eq_true rfl, Nat.le_of_ble_eq_true rfl⟩, Nat.le_of_ble_eq_true rfl, Nat.le_of_ble_eq_true rfl⟩ rfl hl.1 rfl (Nat.le_of_ble_eq_true rfl) dX12_goOn_206) hw (fun r38 σ39 H locs h hw => ?_)
              refine lv_lload hx hb dX12_goOn_209 (lv_at hl 0 rfl) ?_
              obtain ⟨hT42, h⟩ := h
              refine m_cv (m_runV (rest := []) hX hw (tX12_put h) mtX12_put k_1192 ⟨k_1194, k_37⟩ cl12 hT42 ⟨⟨rfl, rfl, Nat.le_of_ble_eq_true rfl, Nat.le_of_ble_eq_true rfl⟩, Nat.le_of_ble_eq_true rfl, Nat.le_of_ble_eq_true rfl⟩ rfl hl.1 rfl (Nat.le_of_ble_eq_true rfl) dX12_goOn_211) hw (fun σ41 H locs h hw => ?_)
              obtain ⟨x9_43, e_x9_43⟩ : ∃ y : Int32, y = x9_13 + 1 := ⟨_, rfl⟩
              have h := h x9_43 e_x9_43
              refine lv_iinc (v := x9_43) (lv' := [(9, _), (11, _), (0, _), (1, _), (3, _), (4, _), (5, _), (6, _), (7, _), (8, _)]) hx hb dX12_goOn_214 hl (k := 9) rfl (by rw [e_x9_43]; rfl) (by decide) rfl (fun ls hl => ?_)
              refine lv_goto (tgt := 58) hx hb dX12_goOn_217 (by decide) ?_
              obtain ⟨m58, hm58, h⟩ := h
              exact ih58 m58 hm58 _ _ _ _ _ h hw (lv_sub hl [2, 3, 4, 5, 6, 7, 8, 9, 0] rfl)
            refine lv_if_le (tgt := 188) hx hb dX12_goOn_180 (by decide) (fun hc44 => ?_) (fun hc44 => ?_)
            · refine lv_lconst (v := 0) hx hb dX12_goOn_188 (by decide) ?_
              exact kM36 _ _ (by first | rfl | rw [if_pos hc44] | simp only [if_pos hc44]) (lv_sub hl [0, 2, 3, 4, 5, 6, 7, 8, 9, 10] rfl)
            · refine lv_lload hx hb dX12_goOn_183 (lv_at hl 0 rfl) ?_
              refine lv_goto (tgt := 189) hx hb dX12_goOn_185 (by decide) ?_
              exact kM36 _ _ (by first | rfl | rw [if_neg hc44] | simp only [if_neg hc44]) (lv_sub hl [0, 2, 3, 4, 5, 6, 7, 8, 9, 10] rfl)
          · have h := h.2 hc26
            refine lv_aload_n hx hb dX12_goOn_103 rfl (lv_at hl 1 rfl) ?_
            obtain ⟨hT45, h⟩ := h
            refine m_get hX hw cl12 hT45 29 (by decide) k_903 (fun _ h => h) (v := .int _) rfl dX12_goOn_104 ?_
            refine lv_if_ne (tgt := 214) hx hb dX12_goOn_107 (by decide) (fun hc46 => ?_) (fun hc46 => ?_)
            · have h := h.2 hc46
              obtain ⟨x9_47, e_x9_47⟩ : ∃ y : Int32, y = x9_13 + 1 := ⟨_, rfl⟩
              have h := h x9_47 e_x9_47
              refine lv_iinc (v := x9_47) (lv' := [(9, _), (10, _), (0, _), (1, _), (3, _), (4, _), (5, _), (6, _), (7, _), (8, _)]) hx hb dX12_goOn_214 hl (k := 9) rfl (by rw [e_x9_47]; rfl) (by decide) rfl (fun ls hl => ?_)
              refine lv_goto (tgt := 58) hx hb dX12_goOn_217 (by decide) ?_
              obtain ⟨m58, hm58, h⟩ := h
              exact ih58 m58 hm58 _ _ _ _ _ h hw (lv_sub hl [2, 3, 4, 5, 6, 7, 8, 9, 0] rfl)
            · have h := h.1 hc46
              refine lv_aload_n hx hb dX12_goOn_110 rfl (lv_at hl 1 rfl) ?_
              obtain ⟨b48, hb48, h⟩ := h
              refine m_get hX hw cl12 hT45 31 (by decide) k_905 (fun _ h => h) (v := .ref b48) (congrArg va_rf hb48) dX12_goOn_111 ?_
              refine lv_iload_n hx hb dX12_goOn_114 rfl (lv_at hl 2 rfl) ?_
              obtain ⟨hT49, h⟩ := h
              obtain ⟨hc50, h⟩ := h
              refine m_lald hX hw hT49 hc50 dX12_goOn_115 ?_
              refine lv_iload hx hb dX12_goOn_116 (lv_at hl 0 rfl) ?_
              refine lv_i2l hx hb dX12_goOn_118 rfl ?_
              refine lv_lmul hx hb dX12_goOn_119 ?_
              refine lv_topl (fun x11_51 e_x11_51 => ?_)
              have h := h x11_51 e_x11_51
              refine lv_lstore (lv' := [(11, _), (10, _), (0, _), (1, _), (3, _), (4, _), (5, _), (6, _), (7, _), (8, _), (9, _)]) hx hb dX12_goOn_120 hl (by decide) rfl (fun ls hl => ?_)
              refine lv_aload_n hx hb dX12_goOn_122 rfl (lv_at hl 2 rfl) ?_
              refine lv_dup hx hb dX12_goOn_123 rfl ?_
              refine m_get hX hw cl12 hT45 39 (by decide) k_913 (fun _ h => h) (v := .long _) rfl dX12_goOn_124 ?_
              refine lv_lload hx hb dX12_goOn_127 (lv_at hl 0 rfl) ?_
              refine lv_aload_n hx hb dX12_goOn_129 rfl (lv_at hl 2 rfl) ?_
              refine m_get hX hw cl12 hT45 27 (by decide) k_901 (fun _ h => h) (v := .int _) rfl dX12_goOn_130 ?_
              refine lv_i2l hx hb dX12_goOn_133 rfl ?_
              refine lv_lmul hx hb dX12_goOn_134 ?_
              refine lv_ladd hx hb dX12_goOn_135 ?_
              refine m_putL hX hw cl12 hT45 39 (by decide) k_913 (fun _ h => h) rfl rfl dX12_goOn_136 (fun H locs hw => ?_)
              let σ52 : Me := sL σ24 a0 39 ((gL σ24 a0 39) + (x11_51 * ((gI σ24 a0 27).toInt64)))
              have h := h σ52 rfl
              have hw : wS D cA z0 s σ52 H locs := hw
              refine lv_aload_n hx hb dX12_goOn_139 rfl (lv_at hl 2 rfl) ?_
              refine lv_dup hx hb dX12_goOn_140 rfl ?_
              refine m_get hX hw cl12 hT45 40 (by decide) k_914 (fun _ h => h) (v := .long _) rfl dX12_goOn_141 ?_
              refine lv_lload hx hb dX12_goOn_144 (lv_at hl 0 rfl) ?_
              refine lv_aload_n hx hb dX12_goOn_146 rfl (lv_at hl 2 rfl) ?_
              refine m_get hX hw cl12 hT45 28 (by decide) k_902 (fun _ h => h) (v := .int _) rfl dX12_goOn_147 ?_
              refine lv_i2l hx hb dX12_goOn_150 rfl ?_
              refine lv_lmul hx hb dX12_goOn_151 ?_
              refine lv_ladd hx hb dX12_goOn_152 ?_
              refine m_putL hX hw cl12 hT45 40 (by decide) k_914 (fun _ h => h) rfl rfl dX12_goOn_153 (fun H locs hw => ?_)
              let σ53 : Me := sL σ52 a0 40 ((gL σ52 a0 40) + (x11_51 * ((gI σ52 a0 28).toInt64)))
              have h := h σ53 rfl
              have hw : wS D cA z0 s σ53 H locs := hw
              refine lv_aload_n hx hb dX12_goOn_156 rfl (lv_at hl 2 rfl) ?_
              refine lv_dup hx hb dX12_goOn_157 rfl ?_
              refine m_get hX hw cl12 hT45 41 (by decide) k_915 (fun _ h => h) (v := .long _) rfl dX12_goOn_158 ?_
              refine lv_lload hx hb dX12_goOn_161 (lv_at hl 0 rfl) ?_
              refine lv_iload hx hb dX12_goOn_163 (lv_at hl 10 rfl) ?_
              refine lv_i2l hx hb dX12_goOn_165 rfl ?_
              refine lv_lmul hx hb dX12_goOn_166 ?_
              refine lv_ladd hx hb dX12_goOn_167 ?_
              refine m_putL hX hw cl12 hT45 41 (by decide) k_915 (fun _ h => h) rfl rfl dX12_goOn_168 (fun H locs hw => ?_)
              let σ54 : Me := sL σ53 a0 41 ((gL σ53 a0 41) + (x11_51 * x9_13.toInt64))
              have h := h σ54 rfl
              have hw : wS D cA z0 s σ54 H locs := hw
              refine lv_aload_n hx hb dX12_goOn_171 rfl (lv_at hl 2 rfl) ?_
              refine lv_dup hx hb dX12_goOn_172 rfl ?_
              refine m_get hX hw cl12 hT45 42 (by decide) k_916 (fun _ h => h) (v := .long _) rfl dX12_goOn_173 ?_
              refine lv_aload_n hx hb dX12_goOn_176 rfl (lv_at hl 2 rfl) ?_
              refine m_get hX hw cl12 hT45 24 (by decide) k_898 (fun _ h => h) (v := .int _) rfl dX12_goOn_177 ?_
              have kM56 : ∀ (v_55 : Int64) (ls : Array Slot), v_55 = (if (gI σ54 a0 24) ≤ 0 then ((0 : Int64)) else x11_51) → lv_has ls 13 [(11, .long x11_51), (0, .ref a0), (1, .int x1), (3, .int x3), (4, .int x4), (5, .int x5_5), (6, .int x6_7), (7, .int x7_9), (8, .int r10), (9, .int x9_13)] → W p l e rX12_goOn s m args below meth c H locs 0 0 (MQ below (va_Qv Q (BM D cA z0) (AM z0)) args s 0 0 (AM z0)) (F0 m 189 ls [.long v_55, .long (gL σ54 a0 42), .ref a0]) := by
                intro v_55 ls e_v_55 hl
                have h := h v_55 e_v_55
                refine lv_ladd hx hb dX12_goOn_189 ?_
                refine m_putL hX hw cl12 hT45 42 (by decide) k_916 (fun _ h => h) rfl rfl dX12_goOn_190 (fun H locs hw => ?_)
                let σ57 : Me := sL σ54 a0 42 ((gL σ54 a0 42) + v_55)
                have h := h σ57 rfl
                have hw : wS D cA z0 s σ57 H locs := hw
                refine lv_aload_n hx hb dX12_goOn_193 rfl (lv_at hl 1 rfl) ?_
                refine lv_aload_n hx hb dX12_goOn_194 rfl (lv_at hl 1 rfl) ?_
                refine m_get hX hw cl12 hT45 24 (by decide) k_898 (fun _ h => h) (v := .int _) rfl dX12_goOn_195 ?_
                refine lv_aload_n hx hb dX12_goOn_198 rfl (lv_at hl 1 rfl) ?_
                refine m_get hX hw cl12 hT45 25 (by decide) k_899 (fun _ h => h) (v := .int _) rfl dX12_goOn_199 ?_
                refine lv_aload_n hx hb dX12_goOn_202 rfl (lv_at hl 1 rfl) ?_
                refine m_get hX hw cl12 hT45 26 (by decide) k_900 (fun _ h => h) (v := .int _) rfl dX12_goOn_203 ?_
                refine m_ci (m_runS (rest := [_]) hX hw (tX12_stateOf h) mtX12_stateOf k_1181 k_1182 ⟨⟨rfl, rfl, Nat.le_of_ble_eq_true rfl, Nat.le_of_ble_eq_true rfl⟩, Nat.le_of_ble_eq_true rfl, Nat.le_of_ble_eq_true rfl⟩ rfl hl.1 rfl (Nat.le_of_ble_eq_true rfl) dX12_goOn_206) hw (fun r58 σ59 H locs h hw => ?_)
                refine lv_lload hx hb dX12_goOn_209 (lv_at hl 0 rfl) ?_
                obtain ⟨hT62, h⟩ := h
                refine m_cv (m_runV (rest := []) hX hw (tX12_put h) mtX12_put k_1192 ⟨k_1194, k_37⟩ cl12 hT62 ⟨⟨rfl, rfl, Nat.le_of_ble_eq_true rfl, Nat.le_of_ble_eq_true rfl⟩, Nat.le_of_ble_eq_true rfl, Nat.le_of_ble_eq_true rfl⟩ rfl hl.1 rfl (Nat.le_of_ble_eq_true rfl) dX12_goOn_211) hw (fun σ61 H locs h hw => ?_)
                obtain ⟨x9_63, e_x9_63⟩ : ∃ y : Int32, y = x9_13 + 1 := ⟨_, rfl⟩
                have h := h x9_63 e_x9_63
                refine lv_iinc (v := x9_63) (lv' := [(9, _), (11, _), (0, _), (1, _), (3, _), (4, _), (5, _), (6, _), (7, _), (8, _)]) hx hb dX12_goOn_214 hl (k := 9) rfl (by rw [e_x9_63]; rfl) (by decide) rfl (fun ls hl => ?_)
                refine lv_goto (tgt := 58) hx hb dX12_goOn_217 (by decide) ?_
                obtain ⟨m58, hm58, h⟩ := h
                exact ih58 m58 hm58 _ _ _ _ _ h hw (lv_sub hl [2, 3, 4, 5, 6, 7, 8, 9, 0] rfl)
              refine lv_if_le (tgt := 188) hx hb dX12_goOn_180 (by decide) (fun hc64 => ?_) (fun hc64 => ?_)
              · refine lv_lconst (v := 0) hx hb dX12_goOn_188 (by decide) ?_
                exact kM56 _ _ (by first | rfl | rw [if_pos hc64] | simp only [if_pos hc64]) (lv_sub hl [0, 2, 3, 4, 5, 6, 7, 8, 9, 10] rfl)
              · refine lv_lload hx hb dX12_goOn_183 (lv_at hl 0 rfl) ?_
                refine lv_goto (tgt := 189) hx hb dX12_goOn_185 (by decide) ?_
                exact kM56 _ _ (by first | rfl | rw [if_neg hc64] | simp only [if_neg hc64]) (lv_sub hl [0, 2, 3, 4, 5, 6, 7, 8, 9, 10] rfl)
  exact key58 _ _ _ _ _ _ h hw (lv_sub hl [5, 6, 8, 9, 4, 3, 2, 1, 0] rfl)
theorem mtX12_goOn : Mth yX12_goOn cX12_goOn 13 none 4 := ⟨k_1187, k_50, by decide +kernel⟩
theorem tX12_goOn {l : Launch} {D : va_G} {cA : Nat → ClassId} {z0 : Nat} {σ : Me} {a0 : Nat} {x1 : Int32} {x2 : Int32} {x3 : Int32} {x4 : Int32} {Q : Me → Prop} (h : pX12_goOn σ a0 x1 x2 x3 x4 Q) : Met l yX12_goOn (Cond.code yX12_goOn cX12_goOn 13 none :: gTab) rX12_goOn (PcM D cA z0 σ [.ref a0, .int x1, .int x2, .int x3, .int x4]) (va_Qv Q (BM D cA z0) (AM z0)) 0 0 (AM z0) :=
  met_of (by decide) (Nat.le_of_ble_eq_true rfl) (fun hX hlk hr hn hw hl => wX12_goOn hX hlk hr h hw hl)
abbrev rX12_isStart : Room := { frames := 1, cells := 0, slots := 0, locals := 22 }
def pX12_isStart (σ : Me) (a0 : Nat) (x1 : Int32) (x2 : Int32) (Q : Int32 → Me → Prop) : Prop := gT σ a0 = 12 ∧ ∀ v_2 : Int32, v_2 = (if (gI σ a0 19) = 0 then ((0 : Int32)) else ((-12 : Int32))) → pX12_in σ x1 v_2 (gI σ a0 17) (fun r4 σ5 => (r4 = 0 → Q ((0 : Int32)) σ5) ∧ (¬ r4 = 0 → pX12_in σ5 x2 ((1 : Int32)) ((6 : Int32)) (fun r7 σ8 => ∀ v_9 : Int32, v_9 = (if r7 = 0 then ((0 : Int32)) else ((1 : Int32))) → (v_9 = 0 ∨ v_9 = 1) ∧ Q v_9 σ8)))
set_option maxHeartbeats 4000000 in
set_option maxRecDepth 100000 in
theorem wX12_isStart {p : Program} {l : Launch} {e : Env} {s : State} {m : MethodId} {args : Array Value} {below : List Frame} {meth : Method} {c : Code} {D : va_G} {cA : Nat → ClassId} {z0 : Nat} (hX : Cx p m c cX12_isStart 3 s args RX12 D cA) (hlk : meth.locks = false) (hr : meth.sig.returnType = (some .boolean)) {σ : Me} {a0 : Nat} {x1 : Int32} {x2 : Int32} {Q : Int32 → Me → Prop} (h : pX12_isStart σ a0 x1 x2 Q) {H : Heap} {locs : List Loc} {ls : Array Slot} (hw : wS D cA z0 s σ H locs) (hl : lv_has ls 3 [(0, .ref a0), (1, .int x1), (2, .int x2)]) : W p l e rX12_isStart s m args below meth c H locs 0 0 (MQ below (va_Qi Q (BM D cA z0) (AM z0)) args s 0 0 (AM z0)) (F0 m 0 ls []) := by
  have hx := hX.1.1
  have hb := hX.1.2.1
  have hown := hX.1.2.2.2.1
  have hts := hX.1.2.2.2.2
  unfold pX12_isStart at h
  refine lv_iload_n hx hb dX12_isStart_0 rfl (lv_at hl 1 rfl) ?_
  refine lv_aload_n hx hb dX12_isStart_1 rfl (lv_at hl 0 rfl) ?_
  obtain ⟨hT1, h⟩ := h
  refine m_get hX hw cl12 hT1 19 (by decide) k_893 (fun _ h => h) (v := .int _) rfl dX12_isStart_2 ?_
  have kM3 : ∀ (v_2 : Int32) (ls : Array Slot), v_2 = (if (gI σ a0 19) = 0 then ((0 : Int32)) else ((-12 : Int32))) → lv_has ls 3 [(0, .ref a0), (2, .int x2)] → W p l e rX12_isStart s m args below meth c H locs 0 0 (MQ below (va_Qi Q (BM D cA z0) (AM z0)) args s 0 0 (AM z0)) (F0 m 14 ls [.int v_2, .int x1]) := by
    intro v_2 ls e_v_2 hl
    have h := h v_2 e_v_2
    refine lv_aload_n hx hb dX12_isStart_14 rfl (lv_at hl 0 rfl) ?_
    refine m_get hX hw cl12 hT1 17 (by decide) k_891 (fun _ h => h) (v := .int _) rfl dX12_isStart_15 ?_
    refine m_ci (m_runS (rest := []) hX hw (tX12_in h) mtX12_in k_1054 k_1055 ⟨⟨rfl, rfl, Nat.le_of_ble_eq_true rfl, Nat.le_of_ble_eq_true rfl⟩, Nat.le_of_ble_eq_true rfl, Nat.le_of_ble_eq_true rfl⟩ rfl hl.1 rfl (Nat.le_of_ble_eq_true rfl) dX12_isStart_18) hw (fun r4 σ5 H locs h hw => ?_)
    refine lv_if_eq (tgt := 38) hx hb dX12_isStart_21 (by decide) (fun hc6 => ?_) (fun hc6 => ?_)
    · have h := h.1 hc6
      refine lv_iconst (v := 0) hx hb dX12_isStart_38 (by decide) ?_
      exact m_zret hX hlk hr hw (by decide) h dX12_isStart_39
    · have h := h.2 hc6
      refine lv_iload_n hx hb dX12_isStart_24 rfl (lv_at hl 1 rfl) ?_
      refine lv_iconst (v := 1) hx hb dX12_isStart_25 (by decide) ?_
      refine lv_bipush (v := 6) hx hb dX12_isStart_26 (by decide) ?_
      refine m_ci (m_runS (rest := []) hX hw (tX12_in h) mtX12_in k_1054 k_1055 ⟨⟨rfl, rfl, Nat.le_of_ble_eq_true rfl, Nat.le_of_ble_eq_true rfl⟩, Nat.le_of_ble_eq_true rfl, Nat.le_of_ble_eq_true rfl⟩ rfl hl.1 rfl (Nat.le_of_ble_eq_true rfl) dX12_isStart_28) hw (fun r7 σ8 H locs h hw => ?_)
      have kM10 : ∀ (v_9 : Int32) (ls : Array Slot), v_9 = (if r7 = 0 then ((0 : Int32)) else ((1 : Int32))) → lv_has ls 3 [] → W p l e rX12_isStart s m args below meth c H locs 0 0 (MQ below (va_Qi Q (BM D cA z0) (AM z0)) args s 0 0 (AM z0)) (F0 m 39 ls [.int v_9]) := by
        intro v_9 ls e_v_9 hl
        have h := h v_9 e_v_9
        exact m_zret hX hlk hr hw h.1 h.2 dX12_isStart_39
      refine lv_if_eq (tgt := 38) hx hb dX12_isStart_31 (by decide) (fun hc11 => ?_) (fun hc11 => ?_)
      · refine lv_iconst (v := 0) hx hb dX12_isStart_38 (by decide) ?_
        exact kM10 _ _ (by first | rfl | rw [if_pos hc11] | simp only [if_pos hc11]) (lv_sub hl [] rfl)
      · refine lv_iconst (v := 1) hx hb dX12_isStart_34 (by decide) ?_
        refine lv_goto (tgt := 39) hx hb dX12_isStart_35 (by decide) ?_
        exact kM10 _ _ (by first | rfl | rw [if_neg hc11] | simp only [if_neg hc11]) (lv_sub hl [] rfl)
  refine lv_if_eq (tgt := 13) hx hb dX12_isStart_5 (by decide) (fun hc12 => ?_) (fun hc12 => ?_)
  · refine lv_iconst (v := 0) hx hb dX12_isStart_13 (by decide) ?_
    exact kM3 _ _ (by first | rfl | rw [if_pos hc12] | simp only [if_pos hc12]) (lv_sub hl [0, 2] rfl)
  · refine lv_bipush (v := (-12)) hx hb dX12_isStart_8 (by decide) ?_
    refine lv_goto (tgt := 14) hx hb dX12_isStart_10 (by decide) ?_
    exact kM3 _ _ (by first | rfl | rw [if_neg hc12] | simp only [if_neg hc12]) (lv_sub hl [0, 2] rfl)
theorem mtX12_isStart : Mth yX12_isStart cX12_isStart 3 (some .boolean) 2 := ⟨k_1172, k_50, by decide +kernel⟩
theorem tX12_isStart {l : Launch} {D : va_G} {cA : Nat → ClassId} {z0 : Nat} {σ : Me} {a0 : Nat} {x1 : Int32} {x2 : Int32} {Q : Int32 → Me → Prop} (h : pX12_isStart σ a0 x1 x2 Q) : Met l yX12_isStart (Cond.code yX12_isStart cX12_isStart 3 (some .boolean) :: gTab) rX12_isStart (PcM D cA z0 σ [.ref a0, .int x1, .int x2]) (va_Qi Q (BM D cA z0) (AM z0)) 0 0 (AM z0) :=
  met_of (by decide) (Nat.le_of_ble_eq_true rfl) (fun hX hlk hr hn hw hl => wX12_isStart hX hlk hr h hw hl)
