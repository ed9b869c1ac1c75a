abbrev rX12_needBook : Room := { frames := 1, cells := 0, slots := 0, locals := 23 }
def pX12_needBook (σ : Me) (a0 : Nat) (x1 : Int32) (Q : Int32 → Me → Prop) : Prop := gT σ a0 = 12 ∧ ∃ b2 : Nat, gP σ a0 4 = some b2 ∧ gT σ b2 = 22 ∧ vp_in x1 (gN σ b2) ∧ ((gI σ b2 x1.toNatClampNeg) = 0 → pX12_meets σ a0 ((1 : Int32)) (fun r12 σ13 => Q r12 σ13)) ∧ (¬ (gI σ b2 x1.toNatClampNeg) = 0 → pX12_allOf σ a0 x1 (fun r6 σ7 => (r6 = 0 → gT σ7 a0 = 12 ∧ pX12_meets σ7 a0 ((4 : Int32)) (fun r9 σ10 => Q r9 σ10)) ∧ (¬ r6 = 0 → Q ((0 : Int32)) σ7)))
set_option maxHeartbeats 4000000 in
set_option maxRecDepth 100000 in
theorem wX12_needBook {p : Program} {l : Launch} {e : Env} {s : State} {m : MethodId} {args : Array Value} {below : List Frame} {meth : Method} {c : Code} {D : va_G} {cA : Nat → ClassId} {z0 : Nat} (hX : Cx p m c cX12_needBook 2 s args RX12 D cA) (hlk : meth.locks = false) (hr : meth.sig.returnType = (some .int)) {σ : Me} {a0 : Nat} {x1 : Int32} {Q : Int32 → Me → Prop} (h : pX12_needBook σ a0 x1 Q) {H : Heap} {locs : List Loc} {ls : Array Slot} (hw : wS D cA z0 s σ H locs) (hl : lv_has ls 2 [(0, .ref a0), (1, .int x1)]) : W p l e rX12_needBook s m args below meth c H locs 0 0 (MQ below (va_Qi Q (BM D cA z0) (AM z0)) args s 0 0 (AM z0)) (F0 m 0 ls []) := by
  have hx := hX.1.1
  have hb := hX.1.2.1
  have hown := hX.1.2.2.2.1
  have hts := hX.1.2.2.2.2
  unfold pX12_needBook at h
  refine lv_aload_n hx hb dX12_needBook_0 rfl (lv_at hl 0 rfl) ?_
  obtain ⟨hT1, h⟩ := h
  obtain ⟨b2, hb2, h⟩ := h
  refine m_get hX hw cl12 hT1 4 (by decide) k_878 (fun _ h => h) (v := .ref b2) (congrArg va_rf hb2) dX12_needBook_1 ?_
  refine lv_iload_n hx hb dX12_needBook_4 rfl (lv_at hl 1 rfl) ?_
  obtain ⟨hT3, h⟩ := h
  obtain ⟨hc4, h⟩ := h
  refine m_zald hX hw hT3 hc4 dX12_needBook_5 ?_
  refine lv_if_ne (tgt := 17) hx hb dX12_needBook_6 (by decide) (fun hc5 => ?_) (fun hc5 => ?_)
  · have h := h.2 hc5
    refine lv_aload_n hx hb dX12_needBook_17 rfl (lv_at hl 0 rfl) ?_
    refine lv_iload_n hx hb dX12_needBook_18 rfl (lv_at hl 1 rfl) ?_
    refine m_ci (m_runV (rest := []) hX hw (tX12_allOf h) mtX12_allOf k_1093 ⟨k_1095, k_25⟩ cl12 hT1 ⟨⟨rfl, rfl, Nat.le_of_ble_eq_true rfl, Nat.le_of_ble_eq_true rfl⟩, Nat.le_of_ble_eq_true rfl, Nat.le_of_ble_eq_true rfl⟩ rfl hl.1 rfl (Nat.le_of_ble_eq_true rfl) dX12_needBook_19) hw (fun r6 σ7 H locs h hw => ?_)
    refine lv_if_ne (tgt := 33) hx hb dX12_needBook_22 (by decide) (fun hc8 => ?_) (fun hc8 => ?_)
    · have h := h.2 hc8
      refine lv_iconst (v := 0) hx hb dX12_needBook_33 (by decide) ?_
      exact m_iret hX hlk hr hw h dX12_needBook_34
    · have h := h.1 hc8
      refine lv_aload_n hx hb dX12_needBook_25 rfl (lv_at hl 0 rfl) ?_
      refine lv_iconst (v := 4) hx hb dX12_needBook_26 (by decide) ?_
      obtain ⟨hT11, h⟩ := h
      refine m_ci (m_runV (rest := []) hX hw (tX12_meets h) mtX12_meets k_1076 ⟨k_1078, k_24⟩ cl12 hT11 ⟨⟨rfl, rfl, Nat.le_of_ble_eq_true rfl, Nat.le_of_ble_eq_true rfl⟩, Nat.le_of_ble_eq_true rfl, Nat.le_of_ble_eq_true rfl⟩ rfl hl.1 rfl (Nat.le_of_ble_eq_true rfl) dX12_needBook_27) hw (fun r9 σ10 H locs h hw => ?_)
      refine lv_goto (tgt := 34) hx hb dX12_needBook_30 (by decide) ?_
      exact m_iret hX hlk hr hw h dX12_needBook_34
  · have h := h.1 hc5
    refine lv_aload_n hx hb dX12_needBook_9 rfl (lv_at hl 0 rfl) ?_
    refine lv_iconst (v := 1) hx hb dX12_needBook_10 (by decide) ?_
    refine m_ci (m_runV (rest := []) hX hw (tX12_meets h) mtX12_meets k_1076 ⟨k_1078, k_24⟩ cl12 hT1 ⟨⟨rfl, rfl, Nat.le_of_ble_eq_true rfl, Nat.le_of_ble_eq_true rfl⟩, Nat.le_of_ble_eq_true rfl, Nat.le_of_ble_eq_true rfl⟩ rfl hl.1 rfl (Nat.le_of_ble_eq_true rfl) dX12_needBook_11) hw (fun r12 σ13 H locs h hw => ?_)
    refine lv_goto (tgt := 34) hx hb dX12_needBook_14 (by decide) ?_
    exact m_iret hX hlk hr hw h dX12_needBook_34
theorem mtX12_needBook : Mth yX12_needBook cX12_needBook 2 (some .int) 1 := ⟨k_1176, k_50, by decide +kernel⟩
theorem tX12_needBook {l : Launch} {D : va_G} {cA : Nat → ClassId} {z0 : Nat} {σ : Me} {a0 : Nat} {x1 : Int32} {Q : Int32 → Me → Prop} (h : pX12_needBook σ a0 x1 Q) : Met l yX12_needBook (Cond.code yX12_needBook cX12_needBook 2 (some .int) :: gTab) rX12_needBook (PcM D cA z0 σ [.ref a0, .int x1]) (va_Qi Q (BM D cA z0) (AM z0)) 0 0 (AM z0) :=
  met_of (by decide) (Nat.le_of_ble_eq_true rfl) (fun hX hlk hr hn hw hl => wX12_needBook hX hlk hr h hw hl)
abbrev rX12_needBoth : Room := { frames := 2, cells := 0, slots := 0, locals := 44 }
def pX12_needBoth (σ : Me) (a0 : Nat) (x1 : Int32) (x2 : Int32) (x3 : Int32) (x4 : Int32) (x5 : Int32) (Q : Int32 → Me → Prop) : Prop := (x1 = 0 → Q ((-1 : Int32)) σ) ∧ (¬ x1 = 0 → gT σ a0 = 12 ∧ pX12_isRule σ a0 x2 (fun r2 σ3 => (r2 = 0 → Q ((-1 : Int32)) σ3) ∧ (¬ r2 = 0 → pX12_isPlace σ3 x3 (fun r6 σ7 => (r6 = 0 → Q ((-1 : Int32)) σ7) ∧ (¬ r6 = 0 → gT σ7 a0 = 12 ∧ pX12_isStart σ7 a0 x4 x5 (fun r9 σ10 => (r9 = 0 → Q ((-1 : Int32)) σ10) ∧ (¬ r9 = 0 → gT σ10 a0 = 12 ∧ ∃ b14 : Nat, gP σ10 a0 16 = some b14 ∧ gT σ10 b14 = 22 ∧ vp_in x2 (gN σ10 b14) ∧ ((gI σ10 b14 x2.toNatClampNeg) = 0 → pX12_needBook σ10 a0 x3 (fun r18 σ19 => Q r18 σ19)) ∧ (¬ (gI σ10 b14 x2.toNatClampNeg) = 0 → pX12_meets σ10 a0 ((1 : Int32)) (fun r20 σ21 => Q r20 σ21)))))))))
set_option maxHeartbeats 4000000 in
set_option maxRecDepth 100000 in
theorem wX12_needBoth {p : Program} {l : Launch} {e : Env} {s : State} {m : MethodId} {args : Array Value} {below : List Frame} {meth : Method} {c : Code} {D : va_G} {cA : Nat → ClassId} {z0 : Nat} (hX : Cx p m c cX12_needBoth 6 s args RX12 D cA) (hlk : meth.locks = false) (hr : meth.sig.returnType = (some .int)) {σ : Me} {a0 : Nat} {x1 : Int32} {x2 : Int32} {x3 : Int32} {x4 : Int32} {x5 : Int32} {Q : Int32 → Me → Prop} (h : pX12_needBoth σ a0 x1 x2 x3 x4 x5 Q) {H : Heap} {locs : List Loc} {ls : Array Slot} (hw : wS D cA z0 s σ H locs) (hl : lv_has ls 6 [(0, .ref a0), (1, .int x1), (2, .int x2), (3, .int x3), (4, .int x4), (5, .int x5)]) : W p l e rX12_needBoth s m args below meth c H locs 0 0 (MQ below (va_Qi Q (BM D cA z0) (AM z0)) args s 0 0 (AM z0)) (F0 m 0 ls []) := by
  have hx := hX.1.1
  have hb := hX.1.2.1
  have hown := hX.1.2.2.2.1
  have hts := hX.1.2.2.2.2
  unfold pX12_needBoth at h
  refine lv_iload_n hx hb dX12_needBoth_0 rfl (lv_at hl 1 rfl) ?_
  refine lv_if_eq (tgt := 30) hx hb dX12_needBoth_1 (by decide) (fun hc1 => ?_) (fun hc1 => ?_)
  · have h := h.1 hc1
    refine lv_iconst (v := (-1)) hx hb dX12_needBoth_30 (by decide) ?_
    exact m_iret hX hlk hr hw h dX12_needBoth_31
  · have h := h.2 hc1
    refine lv_aload_n hx hb dX12_needBoth_4 rfl (lv_at hl 0 rfl) ?_
    refine lv_iload_n hx hb dX12_needBoth_5 rfl (lv_at hl 2 rfl) ?_
    obtain ⟨hT4, h⟩ := h
    refine m_ci (m_runV (rest := []) hX hw (tX12_isRule h) mtX12_isRule k_1129 ⟨k_1131, k_28⟩ cl12 hT4 ⟨⟨rfl, rfl, Nat.le_of_ble_eq_true rfl, Nat.le_of_ble_eq_true rfl⟩, Nat.le_of_ble_eq_true rfl, Nat.le_of_ble_eq_true rfl⟩ rfl hl.1 rfl (Nat.le_of_ble_eq_true rfl) dX12_needBoth_6) hw (fun r2 σ3 H locs h hw => ?_)
    refine lv_if_eq (tgt := 30) hx hb dX12_needBoth_9 (by decide) (fun hc5 => ?_) (fun hc5 => ?_)
    · have h := h.1 hc5
      refine lv_iconst (v := (-1)) hx hb dX12_needBoth_30 (by decide) ?_
      exact m_iret hX hlk hr hw h dX12_needBoth_31
    · have h := h.2 hc5
      refine lv_iload_n hx hb dX12_needBoth_12 rfl (lv_at hl 3 rfl) ?_
      refine m_ci (m_runS (rest := []) hX hw (tX12_isPlace h) mtX12_isPlace k_1069 k_1070 ⟨⟨rfl, rfl, Nat.le_of_ble_eq_true rfl, Nat.le_of_ble_eq_true rfl⟩, Nat.le_of_ble_eq_true rfl, Nat.le_of_ble_eq_true rfl⟩ rfl hl.1 rfl (Nat.le_of_ble_eq_true rfl) dX12_needBoth_13) hw (fun r6 σ7 H locs h hw => ?_)
      refine lv_if_eq (tgt := 30) hx hb dX12_needBoth_16 (by decide) (fun hc8 => ?_) (fun hc8 => ?_)
      · have h := h.1 hc8
        refine lv_iconst (v := (-1)) hx hb dX12_needBoth_30 (by decide) ?_
        exact m_iret hX hlk hr hw h dX12_needBoth_31
      · have h := h.2 hc8
        refine lv_aload_n hx hb dX12_needBoth_19 rfl (lv_at hl 0 rfl) ?_
        refine lv_iload hx hb dX12_needBoth_20 (lv_at hl 4 rfl) ?_
        refine lv_iload hx hb dX12_needBoth_22 (lv_at hl 5 rfl) ?_
        obtain ⟨hT11, h⟩ := h
        refine m_ci (m_runV (rest := []) hX hw (tX12_isStart h) mtX12_isStart k_1169 ⟨k_1171, k_32⟩ cl12 hT11 ⟨⟨rfl, rfl, Nat.le_of_ble_eq_true rfl, Nat.le_of_ble_eq_true rfl⟩, Nat.le_of_ble_eq_true rfl, Nat.le_of_ble_eq_true rfl⟩ rfl hl.1 rfl (Nat.le_of_ble_eq_true rfl) dX12_needBoth_24) hw (fun r9 σ10 H locs h hw => ?_)
        refine lv_if_ne (tgt := 32) hx hb dX12_needBoth_27 (by decide) (fun hc12 => ?_) (fun hc12 => ?_)
        · have h := h.2 hc12
          refine lv_aload_n hx hb dX12_needBoth_32 rfl (lv_at hl 0 rfl) ?_
          obtain ⟨hT13, h⟩ := h
          obtain ⟨b14, hb14, h⟩ := h
          refine m_get hX hw cl12 hT13 16 (by decide) k_890 (fun _ h => h) (v := .ref b14) (congrArg va_rf hb14) dX12_needBoth_33 ?_
          refine lv_iload_n hx hb dX12_needBoth_36 rfl (lv_at hl 2 rfl) ?_
          obtain ⟨hT15, h⟩ := h
          obtain ⟨hc16, h⟩ := h
          refine m_zald hX hw hT15 hc16 dX12_needBoth_37 ?_
          refine lv_if_eq (tgt := 49) hx hb dX12_needBoth_38 (by decide) (fun hc17 => ?_) (fun hc17 => ?_)
          · have h := h.1 hc17
            refine lv_aload_n hx hb dX12_needBoth_49 rfl (lv_at hl 0 rfl) ?_
            refine lv_iload_n hx hb dX12_needBoth_50 rfl (lv_at hl 3 rfl) ?_
            refine m_ci (m_runV (rest := []) hX hw (tX12_needBook h) mtX12_needBook k_1173 ⟨k_1175, k_33⟩ cl12 hT13 ⟨⟨rfl, rfl, Nat.le_of_ble_eq_true rfl, Nat.le_of_ble_eq_true rfl⟩, Nat.le_of_ble_eq_true rfl, Nat.le_of_ble_eq_true rfl⟩ rfl hl.1 rfl (Nat.le_of_ble_eq_true rfl) dX12_needBoth_51) hw (fun r18 σ19 H locs h hw => ?_)
            exact m_iret hX hlk hr hw h dX12_needBoth_54
          · have h := h.2 hc17
            refine lv_aload_n hx hb dX12_needBoth_41 rfl (lv_at hl 0 rfl) ?_
            refine lv_iconst (v := 1) hx hb dX12_needBoth_42 (by decide) ?_
            refine m_ci (m_runV (rest := []) hX hw (tX12_meets h) mtX12_meets k_1076 ⟨k_1078, k_24⟩ cl12 hT13 ⟨⟨rfl, rfl, Nat.le_of_ble_eq_true rfl, Nat.le_of_ble_eq_true rfl⟩, Nat.le_of_ble_eq_true rfl, Nat.le_of_ble_eq_true rfl⟩ rfl hl.1 rfl (Nat.le_of_ble_eq_true rfl) dX12_needBoth_43) hw (fun r20 σ21 H locs h hw => ?_)
            refine lv_goto (tgt := 54) hx hb dX12_needBoth_46 (by decide) ?_
            exact m_iret hX hlk hr hw h dX12_needBoth_54
        · have h := h.1 hc12
          refine lv_iconst (v := (-1)) hx hb dX12_needBoth_30 (by decide) ?_
          exact m_iret hX hlk hr hw h dX12_needBoth_31
theorem mtX12_needBoth : Mth yX12_needBoth cX12_needBoth 6 (some .int) 5 := ⟨k_1168, k_50, by decide +kernel⟩
theorem tX12_needBoth {l : Launch} {D : va_G} {cA : Nat → ClassId} {z0 : Nat} {σ : Me} {a0 : Nat} {x1 : Int32} {x2 : Int32} {x3 : Int32} {x4 : Int32} {x5 : Int32} {Q : Int32 → Me → Prop} (h : pX12_needBoth σ a0 x1 x2 x3 x4 x5 Q) : Met l yX12_needBoth (Cond.code yX12_needBoth cX12_needBoth 6 (some .int) :: gTab) rX12_needBoth (PcM D cA z0 σ [.ref a0, .int x1, .int x2, .int x3, .int x4, .int x5]) (va_Qi Q (BM D cA z0) (AM z0)) 0 0 (AM z0) :=
  met_of (by decide) (Nat.le_of_ble_eq_true rfl) (fun hX hlk hr hn hw hl => wX12_needBoth hX hlk hr h hw hl)
abbrev rX12_leastFrom : Room := { frames := 1, cells := 0, slots := 0, locals := 29 }
def pX12_leastFrom (σ : Me) (a0 : Nat) (x1 : Int32) (x2 : Int32) (x3 : Int32) (x4 : Int32) (y5 : Int64) (Q : Int64 → Me → Prop) : Prop := ∃ I8 : Nat → Me → Int64 → Int32 → Prop, (∀ (n8 : Nat) (σ1 : Me) (x7_2 : Int64) (x9_3 : Int32), I8 n8 σ1 x7_2 x9_3 → (((12 : Int32)) < x9_3 → Q x7_2 σ1) ∧ (¬ ((12 : Int32)) < x9_3 → ∃ I21 : Nat → Me → Int64 → Int32 → Prop, (∀ (n21 : Nat) (σ5 : Me) (x10_6 : Int64) (x12_7 : Int32), I21 n21 σ5 x10_6 x12_7 → (((7 : Int32)) ≤ x12_7 → (x7_2 < ((0 : Int64)) → gT σ5 a0 = 12 ∧ ∀ σ40 : Me, σ40 = sI σ5 a0 47 x9_3 → ∀ x9_41 : Int32, x9_41 = x9_3 + 1 → ∃ m8 : Nat, m8 < n8 ∧ I8 m8 σ40 x10_6 x9_41) ∧ (¬ x7_2 < ((0 : Int64)) → (x7_2 ≤ x10_6 → ∀ x9_44 : Int32, x9_44 = x9_3 + 1 → ∃ m8 : Nat, m8 < n8 ∧ I8 m8 σ5 x7_2 x9_44) ∧ (¬ x7_2 ≤ x10_6 → gT σ5 a0 = 12 ∧ ∀ σ46 : Me, σ46 = sI σ5 a0 47 x9_3 → ∀ x9_47 : Int32, x9_47 = x9_3 + 1 → ∃ m8 : Nat, m8 < n8 ∧ I8 m8 σ46 x10_6 x9_47))) ∧ (¬ ((7 : Int32)) ≤ x12_7 → gT σ5 a0 = 12 ∧ ∃ b49 : Nat, gP σ5 a0 5 = some b49 ∧ gT σ5 b49 = 20 ∧ vp_in ((((7 : Int32)) * x1) + x12_7) (gN σ5 b49) ∧ ∀ x13_52 : Int32, x13_52 = (gI σ5 b49 ((((7 : Int32)) * x1) + x12_7).toNatClampNeg) → (x13_52 ≤ 0 → ∀ x12_54 : Int32, x12_54 = x12_7 + 1 → ∃ m21 : Nat, m21 < n21 ∧ I21 m21 σ5 x10_6 x12_54) ∧ (¬ x13_52 ≤ 0 → pX12_day σ5 a0 x2 x3 x4 x9_3 x12_7 (fun σ56 => gT σ56 a0 = 12 ∧ ∃ b58 : Nat, gP σ56 a0 45 = some b58 ∧ pX12_stateOf σ56 (gI σ56 a0 24) (gI σ56 a0 25) (gI σ56 a0 26) (fun r59 σ60 => gT σ60 b58 = 21 ∧ vp_in r59 (gN σ60 b58) ∧ ∀ x10_63 : Int64, x10_63 = (x10_6 + (x13_52.toInt64 * ((((gI σ56 a0 27).toInt64) * y5) + (gL σ60 b58 r59.toNatClampNeg)))) → ∀ x12_64 : Int32, x12_64 = x12_7 + 1 → ∃ m21 : Nat, m21 < n21 ∧ I21 m21 σ60 x10_63 x12_64))))) ∧ ∃ n21 : Nat, I21 n21 σ1 ((0 : Int64)) ((0 : Int32)))) ∧ ∃ n8 : Nat, I8 n8 σ ((-1 : Int64)) ((0 : Int32))
set_option maxHeartbeats 4000000 in
set_option maxRecDepth 100000 in
theorem wX12_leastFrom {p : Program} {l : Launch} {e : Env} {s : State} {m : MethodId} {args : Array Value} {below : List Frame} {meth : Method} {c : Code} {D : va_G} {cA : Nat → ClassId} {z0 : Nat} (hX : Cx p m c cX12_leastFrom 14 s args RX12 D cA) (hlk : meth.locks = false) (hr : meth.sig.returnType = (some .long)) {σ : Me} {a0 : Nat} {x1 : Int32} {x2 : Int32} {x3 : Int32} {x4 : Int32} {y5 : Int64} {Q : Int64 → Me → Prop} (h : pX12_leastFrom σ a0 x1 x2 x3 x4 y5 Q) {H : Heap} {locs : List Loc} {ls : Array Slot} (hw : wS D cA z0 s σ H locs) (hl : lv_has ls 14 [(0, .ref a0), (1, .int x1), (2, .int x2), (3, .int x3), (4, .int x4), (5, .long y5)]) : W p l e rX12_leastFrom s m args below meth c H locs 0 0 (MQ below (va_Ql Q (BM D cA z0) (AM z0)) args s 0 0 (AM z0)) (F0 m 0 ls []) := by
  have hx := hX.1.1
  have hb := hX.1.2.1
  have hown := hX.1.2.2.2.1
  have hts := hX.1.2.2.2.2
  unfold pX12_leastFrom at h
  refine lv_ldc2 hx hb hown (hts _ k_1215) dX12_leastFrom_0 ?_
  refine lv_lstore (lv' := [(7, _), (0, _), (1, _), (2, _), (3, _), (4, _), (5, _)]) hx hb dX12_leastFrom_3 hl (by decide) rfl (fun ls hl => ?_)
  refine lv_iconst (v := 0) hx hb dX12_leastFrom_5 (by decide) ?_
  refine lv_istore (lv' := [(9, _), (7, _), (0, _), (1, _), (2, _), (3, _), (4, _), (5, _)]) hx hb dX12_leastFrom_6 hl (by decide) rfl (fun ls hl => ?_)
  obtain ⟨I8, hI8, n8, h⟩ := h
  have key8 : ∀ (n8 : Nat) (σ1 : Me) (x7_2 : Int64) (x9_3 : Int32) (H : Heap) (locs : List Loc) (ls : Array Slot), I8 n8 σ1 x7_2 x9_3 → wS D cA z0 s σ1 H locs → lv_has ls 14 [(0, .ref a0), (1, .int x1), (2, .int x2), (3, .int x3), (4, .int x4), (5, .long y5), (7, .long x7_2), (9, .int x9_3)] → W p l e rX12_leastFrom s m args below meth c H locs 0 0 (MQ below (va_Ql Q (BM D cA z0) (AM z0)) args s 0 0 (AM z0)) (F0 m 8 ls []) := by
    intro n8
    induction n8 using Nat.strongRecOn with
    | _ n8 ih8 =>
      intro σ1 x7_2 x9_3 H locs ls h hw hl
      have h := hI8 _ _ _ _ h
      refine lv_iload hx hb dX12_leastFrom_8 (lv_at hl 7 rfl) ?_
      refine lv_bipush (v := 12) hx hb dX12_leastFrom_10 (by decide) ?_
      refine lv_icmp_gt (tgt := 134) hx hb dX12_leastFrom_12 (by decide) (fun hc4 => ?_) (fun hc4 => ?_)
      · have h := h.1 hc4
        refine lv_lload hx hb dX12_leastFrom_134 (lv_at hl 6 rfl) ?_
        exact m_lret hX hlk hr hw h dX12_leastFrom_136
      · have h := h.2 hc4
        refine lv_lconst (v := 0) hx hb dX12_leastFrom_15 (by decide) ?_
        refine lv_lstore (lv' := [(10, _), (0, _), (1, _), (2, _), (3, _), (4, _), (5, _), (7, _), (9, _)]) hx hb dX12_leastFrom_16 hl (by decide) rfl (fun ls hl => ?_)
        refine lv_iconst (v := 0) hx hb dX12_leastFrom_18 (by decide) ?_
        refine lv_istore (lv' := [(12, _), (10, _), (0, _), (1, _), (2, _), (3, _), (4, _), (5, _), (7, _), (9, _)]) hx hb dX12_leastFrom_19 hl (by decide) rfl (fun ls hl => ?_)
        obtain ⟨I21, hI21, n21, h⟩ := h
        have key21 : ∀ (n21 : Nat) (σ5 : Me) (x10_6 : Int64) (x12_7 : Int32) (H : Heap) (locs : List Loc) (ls : Array Slot), I21 n21 σ5 x10_6 x12_7 → wS D cA z0 s σ5 H locs → lv_has ls 14 [(0, .ref a0), (1, .int x1), (2, .int x2), (3, .int x3), (4, .int x4), (5, .long y5), (7, .long x7_2), (9, .int x9_3), (10, .long x10_6), (12, .int x12_7)] → W p l e rX12_leastFrom s m args below meth c H locs 0 0 (MQ below (va_Ql Q (BM D cA z0) (AM z0)) args s 0 0 (AM z0)) (F0 m 21 ls []) := by
          intro n21
          induction n21 using Nat.strongRecOn with
          | _ n21 ih21 =>
            intro σ5 x10_6 x12_7 H locs ls h hw hl
            have h := hI21 _ _ _ _ h
            refine lv_iload hx hb dX12_leastFrom_21 (lv_at hl 9 rfl) ?_
            refine lv_bipush (v := 7) hx hb dX12_leastFrom_23 (by decide) ?_
            refine lv_icmp_ge (tgt := 103) hx hb dX12_leastFrom_25 (by decide) (fun hc27 => ?_) (fun hc27 => ?_)
            · have h := h.1 hc27
              refine lv_lload hx hb dX12_leastFrom_103 (lv_at hl 6 rfl) ?_
              refine lv_lconst (v := 0) hx hb dX12_leastFrom_105 (by decide) ?_
              refine m_llt (tgt := 118) hX dX12_leastFrom_106 dX12_leastFrom_107 (by decide) (fun hc38 => ?_) (fun hc38 => ?_)
              · have h := h.1 hc38
                refine lv_lload hx hb dX12_leastFrom_118 (lv_at hl 8 rfl) ?_
                refine lv_lstore (lv' := [(7, _), (0, _), (1, _), (2, _), (3, _), (4, _), (5, _), (9, _), (10, _), (12, _)]) hx hb dX12_leastFrom_120 hl (by decide) rfl (fun ls hl => ?_)
                refine lv_aload_n hx hb dX12_leastFrom_122 rfl (lv_at hl 1 rfl) ?_
                refine lv_iload hx hb dX12_leastFrom_123 (lv_at hl 7 rfl) ?_
                obtain ⟨hT39, h⟩ := h
                refine m_putI hX hw cl12 hT39 47 (by decide) k_921 (fun _ h => h) rfl rfl dX12_leastFrom_125 (fun H locs hw => ?_)
                let σ40 : Me := sI σ5 a0 47 x9_3
                have h := h σ40 rfl
                have hw : wS D cA z0 s σ40 H locs := hw
                obtain ⟨x9_41, e_x9_41⟩ : ∃ y : Int32, y = x9_3 + 1 := ⟨_, rfl⟩
                have h := h x9_41 e_x9_41
                refine lv_iinc (v := x9_41) (lv' := [(9, _), (7, _), (0, _), (1, _), (2, _), (3, _), (4, _), (5, _), (10, _), (12, _)]) hx hb dX12_leastFrom_128 hl (k := 7) rfl (by rw [e_x9_41]; rfl) (by decide) rfl (fun ls hl => ?_)
                refine lv_goto (tgt := 8) hx hb dX12_leastFrom_131 (by decide) ?_
                obtain ⟨m8, hm8, h⟩ := h
                exact ih8 m8 hm8 _ _ _ _ _ _ h hw (lv_sub hl [2, 3, 4, 5, 6, 7, 1, 0] rfl)
              · have h := h.2 hc38
                refine lv_lload hx hb dX12_leastFrom_110 (lv_at hl 8 rfl) ?_
                refine lv_lload hx hb dX12_leastFrom_112 (lv_at hl 6 rfl) ?_
                refine m_lge (tgt := 128) hX dX12_leastFrom_114 dX12_leastFrom_115 (by decide) (fun hc43 => ?_) (fun hc43 => ?_)
                · have h := h.1 hc43
                  obtain ⟨x9_44, e_x9_44⟩ : ∃ y : Int32, y = x9_3 + 1 := ⟨_, rfl⟩
                  have h := h x9_44 e_x9_44
                  refine lv_iinc (v := x9_44) (lv' := [(9, _), (0, _), (1, _), (2, _), (3, _), (4, _), (5, _), (7, _), (10, _), (12, _)]) hx hb dX12_leastFrom_128 hl (k := 7) rfl (by rw [e_x9_44]; rfl) (by decide) rfl (fun ls hl => ?_)
                  refine lv_goto (tgt := 8) hx hb dX12_leastFrom_131 (by decide) ?_
                  obtain ⟨m8, hm8, h⟩ := h
                  exact ih8 m8 hm8 _ _ _ _ _ _ h hw (lv_sub hl [1, 2, 3, 4, 5, 6, 7, 0] rfl)
                · have h := h.2 hc43
                  refine lv_lload hx hb dX12_leastFrom_118 (lv_at hl 8 rfl) ?_
                  refine lv_lstore (lv' := [(7, _), (0, _), (1, _), (2, _), (3, _), (4, _), (5, _), (9, _), (10, _), (12, _)]) hx hb dX12_leastFrom_120 hl (by decide) rfl (fun ls hl => ?_)
                  refine lv_aload_n hx hb dX12_leastFrom_122 rfl (lv_at hl 1 rfl) ?_
                  refine lv_iload hx hb dX12_leastFrom_123 (lv_at hl 7 rfl) ?_
                  obtain ⟨hT45, h⟩ := h
                  refine m_putI hX hw cl12 hT45 47 (by decide) k_921 (fun _ h => h) rfl rfl dX12_leastFrom_125 (fun H locs hw => ?_)
                  let σ46 : Me := sI σ5 a0 47 x9_3
                  have h := h σ46 rfl
                  have hw : wS D cA z0 s σ46 H locs := hw
                  obtain ⟨x9_47, e_x9_47⟩ : ∃ y : Int32, y = x9_3 + 1 := ⟨_, rfl⟩
                  have h := h x9_47 e_x9_47
                  refine lv_iinc (v := x9_47) (lv' := [(9, _), (7, _), (0, _), (1, _), (2, _), (3, _), (4, _), (5, _), (10, _), (12, _)]) hx hb dX12_leastFrom_128 hl (k := 7) rfl (by rw [e_x9_47]; rfl) (by decide) rfl (fun ls hl => ?_)
                  refine lv_goto (tgt := 8) hx hb dX12_leastFrom_131 (by decide) ?_
                  obtain ⟨m8, hm8, h⟩ := h
                  exact ih8 m8 hm8 _ _ _ _ _ _ h hw (lv_sub hl [2, 3, 4, 5, 6, 7, 1, 0] rfl)
            · have h := h.2 hc27
              refine lv_aload_n hx hb dX12_leastFrom_28 rfl (lv_at hl 0 rfl) ?_
              obtain ⟨hT48, h⟩ := h
              obtain ⟨b49, hb49, h⟩ := h
              refine m_get hX hw cl12 hT48 5 (by decide) k_879 (fun _ h => h) (v := .ref b49) (congrArg va_rf hb49) dX12_leastFrom_29 ?_
              refine lv_bipush (v := 7) hx hb dX12_leastFrom_32 (by decide) ?_
              refine lv_iload_n hx hb dX12_leastFrom_34 rfl (lv_at hl 1 rfl) ?_
              refine lv_imul hx hb dX12_leastFrom_35 ?_
              refine lv_iload hx hb dX12_leastFrom_36 (lv_at hl 9 rfl) ?_
              refine lv_iadd hx hb dX12_leastFrom_38 ?_
              obtain ⟨hT50, h⟩ := h
              obtain ⟨hc51, h⟩ := h
              refine m_iald hX hw hT50 hc51 dX12_leastFrom_39 ?_
              refine lv_topi (fun x13_52 e_x13_52 => ?_)
              have h := h x13_52 e_x13_52
              refine lv_istore (lv' := [(13, _), (0, _), (1, _), (2, _), (3, _), (4, _), (5, _), (7, _), (9, _), (10, _), (12, _)]) hx hb dX12_leastFrom_40 hl (by decide) rfl (fun ls hl => ?_)
              refine lv_iload hx hb dX12_leastFrom_42 (lv_at hl 0 rfl) ?_
              refine lv_if_le (tgt := 97) hx hb dX12_leastFrom_44 (by decide) (fun hc53 => ?_) (fun hc53 => ?_)
              · have h := h.1 hc53
                obtain ⟨x12_54, e_x12_54⟩ : ∃ y : Int32, y = x12_7 + 1 := ⟨_, rfl⟩
                have h := h x12_54 e_x12_54
                refine lv_iinc (v := x12_54) (lv' := [(12, _), (13, _), (0, _), (1, _), (2, _), (3, _), (4, _), (5, _), (7, _), (9, _), (10, _)]) hx hb dX12_leastFrom_97 hl (k := 10) rfl (by rw [e_x12_54]; rfl) (by decide) rfl (fun ls hl => ?_)
                refine lv_goto (tgt := 21) hx hb dX12_leastFrom_100 (by decide) ?_
                obtain ⟨m21, hm21, h⟩ := h
                exact ih21 m21 hm21 _ _ _ _ _ _ h hw (lv_sub hl [2, 3, 4, 5, 6, 7, 8, 9, 10, 0] rfl)
              · have h := h.2 hc53
                refine lv_aload_n hx hb dX12_leastFrom_47 rfl (lv_at hl 1 rfl) ?_
                refine lv_iload_n hx hb dX12_leastFrom_48 rfl (lv_at hl 3 rfl) ?_
                refine lv_iload_n hx hb dX12_leastFrom_49 rfl (lv_at hl 4 rfl) ?_
                refine lv_iload hx hb dX12_leastFrom_50 (lv_at hl 5 rfl) ?_
                refine lv_iload hx hb dX12_leastFrom_52 (lv_at hl 8 rfl) ?_
                refine lv_iload hx hb dX12_leastFrom_54 (lv_at hl 10 rfl) ?_
                refine m_cv (m_runV (rest := []) hX hw (tX12_day h) mtX12_day k_1188 ⟨k_1190, k_36⟩ cl12 hT48 ⟨⟨rfl, rfl, Nat.le_of_ble_eq_true rfl, Nat.le_of_ble_eq_true rfl⟩, Nat.le_of_ble_eq_true rfl, Nat.le_of_ble_eq_true rfl⟩ rfl hl.1 rfl (Nat.le_of_ble_eq_true rfl) dX12_leastFrom_56) hw (fun σ56 H locs h hw => ?_)
                refine lv_lload hx hb dX12_leastFrom_59 (lv_at hl 9 rfl) ?_
                refine lv_iload hx hb dX12_leastFrom_61 (lv_at hl 0 rfl) ?_
                refine lv_i2l hx hb dX12_leastFrom_63 rfl ?_
                refine lv_aload_n hx hb dX12_leastFrom_64 rfl (lv_at hl 1 rfl) ?_
                obtain ⟨hT57, h⟩ := h
                refine m_get hX hw cl12 hT57 27 (by decide) k_901 (fun _ h => h) (v := .int _) rfl dX12_leastFrom_65 ?_
                refine lv_i2l hx hb dX12_leastFrom_68 rfl ?_
                refine lv_lload hx hb dX12_leastFrom_69 (lv_at hl 6 rfl) ?_
                refine lv_lmul hx hb dX12_leastFrom_71 ?_
                refine lv_aload_n hx hb dX12_leastFrom_72 rfl (lv_at hl 1 rfl) ?_
                obtain ⟨b58, hb58, h⟩ := h
                refine m_get hX hw cl12 hT57 45 (by decide) k_919 (fun _ h => h) (v := .ref b58) (congrArg va_rf hb58) dX12_leastFrom_73 ?_
                refine lv_aload_n hx hb dX12_leastFrom_76 rfl (lv_at hl 1 rfl) ?_
                refine m_get hX hw cl12 hT57 24 (by decide) k_898 (fun _ h => h) (v := .int _) rfl dX12_leastFrom_77 ?_
                refine lv_aload_n hx hb dX12_leastFrom_80 rfl (lv_at hl 1 rfl) ?_
                refine m_get hX hw cl12 hT57 25 (by decide) k_899 (fun _ h => h) (v := .int _) rfl dX12_leastFrom_81 ?_
                refine lv_aload_n hx hb dX12_leastFrom_84 rfl (lv_at hl 1 rfl) ?_
                refine m_get hX hw cl12 hT57 26 (by decide) k_900 (fun _ h => h) (v := .int _) rfl dX12_leastFrom_85 ?_
                refine m_ci (m_runS (rest := [_, _, _, _]) hX hw (tX12_stateOf h) mtX12_stateOf k_1181 k_1182 ⟨⟨rfl, rfl, Nat.le_of_ble_eq_true rfl, Nat.le_of_ble_eq_true rfl⟩, Nat.le_of_ble_eq_true rfl, Nat.le_of_ble_eq_true rfl⟩ rfl hl.1 rfl (Nat.le_of_ble_eq_true rfl) dX12_leastFrom_88) hw (fun r59 σ60 H locs h hw => ?_)
                obtain ⟨hT61, h⟩ := h
                obtain ⟨hc62, h⟩ := h
                refine m_lald hX hw hT61 hc62 dX12_leastFrom_91 ?_
                refine lv_ladd hx hb dX12_leastFrom_92 ?_
                refine lv_lmul hx hb dX12_leastFrom_93 ?_
                refine lv_ladd hx hb dX12_leastFrom_94 ?_
                refine lv_topl (fun x10_63 e_x10_63 => ?_)
                have h := h x10_63 e_x10_63
                refine lv_lstore (lv' := [(10, _), (13, _), (0, _), (1, _), (2, _), (3, _), (4, _), (5, _), (7, _), (9, _), (12, _)]) hx hb dX12_leastFrom_95 hl (by decide) rfl (fun ls hl => ?_)
                obtain ⟨x12_64, e_x12_64⟩ : ∃ y : Int32, y = x12_7 + 1 := ⟨_, rfl⟩
                have h := h x12_64 e_x12_64
                refine lv_iinc (v := x12_64) (lv' := [(12, _), (10, _), (13, _), (0, _), (1, _), (2, _), (3, _), (4, _), (5, _), (7, _), (9, _)]) hx hb dX12_leastFrom_97 hl (k := 10) rfl (by rw [e_x12_64]; rfl) (by decide) rfl (fun ls hl => ?_)
                refine lv_goto (tgt := 21) hx hb dX12_leastFrom_100 (by decide) ?_
                obtain ⟨m21, hm21, h⟩ := h
                exact ih21 m21 hm21 _ _ _ _ _ _ h hw (lv_sub hl [3, 4, 5, 6, 7, 8, 9, 10, 1, 0] rfl)
        exact key21 _ _ _ _ _ _ _ h hw (lv_sub hl [2, 3, 4, 5, 6, 7, 8, 9, 1, 0] rfl)
  exact key8 _ _ _ _ _ _ _ h hw (lv_sub hl [2, 3, 4, 5, 6, 7, 1, 0] rfl)
theorem mtX12_leastFrom : Mth yX12_leastFrom cX12_leastFrom 14 (some .long) 5 := ⟨k_1214, k_50, by decide +kernel⟩
theorem tX12_leastFrom {l : Launch} {D : va_G} {cA : Nat → ClassId} {z0 : Nat} {σ : Me} {a0 : Nat} {x1 : Int32} {x2 : Int32} {x3 : Int32} {x4 : Int32} {y5 : Int64} {Q : Int64 → Me → Prop} (h : pX12_leastFrom σ a0 x1 x2 x3 x4 y5 Q) : Met l yX12_leastFrom (Cond.code yX12_leastFrom cX12_leastFrom 14 (some .long) :: gTab) rX12_leastFrom (PcM D cA z0 σ [.ref a0, .int x1, .int x2, .int x3, .int x4, .long y5]) (va_Ql Q (BM D cA z0) (AM z0)) 0 0 (AM z0) :=
  met_of (by decide) (Nat.le_of_ble_eq_true rfl) (fun hX hlk hr hn hw hl => wX12_leastFrom hX hlk hr h hw hl)
abbrev rX12_best : Room := { frames := 2, cells := 0, slots := 0, locals := 62 }
def pX12_best (σ : Me) (a0 : Nat) (x1 : Int32) (x2 : Int32) (x3 : Int32) (Q : Int32 → Me → Prop) : Prop := pX12_isPlace σ x1 (fun r1 σ2 => (r1 = 0 → Q ((-1 : Int32)) σ2) ∧ (¬ r1 = 0 → gT σ2 a0 = 12 ∧ pX12_isStart σ2 a0 x2 x3 (fun r4 σ5 => (r4 = 0 → Q ((-1 : Int32)) σ5) ∧ (¬ r4 = 0 → gT σ5 a0 = 12 ∧ pX12_needBook σ5 a0 x1 (fun r8 σ9 => (0 ≤ r8 → gT σ9 a0 = 12 ∧ pX12_allOf σ9 a0 x1 (fun r12 σ13 => ∀ x5_15 : Int64, x5_15 = (r12.toInt64) → ∃ I47 : Nat → Me → Int32 → Prop, (∀ (n47 : Nat) (σ16 : Me) (x9_17 : Int32), I47 n47 σ16 x9_17 → (((17000 : Int32)) ≤ x9_17 → ∃ I72 : Nat → Me → Int64 → Int32 → Prop, (∀ (n72 : Nat) (σ27 : Me) (x7_28 : Int64) (x9_29 : Int32), I72 n72 σ27 x7_28 x9_29 → (x3 ≤ x9_29 → gT σ27 a0 = 12 ∧ pX12_leastFrom σ27 a0 x1 x2 ((0 : Int32)) ((0 : Int32)) x7_28 (fun r110 σ111 => gT σ111 a0 = 12 ∧ pX12_tells σ111 a0 r110 (x7_28 * x5_15) (gI σ111 a0 47) (fun r114 σ115 => Q r114 σ115))) ∧ (¬ x3 ≤ x9_29 → gT σ27 a0 = 12 ∧ ∀ v_117 : Int32, v_117 = (if (gI σ27 a0 19) = 0 then ((0 : Int32)) else ((-12 : Int32))) → ∃ I93 : Nat → Me → Int32 → Prop, (∀ (n93 : Nat) (σ119 : Me) (x10_120 : Int32), I93 n93 σ119 x10_120 → gT σ119 a0 = 12 ∧ ((gI σ119 a0 17) < x10_120 → ∃ I193 : Nat → Me → Int32 → Prop, (∀ (n193 : Nat) (σ150 : Me) (x10_151 : Int32), I193 n193 σ150 x10_151 → (((17000 : Int32)) ≤ x10_151 → ∀ x7_154 : Int64, x7_154 = (x7_28 * x5_15) → ∀ x9_155 : Int32, x9_155 = x9_29 + 1 → ∃ m72 : Nat, m72 < n72 ∧ I72 m72 σ150 x7_154 x9_155) ∧ (¬ ((17000 : Int32)) ≤ x10_151 → gT σ150 a0 = 12 ∧ ∃ b157 : Nat, gP σ150 a0 45 = some b157 ∧ ∃ b158 : Nat, gP σ150 a0 46 = some b158 ∧ gT σ150 b158 = 21 ∧ vp_in x10_151 (gN σ150 b158) ∧ gT σ150 b157 = 21 ∧ vp_in x10_151 (gN σ150 b157) ∧ ∀ σ163 : Me, σ163 = sL σ150 b157 x10_151.toNatClampNeg (gL σ150 b158 x10_151.toNatClampNeg) → ∀ x10_164 : Int32, x10_164 = x10_151 + 1 → ∃ m193 : Nat, m193 < n193 ∧ I193 m193 σ163 x10_164)) ∧ ∃ n193 : Nat, I193 n193 σ119 ((0 : Int32))) ∧ (¬ (gI σ119 a0 17) < x10_120 → ∃ I105 : Nat → Me → Int32 → Prop, (∀ (n105 : Nat) (σ165 : Me) (x11_166 : Int32), I105 n105 σ165 x11_166 → gT σ165 a0 = 12 ∧ ∀ v_168 : Int32, v_168 = (if (gI σ165 a0 18) ≤ 0 then ((0 : Int32)) else ((12 : Int32))) → (v_168 < x11_166 → ∀ x10_171 : Int32, x10_171 = x10_120 + 1 → ∃ m93 : Nat, m93 < n93 ∧ I93 m93 σ165 x10_171) ∧ (¬ v_168 < x11_166 → ∃ I126 : Nat → Me → Int32 → Prop, (∀ (n126 : Nat) (σ172 : Me) (x12_173 : Int32), I126 n126 σ172 x12_173 → gT σ172 a0 = 12 ∧ ∀ v_175 : Int32, v_175 = (if (gI σ172 a0 18) ≤ ((1 : Int32)) then ((0 : Int32)) else ((12 : Int32))) → (v_175 < x12_173 → ∀ x11_178 : Int32, x11_178 = x11_166 + 1 → ∃ m105 : Nat, m105 < n105 ∧ I105 m105 σ172 x11_178) ∧ (¬ v_175 < x12_173 → ∃ b179 : Nat, gP σ172 a0 46 = some b179 ∧ pX12_stateOf σ172 x10_120 x11_166 x12_173 (fun r180 σ181 => gT σ181 a0 = 12 ∧ pX12_leastFrom σ181 a0 x1 x10_120 x11_166 x12_173 x7_28 (fun r182 σ183 => gT σ183 b179 = 21 ∧ vp_in r180 (gN σ183 b179) ∧ ∀ σ187 : Me, σ187 = sL σ183 b179 r180.toNatClampNeg r182 → ∀ x12_188 : Int32, x12_188 = x12_173 + 1 → ∃ m126 : Nat, m126 < n126 ∧ I126 m126 σ187 x12_188)))) ∧ ∃ n126 : Nat, I126 n126 σ165 ((0 : Int32)))) ∧ ∃ n105 : Nat, I105 n105 σ119 ((0 : Int32)))) ∧ ∃ n93 : Nat, I93 n93 σ27 v_117)) ∧ ∃ n72 : Nat, I72 n72 σ16 ((1 : Int64)) ((1 : Int32))) ∧ (¬ ((17000 : Int32)) ≤ x9_17 → gT σ16 a0 = 12 ∧ ∃ b193 : Nat, gP σ16 a0 45 = some b193 ∧ gT σ16 b193 = 21 ∧ vp_in x9_17 (gN σ16 b193) ∧ ∀ σ196 : Me, σ196 = sL σ16 b193 x9_17.toNatClampNeg ((0 : Int64)) → ∀ x9_197 : Int32, x9_197 = x9_17 + 1 → ∃ m47 : Nat, m47 < n47 ∧ I47 m47 σ196 x9_197)) ∧ ∃ n47 : Nat, I47 n47 σ13 ((0 : Int32)))) ∧ (¬ 0 ≤ r8 → Q r8 σ9))))))
set_option maxHeartbeats 4000000 in
set_option maxRecDepth 100000 in
theorem wX12_best {p : Program} {l : Launch} {e : Env} {s : State} {m : MethodId} {args : Array Value} {below : List Frame} {meth : Method} {c : Code} {D : va_G} {cA : Nat → ClassId} {z0 : Nat} (hX : Cx p m c cX12_best 13 s args RX12 D cA) (hlk : meth.locks = false) (hr : meth.sig.returnType = (some .int)) {σ : Me} {a0 : Nat} {x1 : Int32} {x2 : Int32} {x3 : Int32} {Q : Int32 → Me → Prop} (h : pX12_best σ a0 x1 x2 x3 Q) {H : Heap} {locs : List Loc} {ls : Array Slot} (hw : wS D cA z0 s σ H locs) (hl : lv_has ls 13 [(0, .ref a0), (1, .int x1), (2, .int x2), (3, .int x3)]) : W p l e rX12_best s m args below meth c H locs 0 0 (MQ below (va_Qi Q (BM D cA z0) (AM z0)) args s 0 0 (AM z0)) (F0 m 0 ls []) := by
  have hx := hX.1.1
  have hb := hX.1.2.1
  have hown := hX.1.2.2.2.1
  have hts := hX.1.2.2.2.2
  unfold pX12_best at h
  refine lv_iload_n hx hb dX12_best_0 rfl (lv_at hl 1 rfl) ?_
  refine m_ci (m_runS (rest := []) hX hw (tX12_isPlace h) mtX12_isPlace k_1069 k_1070 ⟨⟨rfl, rfl, Nat.le_of_ble_eq_true rfl, Nat.le_of_ble_eq_true rfl⟩, Nat.le_of_ble_eq_true rfl, Nat.le_of_ble_eq_true rfl⟩ rfl hl.1 rfl (Nat.le_of_ble_eq_true rfl) dX12_best_1) hw (fun r1 σ2 H locs h hw => ?_)
  refine lv_if_eq (tgt := 16) hx hb dX12_best_4 (by decide) (fun hc3 => ?_) (fun hc3 => ?_)
  · have h := h.1 hc3
    refine lv_iconst (v := (-1)) hx hb dX12_best_16 (by decide) ?_
    exact m_iret hX hlk hr hw h dX12_best_17
  · have h := h.2 hc3
    refine lv_aload_n hx hb dX12_best_7 rfl (lv_at hl 0 rfl) ?_
    refine lv_iload_n hx hb dX12_best_8 rfl (lv_at hl 2 rfl) ?_
    refine lv_iload_n hx hb dX12_best_9 rfl (lv_at hl 3 rfl) ?_
    obtain ⟨hT6, h⟩ := h
    refine m_ci (m_runV (rest := []) hX hw (tX12_isStart h) mtX12_isStart k_1169 ⟨k_1171, k_32⟩ cl12 hT6 ⟨⟨rfl, rfl, Nat.le_of_ble_eq_true rfl, Nat.le_of_ble_eq_true rfl⟩, Nat.le_of_ble_eq_true rfl, Nat.le_of_ble_eq_true rfl⟩ rfl hl.1 rfl (Nat.le_of_ble_eq_true rfl) dX12_best_10) hw (fun r4 σ5 H locs h hw => ?_)
    refine lv_if_ne (tgt := 18) hx hb dX12_best_13 (by decide) (fun hc7 => ?_) (fun hc7 => ?_)
    · have h := h.2 hc7
      refine lv_aload_n hx hb dX12_best_18 rfl (lv_at hl 0 rfl) ?_
      refine lv_iload_n hx hb dX12_best_19 rfl (lv_at hl 1 rfl) ?_
      obtain ⟨hT10, h⟩ := h
      refine m_ci (m_runV (rest := []) hX hw (tX12_needBook h) mtX12_needBook k_1173 ⟨k_1175, k_33⟩ cl12 hT10 ⟨⟨rfl, rfl, Nat.le_of_ble_eq_true rfl, Nat.le_of_ble_eq_true rfl⟩, Nat.le_of_ble_eq_true rfl, Nat.le_of_ble_eq_true rfl⟩ rfl hl.1 rfl (Nat.le_of_ble_eq_true rfl) dX12_best_20) hw (fun r8 σ9 H locs h hw => ?_)
      refine lv_istore (lv' := [(4, _), (0, _), (1, _), (2, _), (3, _)]) hx hb dX12_best_23 hl (by decide) rfl (fun ls hl => ?_)
      refine lv_iload hx hb dX12_best_25 (lv_at hl 0 rfl) ?_
      refine lv_if_ge (tgt := 33) hx hb dX12_best_27 (by decide) (fun hc11 => ?_) (fun hc11 => ?_)
      · have h := h.1 hc11
        refine lv_aload_n hx hb dX12_best_33 rfl (lv_at hl 1 rfl) ?_
        refine lv_iload_n hx hb dX12_best_34 rfl (lv_at hl 2 rfl) ?_
        obtain ⟨hT14, h⟩ := h
        refine m_ci (m_runV (rest := []) hX hw (tX12_allOf h) mtX12_allOf k_1093 ⟨k_1095, k_25⟩ cl12 hT14 ⟨⟨rfl, rfl, Nat.le_of_ble_eq_true rfl, Nat.le_of_ble_eq_true rfl⟩, Nat.le_of_ble_eq_true rfl, Nat.le_of_ble_eq_true rfl⟩ rfl hl.1 rfl (Nat.le_of_ble_eq_true rfl) dX12_best_35) hw (fun r12 σ13 H locs h hw => ?_)
        refine lv_i2l hx hb dX12_best_38 rfl ?_
        refine lv_topl (fun x5_15 e_x5_15 => ?_)
        have h := h x5_15 e_x5_15
        refine lv_lstore (lv' := [(5, _), (4, _), (0, _), (1, _), (2, _), (3, _)]) hx hb dX12_best_39 hl (by decide) rfl (fun ls hl => ?_)
        refine lv_lconst (v := 1) hx hb dX12_best_41 (by decide) ?_
        refine lv_lstore (lv' := [(7, _), (5, _), (4, _), (0, _), (1, _), (2, _), (3, _)]) hx hb dX12_best_42 hl (by decide) rfl (fun ls hl => ?_)
        refine lv_iconst (v := 0) hx hb dX12_best_44 (by decide) ?_
        refine lv_istore (lv' := [(9, _), (7, _), (5, _), (4, _), (0, _), (1, _), (2, _), (3, _)]) hx hb dX12_best_45 hl (by decide) rfl (fun ls hl => ?_)
        obtain ⟨I47, hI47, n47, h⟩ := h
        have key47 : ∀ (n47 : Nat) (σ16 : Me) (x9_17 : Int32) (H : Heap) (locs : List Loc) (ls : Array Slot), I47 n47 σ16 x9_17 → wS D cA z0 s σ16 H locs → lv_has ls 13 [(0, .ref a0), (1, .int x1), (2, .int x2), (3, .int x3), (5, .long x5_15), (7, .long ((1 : Int64))), (9, .int x9_17)] → W p l e rX12_best s m args below meth c H locs 0 0 (MQ below (va_Qi Q (BM D cA z0) (AM z0)) args s 0 0 (AM z0)) (F0 m 47 ls []) := by
          intro n47
          induction n47 using Nat.strongRecOn with
          | _ n47 ih47 =>
            intro σ16 x9_17 H locs ls h hw hl
            have h := hI47 _ _ _ h
            refine lv_iload hx hb dX12_best_47 (lv_at hl 6 rfl) ?_
            refine lv_sipush (v := 17000) hx hb dX12_best_49 (by decide) ?_
            refine lv_icmp_ge (tgt := 69) hx hb dX12_best_52 (by decide) (fun hc26 => ?_) (fun hc26 => ?_)
            · have h := h.1 hc26
              refine lv_iconst (v := 1) hx hb dX12_best_69 (by decide) ?_
              refine lv_istore (lv' := [(9, _), (0, _), (1, _), (2, _), (3, _), (5, _), (7, _)]) hx hb dX12_best_70 hl (by decide) rfl (fun ls hl => ?_)
              obtain ⟨I72, hI72, n72, h⟩ := h
              have key72 : ∀ (n72 : Nat) (σ27 : Me) (x7_28 : Int64) (x9_29 : Int32) (H : Heap) (locs : List Loc) (ls : Array Slot), I72 n72 σ27 x7_28 x9_29 → wS D cA z0 s σ27 H locs → lv_has ls 13 [(0, .ref a0), (1, .int x1), (2, .int x2), (3, .int x3), (5, .long x5_15), (7, .long x7_28), (9, .int x9_29)] → W p l e rX12_best s m args below meth c H locs 0 0 (MQ below (va_Qi Q (BM D cA z0) (AM z0)) args s 0 0 (AM z0)) (F0 m 72 ls []) := by
                intro n72
                induction n72 using Nat.strongRecOn with
                | _ n72 ih72 =>
                  intro σ27 x7_28 x9_29 H locs ls h hw hl
                  have h := hI72 _ _ _ _ h
                  refine lv_iload hx hb dX12_best_72 (lv_at hl 6 rfl) ?_
                  refine lv_iload_n hx hb dX12_best_74 rfl (lv_at hl 3 rfl) ?_
                  refine lv_icmp_ge (tgt := 234) hx hb dX12_best_75 (by decide) (fun hc109 => ?_) (fun hc109 => ?_)
                  · have h := h.1 hc109
                    refine lv_aload_n hx hb dX12_best_234 rfl (lv_at hl 0 rfl) ?_
                    refine lv_iload_n hx hb dX12_best_235 rfl (lv_at hl 1 rfl) ?_
                    refine lv_iload_n hx hb dX12_best_236 rfl (lv_at hl 2 rfl) ?_
                    refine lv_iconst (v := 0) hx hb dX12_best_237 (by decide) ?_
                    refine lv_iconst (v := 0) hx hb dX12_best_238 (by decide) ?_
                    refine lv_lload hx hb dX12_best_239 (lv_at hl 5 rfl) ?_
                    obtain ⟨hT112, h⟩ := h
                    refine m_cl (m_runV (rest := []) hX hw (tX12_leastFrom h) mtX12_leastFrom k_1211 ⟨k_1213, k_39⟩ cl12 hT112 ⟨⟨rfl, rfl, Nat.le_of_ble_eq_true rfl, Nat.le_of_ble_eq_true rfl⟩, Nat.le_of_ble_eq_true rfl, Nat.le_of_ble_eq_true rfl⟩ rfl hl.1 rfl (Nat.le_of_ble_eq_true rfl) dX12_best_241) hw (fun r110 σ111 H locs h hw => ?_)
                    refine lv_lstore (lv' := [(9, _), (0, _), (1, _), (2, _), (3, _), (5, _), (7, _)]) hx hb dX12_best_244 hl (by decide) rfl (fun ls hl => ?_)
                    refine lv_aload_n hx hb dX12_best_246 rfl (lv_at hl 1 rfl) ?_
                    refine lv_lload hx hb dX12_best_247 (lv_at hl 0 rfl) ?_
                    refine lv_lload hx hb dX12_best_249 (lv_at hl 6 rfl) ?_
                    refine lv_lload hx hb dX12_best_251 (lv_at hl 5 rfl) ?_
                    refine lv_lmul hx hb dX12_best_253 ?_
                    refine lv_aload_n hx hb dX12_best_254 rfl (lv_at hl 1 rfl) ?_
                    obtain ⟨hT113, h⟩ := h
                    refine m_get hX hw cl12 hT113 47 (by decide) k_921 (fun _ h => h) (v := .int _) rfl dX12_best_255 ?_
                    refine m_ci (m_runV (rest := []) hX hw (tX12_tells h) mtX12_tells k_1196 ⟨k_1198, k_38⟩ cl12 hT113 ⟨⟨rfl, rfl, Nat.le_of_ble_eq_true rfl, Nat.le_of_ble_eq_true rfl⟩, Nat.le_of_ble_eq_true rfl, Nat.le_of_ble_eq_true rfl⟩ rfl hl.1 rfl (Nat.le_of_ble_eq_true rfl) dX12_best_258) hw (fun r114 σ115 H locs h hw => ?_)
                    exact m_iret hX hlk hr hw h dX12_best_261
                  · have h := h.2 hc109
                    refine lv_aload_n hx hb dX12_best_78 rfl (lv_at hl 0 rfl) ?_
                    obtain ⟨hT116, h⟩ := h
                    refine m_get hX hw cl12 hT116 19 (by decide) k_893 (fun _ h => h) (v := .int _) rfl dX12_best_79 ?_
                    have kM118 : ∀ (v_117 : Int32) (ls : Array Slot), v_117 = (if (gI σ27 a0 19) = 0 then ((0 : Int32)) else ((-12 : Int32))) → lv_has ls 13 [(0, .ref a0), (1, .int x1), (2, .int x2), (3, .int x3), (5, .long x5_15), (7, .long x7_28), (9, .int x9_29)] → W p l e rX12_best s m args below meth c H locs 0 0 (MQ below (va_Qi Q (BM D cA z0) (AM z0)) args s 0 0 (AM z0)) (F0 m 91 ls [.int v_117]) := by
                      intro v_117 ls e_v_117 hl
                      have h := h v_117 e_v_117
                      refine lv_istore (lv' := [(10, _), (0, _), (1, _), (2, _), (3, _), (5, _), (7, _), (9, _)]) hx hb dX12_best_91 hl (by decide) rfl (fun ls hl => ?_)
                      obtain ⟨I93, hI93, n93, h⟩ := h
                      have key93 : ∀ (n93 : Nat) (σ119 : Me) (x10_120 : Int32) (H : Heap) (locs : List Loc) (ls : Array Slot), I93 n93 σ119 x10_120 → wS D cA z0 s σ119 H locs → lv_has ls 13 [(0, .ref a0), (1, .int x1), (2, .int x2), (3, .int x3), (5, .long x5_15), (7, .long x7_28), (9, .int x9_29), (10, .int x10_120)] → W p l e rX12_best s m args below meth c H locs 0 0 (MQ below (va_Qi Q (BM D cA z0) (AM z0)) args s 0 0 (AM z0)) (F0 m 93 ls []) := by
                        intro n93
                        induction n93 using Nat.strongRecOn with
                        | _ n93 ih93 =>
                          intro σ119 x10_120 H locs ls h hw hl
                          have h := hI93 _ _ _ h
                          refine lv_iload hx hb dX12_best_93 (lv_at hl 7 rfl) ?_
                          refine lv_aload_n hx hb dX12_best_95 rfl (lv_at hl 0 rfl) ?_
                          obtain ⟨hT121, h⟩ := h
                          refine m_get hX hw cl12 hT121 17 (by decide) k_891 (fun _ h => h) (v := .int _) rfl dX12_best_96 ?_
                          refine lv_icmp_gt (tgt := 190) hx hb dX12_best_99 (by decide) (fun hc149 => ?_) (fun hc149 => ?_)
                          · have h := h.1 hc149
                            refine lv_iconst (v := 0) hx hb dX12_best_190 (by decide) ?_
                            refine lv_istore (lv' := [(10, _), (0, _), (1, _), (2, _), (3, _), (5, _), (7, _), (9, _)]) hx hb dX12_best_191 hl (by decide) rfl (fun ls hl => ?_)
                            obtain ⟨I193, hI193, n193, h⟩ := h
                            have key193 : ∀ (n193 : Nat) (σ150 : Me) (x10_151 : Int32) (H : Heap) (locs : List Loc) (ls : Array Slot), I193 n193 σ150 x10_151 → wS D cA z0 s σ150 H locs → lv_has ls 13 [(0, .ref a0), (1, .int x1), (2, .int x2), (3, .int x3), (5, .long x5_15), (7, .long x7_28), (9, .int x9_29), (10, .int x10_151)] → W p l e rX12_best s m args below meth c H locs 0 0 (MQ below (va_Qi Q (BM D cA z0) (AM z0)) args s 0 0 (AM z0)) (F0 m 193 ls []) := by
                              intro n193
                              induction n193 using Nat.strongRecOn with
                              | _ n193 ih193 =>
                                intro σ150 x10_151 H locs ls h hw hl
                                have h := hI193 _ _ _ h
                                refine lv_iload hx hb dX12_best_193 (lv_at hl 7 rfl) ?_
                                refine lv_sipush (v := 17000) hx hb dX12_best_195 (by decide) ?_
                                refine lv_icmp_ge (tgt := 221) hx hb dX12_best_198 (by decide) (fun hc153 => ?_) (fun hc153 => ?_)
                                · have h := h.1 hc153
                                  refine lv_lload hx hb dX12_best_221 (lv_at hl 5 rfl) ?_
                                  refine lv_lload hx hb dX12_best_223 (lv_at hl 4 rfl) ?_
                                  refine lv_lmul hx hb dX12_best_225 ?_
                                  refine lv_topl (fun x7_154 e_x7_154 => ?_)
                                  have h := h x7_154 e_x7_154
                                  refine lv_lstore (lv' := [(7, _), (0, _), (1, _), (2, _), (3, _), (5, _), (9, _), (10, _)]) hx hb dX12_best_226 hl (by decide) rfl (fun ls hl => ?_)
                                  obtain ⟨x9_155, e_x9_155⟩ : ∃ y : Int32, y = x9_29 + 1 := ⟨_, rfl⟩
                                  have h := h x9_155 e_x9_155
                                  refine lv_iinc (v := x9_155) (lv' := [(9, _), (7, _), (0, _), (1, _), (2, _), (3, _), (5, _), (10, _)]) hx hb dX12_best_228 hl (k := 6) rfl (by rw [e_x9_155]; rfl) (by decide) rfl (fun ls hl => ?_)
                                  refine lv_goto (tgt := 72) hx hb dX12_best_231 (by decide) ?_
                                  obtain ⟨m72, hm72, h⟩ := h
                                  exact ih72 m72 hm72 _ _ _ _ _ _ h hw (lv_sub hl [2, 3, 4, 5, 6, 1, 0] rfl)
                                · have h := h.2 hc153
                                  refine lv_aload_n hx hb dX12_best_201 rfl (lv_at hl 0 rfl) ?_
                                  obtain ⟨hT156, h⟩ := h
                                  obtain ⟨b157, hb157, h⟩ := h
                                  refine m_get hX hw cl12 hT156 45 (by decide) k_919 (fun _ h => h) (v := .ref b157) (congrArg va_rf hb157) dX12_best_202 ?_
                                  refine lv_iload hx hb dX12_best_205 (lv_at hl 7 rfl) ?_
                                  refine lv_aload_n hx hb dX12_best_207 rfl (lv_at hl 0 rfl) ?_
                                  obtain ⟨b158, hb158, h⟩ := h
                                  refine m_get hX hw cl12 hT156 46 (by decide) k_920 (fun _ h => h) (v := .ref b158) (congrArg va_rf hb158) dX12_best_208 ?_
                                  refine lv_iload hx hb dX12_best_211 (lv_at hl 7 rfl) ?_
                                  obtain ⟨hT159, h⟩ := h
                                  obtain ⟨hc160, h⟩ := h
                                  refine m_lald hX hw hT159 hc160 dX12_best_213 ?_
                                  obtain ⟨hT161, h⟩ := h
                                  obtain ⟨hc162, h⟩ := h
                                  refine m_last hX hw hT161 hc162 dX12_best_214 (fun H locs hw => ?_)
                                  let σ163 : Me := sL σ150 b157 x10_151.toNatClampNeg (gL σ150 b158 x10_151.toNatClampNeg)
                                  have h := h σ163 rfl
                                  have hw : wS D cA z0 s σ163 H locs := hw
                                  obtain ⟨x10_164, e_x10_164⟩ : ∃ y : Int32, y = x10_151 + 1 := ⟨_, rfl⟩
                                  have h := h x10_164 e_x10_164
                                  refine lv_iinc (v := x10_164) (lv' := [(10, _), (0, _), (1, _), (2, _), (3, _), (5, _), (7, _), (9, _)]) hx hb dX12_best_215 hl (k := 7) rfl (by rw [e_x10_164]; rfl) (by decide) rfl (fun ls hl => ?_)
                                  refine lv_goto (tgt := 193) hx hb dX12_best_218 (by decide) ?_
                                  obtain ⟨m193, hm193, h⟩ := h
                                  exact ih193 m193 hm193 _ _ _ _ _ h hw (lv_sub hl [1, 2, 3, 4, 5, 6, 7, 0] rfl)
                            exact key193 _ _ _ _ _ _ h hw (lv_sub hl [1, 2, 3, 4, 5, 6, 7, 0] rfl)
                          · have h := h.2 hc149
                            refine lv_iconst (v := 0) hx hb dX12_best_102 (by decide) ?_
                            refine lv_istore (lv' := [(11, _), (0, _), (1, _), (2, _), (3, _), (5, _), (7, _), (9, _), (10, _)]) hx hb dX12_best_103 hl (by decide) rfl (fun ls hl => ?_)
                            obtain ⟨I105, hI105, n105, h⟩ := h
                            have key105 : ∀ (n105 : Nat) (σ165 : Me) (x11_166 : Int32) (H : Heap) (locs : List Loc) (ls : Array Slot), I105 n105 σ165 x11_166 → wS D cA z0 s σ165 H locs → lv_has ls 13 [(0, .ref a0), (1, .int x1), (2, .int x2), (3, .int x3), (5, .long x5_15), (7, .long x7_28), (9, .int x9_29), (10, .int x10_120), (11, .int x11_166)] → W p l e rX12_best s m args below meth c H locs 0 0 (MQ below (va_Qi Q (BM D cA z0) (AM z0)) args s 0 0 (AM z0)) (F0 m 105 ls []) := by
                              intro n105
                              induction n105 using Nat.strongRecOn with
                              | _ n105 ih105 =>
                                intro σ165 x11_166 H locs ls h hw hl
                                have h := hI105 _ _ _ h
                                refine lv_iload hx hb dX12_best_105 (lv_at hl 8 rfl) ?_
                                refine lv_aload_n hx hb dX12_best_107 rfl (lv_at hl 0 rfl) ?_
                                obtain ⟨hT167, h⟩ := h
                                refine m_get hX hw cl12 hT167 18 (by decide) k_892 (fun _ h => h) (v := .int _) rfl dX12_best_108 ?_
                                have kM169 : ∀ (v_168 : Int32) (ls : Array Slot), v_168 = (if (gI σ165 a0 18) ≤ 0 then ((0 : Int32)) else ((12 : Int32))) → lv_has ls 13 [(0, .ref a0), (1, .int x1), (2, .int x2), (3, .int x3), (5, .long x5_15), (7, .long x7_28), (9, .int x9_29), (10, .int x10_120), (11, .int x11_166)] → W p l e rX12_best s m args below meth c H locs 0 0 (MQ below (va_Qi Q (BM D cA z0) (AM z0)) args s 0 0 (AM z0)) (F0 m 120 ls [.int v_168, .int x11_166]) := by
                                  intro v_168 ls e_v_168 hl
                                  have h := h v_168 e_v_168
                                  refine lv_icmp_gt (tgt := 184) hx hb dX12_best_120 (by decide) (fun hc170 => ?_) (fun hc170 => ?_)
                                  · have h := h.1 hc170
                                    obtain ⟨x10_171, e_x10_171⟩ : ∃ y : Int32, y = x10_120 + 1 := ⟨_, rfl⟩
                                    have h := h x10_171 e_x10_171
                                    refine lv_iinc (v := x10_171) (lv' := [(10, _), (0, _), (1, _), (2, _), (3, _), (5, _), (7, _), (9, _), (11, _)]) hx hb dX12_best_184 hl (k := 7) rfl (by rw [e_x10_171]; rfl) (by decide) rfl (fun ls hl => ?_)
                                    refine lv_goto (tgt := 93) hx hb dX12_best_187 (by decide) ?_
                                    obtain ⟨m93, hm93, h⟩ := h
                                    exact ih93 m93 hm93 _ _ _ _ _ h hw (lv_sub hl [1, 2, 3, 4, 5, 6, 7, 0] rfl)
                                  · have h := h.2 hc170
                                    refine lv_iconst (v := 0) hx hb dX12_best_123 (by decide) ?_
                                    refine lv_istore (lv' := [(12, _), (0, _), (1, _), (2, _), (3, _), (5, _), (7, _), (9, _), (10, _), (11, _)]) hx hb dX12_best_124 hl (by decide) rfl (fun ls hl => ?_)
                                    obtain ⟨I126, hI126, n126, h⟩ := h
                                    have key126 : ∀ (n126 : Nat) (σ172 : Me) (x12_173 : Int32) (H : Heap) (locs : List Loc) (ls : Array Slot), I126 n126 σ172 x12_173 → wS D cA z0 s σ172 H locs → lv_has ls 13 [(0, .ref a0), (1, .int x1), (2, .int x2), (3, .int x3), (5, .long x5_15), (7, .long x7_28), (9, .int x9_29), (10, .int x10_120), (11, .int x11_166), (12, .int x12_173)] → W p l e rX12_best s m args below meth c H locs 0 0 (MQ below (va_Qi Q (BM D cA z0) (AM z0)) args s 0 0 (AM z0)) (F0 m 126 ls []) := by
                                      intro n126
                                      induction n126 using Nat.strongRecOn with
                                      | _ n126 ih126 =>
                                        intro σ172 x12_173 H locs ls h hw hl
                                        have h := hI126 _ _ _ h
                                        refine lv_iload hx hb dX12_best_126 (lv_at hl 9 rfl) ?_
                                        refine lv_aload_n hx hb dX12_best_128 rfl (lv_at hl 0 rfl) ?_
                                        obtain ⟨hT174, h⟩ := h
                                        refine m_get hX hw cl12 hT174 18 (by decide) k_892 (fun _ h => h) (v := .int _) rfl dX12_best_129 ?_
                                        refine lv_iconst (v := 1) hx hb dX12_best_132 (by decide) ?_
                                        have kM176 : ∀ (v_175 : Int32) (ls : Array Slot), v_175 = (if (gI σ172 a0 18) ≤ ((1 : Int32)) then ((0 : Int32)) else ((12 : Int32))) → lv_has ls 13 [(0, .ref a0), (1, .int x1), (2, .int x2), (3, .int x3), (5, .long x5_15), (7, .long x7_28), (9, .int x9_29), (10, .int x10_120), (11, .int x11_166), (12, .int x12_173)] → W p l e rX12_best s m args below meth c H locs 0 0 (MQ below (va_Qi Q (BM D cA z0) (AM z0)) args s 0 0 (AM z0)) (F0 m 142 ls [.int v_175, .int x12_173]) := by
                                          intro v_175 ls e_v_175 hl
                                          have h := h v_175 e_v_175
                                          refine lv_icmp_gt (tgt := 178) hx hb dX12_best_142 (by decide) (fun hc177 => ?_) (fun hc177 => ?_)
                                          · have h := h.1 hc177
                                            obtain ⟨x11_178, e_x11_178⟩ : ∃ y : Int32, y = x11_166 + 1 := ⟨_, rfl⟩
                                            have h := h x11_178 e_x11_178
                                            refine lv_iinc (v := x11_178) (lv' := [(11, _), (0, _), (1, _), (2, _), (3, _), (5, _), (7, _), (9, _), (10, _), (12, _)]) hx hb dX12_best_178 hl (k := 8) rfl (by rw [e_x11_178]; rfl) (by decide) rfl (fun ls hl => ?_)
                                            refine lv_goto (tgt := 105) hx hb dX12_best_181 (by decide) ?_
                                            obtain ⟨m105, hm105, h⟩ := h
                                            exact ih105 m105 hm105 _ _ _ _ _ h hw (lv_sub hl [1, 2, 3, 4, 5, 6, 7, 8, 0] rfl)
                                          · have h := h.2 hc177
                                            refine lv_aload_n hx hb dX12_best_145 rfl (lv_at hl 0 rfl) ?_
                                            obtain ⟨b179, hb179, h⟩ := h
                                            refine m_get hX hw cl12 hT174 46 (by decide) k_920 (fun _ h => h) (v := .ref b179) (congrArg va_rf hb179) dX12_best_146 ?_
                                            refine lv_iload hx hb dX12_best_149 (lv_at hl 7 rfl) ?_
                                            refine lv_iload hx hb dX12_best_151 (lv_at hl 8 rfl) ?_
                                            refine lv_iload hx hb dX12_best_153 (lv_at hl 9 rfl) ?_
                                            refine m_ci (m_runS (rest := [_]) hX hw (tX12_stateOf h) mtX12_stateOf k_1181 k_1182 ⟨⟨rfl, rfl, Nat.le_of_ble_eq_true rfl, Nat.le_of_ble_eq_true rfl⟩, Nat.le_of_ble_eq_true rfl, Nat.le_of_ble_eq_true rfl⟩ rfl hl.1 rfl (Nat.le_of_ble_eq_true rfl) dX12_best_155) hw (fun r180 σ181 H locs h hw => ?_)
                                            refine lv_aload_n hx hb dX12_best_158 rfl (lv_at hl 0 rfl) ?_
                                            refine lv_iload_n hx hb dX12_best_159 rfl (lv_at hl 1 rfl) ?_
                                            refine lv_iload hx hb dX12_best_160 (lv_at hl 7 rfl) ?_
                                            refine lv_iload hx hb dX12_best_162 (lv_at hl 8 rfl) ?_
                                            refine lv_iload hx hb dX12_best_164 (lv_at hl 9 rfl) ?_
                                            refine lv_lload hx hb dX12_best_166 (lv_at hl 5 rfl) ?_
                                            obtain ⟨hT184, h⟩ := h
                                            refine m_cl (m_runV (rest := [_, _]) hX hw (tX12_leastFrom h) mtX12_leastFrom k_1211 ⟨k_1213, k_39⟩ cl12 hT184 ⟨⟨rfl, rfl, Nat.le_of_ble_eq_true rfl, Nat.le_of_ble_eq_true rfl⟩, Nat.le_of_ble_eq_true rfl, Nat.le_of_ble_eq_true rfl⟩ rfl hl.1 rfl (Nat.le_of_ble_eq_true rfl) dX12_best_168) hw (fun r182 σ183 H locs h hw => ?_)
                                            obtain ⟨hT185, h⟩ := h
                                            obtain ⟨hc186, h⟩ := h
                                            refine m_last hX hw hT185 hc186 dX12_best_171 (fun H locs hw => ?_)
                                            let σ187 : Me := sL σ183 b179 r180.toNatClampNeg r182
                                            have h := h σ187 rfl
                                            have hw : wS D cA z0 s σ187 H locs := hw
                                            obtain ⟨x12_188, e_x12_188⟩ : ∃ y : Int32, y = x12_173 + 1 := ⟨_, rfl⟩
                                            have h := h x12_188 e_x12_188
                                            refine lv_iinc (v := x12_188) (lv' := [(12, _), (0, _), (1, _), (2, _), (3, _), (5, _), (7, _), (9, _), (10, _), (11, _)]) hx hb dX12_best_172 hl (k := 9) rfl (by rw [e_x12_188]; rfl) (by decide) rfl (fun ls hl => ?_)
                                            refine lv_goto (tgt := 126) hx hb dX12_best_175 (by decide) ?_
                                            obtain ⟨m126, hm126, h⟩ := h
                                            exact ih126 m126 hm126 _ _ _ _ _ h hw (lv_sub hl [1, 2, 3, 4, 5, 6, 7, 8, 9, 0] rfl)
                                        refine lv_icmp_le (tgt := 141) hx hb dX12_best_133 (by decide) (fun hc189 => ?_) (fun hc189 => ?_)
                                        · refine lv_iconst (v := 0) hx hb dX12_best_141 (by decide) ?_
                                          exact kM176 _ _ (by first | rfl | rw [if_pos hc189] | simp only [if_pos hc189]) (lv_sub hl [0, 1, 2, 3, 4, 5, 6, 7, 8, 9] rfl)
                                        · refine lv_bipush (v := 12) hx hb dX12_best_136 (by decide) ?_
                                          refine lv_goto (tgt := 142) hx hb dX12_best_138 (by decide) ?_
                                          exact kM176 _ _ (by first | rfl | rw [if_neg hc189] | simp only [if_neg hc189]) (lv_sub hl [0, 1, 2, 3, 4, 5, 6, 7, 8, 9] rfl)
                                    exact key126 _ _ _ _ _ _ h hw (lv_sub hl [1, 2, 3, 4, 5, 6, 7, 8, 9, 0] rfl)
                                refine lv_if_le (tgt := 119) hx hb dX12_best_111 (by decide) (fun hc190 => ?_) (fun hc190 => ?_)
                                · refine lv_iconst (v := 0) hx hb dX12_best_119 (by decide) ?_
                                  exact kM169 _ _ (by first | rfl | rw [if_pos hc190] | simp only [if_pos hc190]) (lv_sub hl [0, 1, 2, 3, 4, 5, 6, 7, 8] rfl)
                                · refine lv_bipush (v := 12) hx hb dX12_best_114 (by decide) ?_
                                  refine lv_goto (tgt := 120) hx hb dX12_best_116 (by decide) ?_
                                  exact kM169 _ _ (by first | rfl | rw [if_neg hc190] | simp only [if_neg hc190]) (lv_sub hl [0, 1, 2, 3, 4, 5, 6, 7, 8] rfl)
                            exact key105 _ _ _ _ _ _ h hw (lv_sub hl [1, 2, 3, 4, 5, 6, 7, 8, 0] rfl)
                      exact key93 _ _ _ _ _ _ h hw (lv_sub hl [1, 2, 3, 4, 5, 6, 7, 0] rfl)
                    refine lv_if_eq (tgt := 90) hx hb dX12_best_82 (by decide) (fun hc191 => ?_) (fun hc191 => ?_)
                    · refine lv_iconst (v := 0) hx hb dX12_best_90 (by decide) ?_
                      exact kM118 _ _ (by first | rfl | rw [if_pos hc191] | simp only [if_pos hc191]) (lv_sub hl [0, 1, 2, 3, 4, 5, 6] rfl)
                    · refine lv_bipush (v := (-12)) hx hb dX12_best_85 (by decide) ?_
                      refine lv_goto (tgt := 91) hx hb dX12_best_87 (by decide) ?_
                      exact kM118 _ _ (by first | rfl | rw [if_neg hc191] | simp only [if_neg hc191]) (lv_sub hl [0, 1, 2, 3, 4, 5, 6] rfl)
              exact key72 _ _ _ _ _ _ _ h hw (lv_sub hl [1, 2, 3, 4, 5, 6, 0] rfl)
            · have h := h.2 hc26
              refine lv_aload_n hx hb dX12_best_55 rfl (lv_at hl 0 rfl) ?_
              obtain ⟨hT192, h⟩ := h
              obtain ⟨b193, hb193, h⟩ := h
              refine m_get hX hw cl12 hT192 45 (by decide) k_919 (fun _ h => h) (v := .ref b193) (congrArg va_rf hb193) dX12_best_56 ?_
              refine lv_iload hx hb dX12_best_59 (lv_at hl 6 rfl) ?_
              refine lv_lconst (v := 0) hx hb dX12_best_61 (by decide) ?_
              obtain ⟨hT194, h⟩ := h
              obtain ⟨hc195, h⟩ := h
              refine m_last hX hw hT194 hc195 dX12_best_62 (fun H locs hw => ?_)
              let σ196 : Me := sL σ16 b193 x9_17.toNatClampNeg ((0 : Int64))
              have h := h σ196 rfl
              have hw : wS D cA z0 s σ196 H locs := hw
              obtain ⟨x9_197, e_x9_197⟩ : ∃ y : Int32, y = x9_17 + 1 := ⟨_, rfl⟩
              have h := h x9_197 e_x9_197
              refine lv_iinc (v := x9_197) (lv' := [(9, _), (0, _), (1, _), (2, _), (3, _), (5, _), (7, _)]) hx hb dX12_best_63 hl (k := 6) rfl (by rw [e_x9_197]; rfl) (by decide) rfl (fun ls hl => ?_)
              refine lv_goto (tgt := 47) hx hb dX12_best_66 (by decide) ?_
              obtain ⟨m47, hm47, h⟩ := h
              exact ih47 m47 hm47 _ _ _ _ _ h hw (lv_sub hl [1, 2, 3, 4, 5, 6, 0] rfl)
        exact key47 _ _ _ _ _ _ h hw (lv_sub hl [4, 5, 6, 7, 2, 1, 0] rfl)
      · have h := h.2 hc11
        refine lv_iload hx hb dX12_best_30 (lv_at hl 0 rfl) ?_
        exact m_iret hX hlk hr hw h dX12_best_32
    · have h := h.1 hc7
      refine lv_iconst (v := (-1)) hx hb dX12_best_16 (by decide) ?_
      exact m_iret hX hlk hr hw h dX12_best_17
theorem mtX12_best : Mth yX12_best cX12_best 13 (some .int) 3 := ⟨k_1210, k_50, by decide +kernel⟩
theorem tX12_best {l : Launch} {D : va_G} {cA : Nat → ClassId} {z0 : Nat} {σ : Me} {a0 : Nat} {x1 : Int32} {x2 : Int32} {x3 : Int32} {Q : Int32 → Me → Prop} (h : pX12_best σ a0 x1 x2 x3 Q) : Met l yX12_best (Cond.code yX12_best cX12_best 13 (some .int) :: gTab) rX12_best (PcM D cA z0 σ [.ref a0, .int x1, .int x2, .int x3]) (va_Qi Q (BM D cA z0) (AM z0)) 0 0 (AM z0) :=
  met_of (by decide) (Nat.le_of_ble_eq_true rfl) (fun hX hlk hr hn hw hl => wX12_best hX hlk hr h hw hl)
abbrev rX12_goThroughPair : Room := { frames := 1, cells := 0, slots := 0, locals := 29 }
def pX12_goThroughPair (σ : Me) (a0 : Nat) (x1 : Int32) (x2 : Int32) (x3 : Int32) (Q : Me → Prop) : Prop := gT σ a0 = 12 ∧ pX12_allOf σ a0 x1 (fun r1 σ2 => ∀ x4_4 : Int64, x4_4 = (r1.toInt64) → gT σ2 a0 = 12 ∧ ∀ σ6 : Me, σ6 = sL σ2 a0 39 ((0 : Int64)) → ∀ σ7 : Me, σ7 = sL σ6 a0 44 ((1 : Int64)) → ∃ b8 : Nat, gP σ7 a0 30 = some b8 ∧ pX12_stateOf σ7 x2 ((0 : Int32)) ((0 : Int32)) (fun r9 σ10 => gT σ10 b8 = 20 ∧ vp_in ((0 : Int32)) (gN σ10 b8) ∧ ∀ σ13 : Me, σ13 = sI σ10 b8 ((0 : Int32)).toNatClampNeg r9 → gT σ13 a0 = 12 ∧ ∃ b15 : Nat, gP σ13 a0 31 = some b15 ∧ gT σ13 b15 = 21 ∧ vp_in ((0 : Int32)) (gN σ13 b15) ∧ ∀ σ18 : Me, σ18 = sL σ13 b15 ((0 : Int32)).toNatClampNeg ((1 : Int64)) → ∀ σ19 : Me, σ19 = sI σ18 a0 32 ((1 : Int32)) → ∃ I45 : Nat → Me → Int32 → Prop, (∀ (n45 : Nat) (σ20 : Me) (x6_21 : Int32), I45 n45 σ20 x6_21 → (x3 ≤ x6_21 → Q σ20) ∧ (¬ x3 ≤ x6_21 → gT σ20 a0 = 12 ∧ ∀ σ26 : Me, σ26 = sI σ20 a0 38 ((gI σ20 a0 38) + ((1 : Int32))) → ∀ σ27 : Me, σ27 = sI σ26 a0 35 ((0 : Int32)) → ∀ σ28 : Me, σ28 = sL σ27 a0 39 ((gL σ27 a0 39) * x4_4) → ∀ σ29 : Me, σ29 = sL σ28 a0 44 ((gL σ28 a0 44) * x4_4) → ∃ I91 : Nat → Me → Int32 → Prop, (∀ (n91 : Nat) (σ30 : Me) (x7_31 : Int32), I91 n91 σ30 x7_31 → gT σ30 a0 = 12 ∧ ((gI σ30 a0 32) ≤ x7_31 → ∀ σ76 : Me, σ76 = sI σ30 a0 32 (gI σ30 a0 35) → ∃ I314 : Nat → Me → Int32 → Prop, (∀ (n314 : Nat) (σ77 : Me) (x7_78 : Int32), I314 n314 σ77 x7_78 → gT σ77 a0 = 12 ∧ ((gI σ77 a0 32) ≤ x7_78 → ∀ x6_81 : Int32, x6_81 = x6_21 + 1 → ∃ m45 : Nat, m45 < n45 ∧ I45 m45 σ77 x6_81) ∧ (¬ (gI σ77 a0 32) ≤ x7_78 → ∃ b82 : Nat, gP σ77 a0 30 = some b82 ∧ ∃ b83 : Nat, gP σ77 a0 33 = some b83 ∧ gT σ77 b83 = 20 ∧ vp_in x7_78 (gN σ77 b83) ∧ gT σ77 b82 = 20 ∧ vp_in x7_78 (gN σ77 b82) ∧ ∀ σ88 : Me, σ88 = sI σ77 b82 x7_78.toNatClampNeg (gI σ77 b83 x7_78.toNatClampNeg) → ∃ b89 : Nat, gP σ88 a0 31 = some b89 ∧ ∃ b90 : Nat, gP σ88 a0 34 = some b90 ∧ gT σ88 b90 = 21 ∧ vp_in x7_78 (gN σ88 b90) ∧ gT σ88 b89 = 21 ∧ vp_in x7_78 (gN σ88 b89) ∧ ∀ σ95 : Me, σ95 = sL σ88 b89 x7_78.toNatClampNeg (gL σ88 b90 x7_78.toNatClampNeg) → ∀ x7_96 : Int32, x7_96 = x7_78 + 1 → ∃ m314 : Nat, m314 < n314 ∧ I314 m314 σ95 x7_96)) ∧ ∃ n314 : Nat, I314 n314 σ76 ((0 : Int32))) ∧ (¬ (gI σ30 a0 32) ≤ x7_31 → ∃ b97 : Nat, gP σ30 a0 30 = some b97 ∧ gT σ30 b97 = 20 ∧ vp_in x7_31 (gN σ30 b97) ∧ ∀ x8_100 : Int32, x8_100 = (((gI σ30 b97 x7_31.toNatClampNeg) / ((625 : Int32))) - ((12 : Int32))) → vp_in x7_31 (gN σ30 b97) ∧ ∀ x9_102 : Int32, x9_102 = (((gI σ30 b97 x7_31.toNatClampNeg) / ((25 : Int32))) - ((gI σ30 b97 x7_31.toNatClampNeg) / ((25 : Int32))) / ((25 : Int32)) * ((25 : Int32))) → vp_in x7_31 (gN σ30 b97) ∧ ∀ x10_104 : Int32, x10_104 = ((gI σ30 b97 x7_31.toNatClampNeg) - (gI σ30 b97 x7_31.toNatClampNeg) / ((25 : Int32)) * ((25 : Int32))) → ∀ x11_105 : Int32, x11_105 = ((x8_100 + x9_102) + x10_104) → ∀ v_106 : Int32, v_106 = (if x11_105 ≤ (gI σ30 a0 50) then (if ((gI σ30 a0 51) - x11_105) ≤ ((12 : Int32)) then ((gI σ30 a0 51) - x11_105) else ((12 : Int32))) else ((0 : Int32))) → ∃ I195 : Nat → Me → Int32 → Prop, (∀ (n195 : Nat) (σ108 : Me) (x13_109 : Int32), I195 n195 σ108 x13_109 → (((7 : Int32)) ≤ x13_109 → ∀ x7_112 : Int32, x7_112 = x7_31 + 1 → ∃ m91 : Nat, m91 < n91 ∧ I91 m91 σ108 x7_112) ∧ (¬ ((7 : Int32)) ≤ x13_109 → gT σ108 a0 = 12 ∧ ∃ b114 : Nat, gP σ108 a0 5 = some b114 ∧ gT σ108 b114 = 20 ∧ vp_in ((((7 : Int32)) * x1) + x13_109) (gN σ108 b114) ∧ ∀ x14_117 : Int32, x14_117 = (gI σ108 b114 ((((7 : Int32)) * x1) + x13_109).toNatClampNeg) → (x14_117 ≤ 0 → ∀ x13_119 : Int32, x13_119 = x13_109 + 1 → ∃ m195 : Nat, m195 < n195 ∧ I195 m195 σ108 x13_119) ∧ (¬ x14_117 ≤ 0 → pX12_day σ108 a0 x8_100 x9_102 x10_104 v_106 x13_109 (fun σ121 => gT σ121 a0 = 12 ∧ ∃ b123 : Nat, gP σ121 a0 31 = some b123 ∧ gT σ121 b123 = 21 ∧ vp_in x7_31 (gN σ121 b123) ∧ ∀ σ126 : Me, σ126 = sL σ121 a0 39 ((gL σ121 a0 39) + (((gL σ121 b123 x7_31.toNatClampNeg) * x14_117.toInt64) * ((gI σ121 a0 27).toInt64))) → pX12_stateOf σ126 (gI σ126 a0 24) (gI σ126 a0 25) (gI σ126 a0 26) (fun r127 σ128 => gT σ128 a0 = 12 ∧ ∃ b130 : Nat, gP σ128 a0 31 = some b130 ∧ gT σ128 b130 = 21 ∧ vp_in x7_31 (gN σ128 b130) ∧ pX12_put σ128 a0 r127 ((gL σ128 b130 x7_31.toNatClampNeg) * x14_117.toInt64) (fun σ134 => ∀ x13_135 : Int32, x13_135 = x13_109 + 1 → ∃ m195 : Nat, m195 < n195 ∧ I195 m195 σ134 x13_135)))))) ∧ ∃ n195 : Nat, I195 n195 σ30 ((0 : Int32)))) ∧ ∃ n91 : Nat, I91 n91 σ29 ((0 : Int32)))) ∧ ∃ n45 : Nat, I45 n45 σ19 ((0 : Int32))))
set_option maxHeartbeats 4000000 in
set_option maxRecDepth 100000 in
theorem wX12_goThroughPair {p : Program} {l : Launch} {e : Env} {s : State} {m : MethodId} {args : Array Value} {below : List Frame} {meth : Method} {c : Code} {D : va_G} {cA : Nat → ClassId} {z0 : Nat} (hX : Cx p m c cX12_goThroughPair 15 s args RX12 D cA) (hlk : meth.locks = false) (hr : meth.sig.returnType = none) {σ : Me} {a0 : Nat} {x1 : Int32} {x2 : Int32} {x3 : Int32} {Q : Me → Prop} (h : pX12_goThroughPair σ a0 x1 x2 x3 Q) {H : Heap} {locs : List Loc} {ls : Array Slot} (hw : wS D cA z0 s σ H locs) (hl : lv_has ls 15 [(0, .ref a0), (1, .int x1), (2, .int x2), (3, .int x3)]) : W p l e rX12_goThroughPair s m args below meth c H locs 0 0 (MQ below (va_Qv Q (BM D cA z0) (AM z0)) args s 0 0 (AM z0)) (F0 m 0 ls []) := by
  have hx := hX.1.1
  have hb := hX.1.2.1
  have hown := hX.1.2.2.2.1
  have hts := hX.1.2.2.2.2
  unfold pX12_goThroughPair at h
  refine lv_aload_n hx hb dX12_goThroughPair_0 rfl (lv_at hl 0 rfl) ?_
  refine lv_iload_n hx hb dX12_goThroughPair_1 rfl (lv_at hl 1 rfl) ?_
  obtain ⟨hT3, h⟩ := h
  refine m_ci (m_runV (rest := []) hX hw (tX12_allOf h) mtX12_allOf k_1093 ⟨k_1095, k_25⟩ cl12 hT3 ⟨⟨rfl, rfl, Nat.le_of_ble_eq_true rfl, Nat.le_of_ble_eq_true rfl⟩, Nat.le_of_ble_eq_true rfl, Nat.le_of_ble_eq_true rfl⟩ rfl hl.1 rfl (Nat.le_of_ble_eq_true rfl) dX12_goThroughPair_2) hw (fun r1 σ2 H locs h hw => ?_)
  refine lv_i2l hx hb dX12_goThroughPair_5 rfl ?_
  refine lv_topl (fun x4_4 e_x4_4 => ?_)
  have h := h x4_4 e_x4_4
  refine lv_lstore (lv' := [(4, _), (0, _), (1, _), (2, _), (3, _)]) hx hb dX12_goThroughPair_6 hl (by decide) rfl (fun ls hl => ?_)
  refine lv_aload_n hx hb dX12_goThroughPair_8 rfl (lv_at hl 1 rfl) ?_
  refine lv_lconst (v := 0) hx hb dX12_goThroughPair_9 (by decide) ?_
  obtain ⟨hT5, h⟩ := h
  refine m_putL hX hw cl12 hT5 39 (by decide) k_913 (fun _ h => h) rfl rfl dX12_goThroughPair_10 (fun H locs hw => ?_)
  let σ6 : Me := sL σ2 a0 39 ((0 : Int64))
  have h := h σ6 rfl
  have hw : wS D cA z0 s σ6 H locs := hw
  refine lv_aload_n hx hb dX12_goThroughPair_13 rfl (lv_at hl 1 rfl) ?_
  refine lv_lconst (v := 1) hx hb dX12_goThroughPair_14 (by decide) ?_
  refine m_putL hX hw cl12 hT5 44 (by decide) k_918 (fun _ h => h) rfl rfl dX12_goThroughPair_15 (fun H locs hw => ?_)
  let σ7 : Me := sL σ6 a0 44 ((1 : Int64))
  have h := h σ7 rfl
  have hw : wS D cA z0 s σ7 H locs := hw
  refine lv_aload_n hx hb dX12_goThroughPair_18 rfl (lv_at hl 1 rfl) ?_
  obtain ⟨b8, hb8, h⟩ := h
  refine m_get hX hw cl12 hT5 30 (by decide) k_904 (fun _ h => h) (v := .ref b8) (congrArg va_rf hb8) dX12_goThroughPair_19 ?_
  refine lv_iconst (v := 0) hx hb dX12_goThroughPair_22 (by decide) ?_
  refine lv_iload_n hx hb dX12_goThroughPair_23 rfl (lv_at hl 3 rfl) ?_
  refine lv_iconst (v := 0) hx hb dX12_goThroughPair_24 (by decide) ?_
  refine lv_iconst (v := 0) hx hb dX12_goThroughPair_25 (by decide) ?_
  refine m_ci (m_runS (rest := [_, _]) hX hw (tX12_stateOf h) mtX12_stateOf k_1181 k_1182 ⟨⟨rfl, rfl, Nat.le_of_ble_eq_true rfl, Nat.le_of_ble_eq_true rfl⟩, Nat.le_of_ble_eq_true rfl, Nat.le_of_ble_eq_true rfl⟩ rfl hl.1 rfl (Nat.le_of_ble_eq_true rfl) dX12_goThroughPair_26) hw (fun r9 σ10 H locs h hw => ?_)
  obtain ⟨hT11, h⟩ := h
  obtain ⟨hc12, h⟩ := h
  refine m_iast hX hw hT11 hc12 dX12_goThroughPair_29 (fun H locs hw => ?_)
  let σ13 : Me := sI σ10 b8 ((0 : Int32)).toNatClampNeg r9
  have h := h σ13 rfl
  have hw : wS D cA z0 s σ13 H locs := hw
  refine lv_aload_n hx hb dX12_goThroughPair_30 rfl (lv_at hl 1 rfl) ?_
  obtain ⟨hT14, h⟩ := h
  obtain ⟨b15, hb15, h⟩ := h
  refine m_get hX hw cl12 hT14 31 (by decide) k_905 (fun _ h => h) (v := .ref b15) (congrArg va_rf hb15) dX12_goThroughPair_31 ?_
  refine lv_iconst (v := 0) hx hb dX12_goThroughPair_34 (by decide) ?_
  refine lv_lconst (v := 1) hx hb dX12_goThroughPair_35 (by decide) ?_
  obtain ⟨hT16, h⟩ := h
  obtain ⟨hc17, h⟩ := h
  refine m_last hX hw hT16 hc17 dX12_goThroughPair_36 (fun H locs hw => ?_)
  let σ18 : Me := sL σ13 b15 ((0 : Int32)).toNatClampNeg ((1 : Int64))
  have h := h σ18 rfl
  have hw : wS D cA z0 s σ18 H locs := hw
  refine lv_aload_n hx hb dX12_goThroughPair_37 rfl (lv_at hl 1 rfl) ?_
  refine lv_iconst (v := 1) hx hb dX12_goThroughPair_38 (by decide) ?_
  refine m_putI hX hw cl12 hT14 32 (by decide) k_906 (fun _ h => h) rfl rfl dX12_goThroughPair_39 (fun H locs hw => ?_)
  let σ19 : Me := sI σ18 a0 32 ((1 : Int32))
  have h := h σ19 rfl
  have hw : wS D cA z0 s σ19 H locs := hw
  refine lv_iconst (v := 0) hx hb dX12_goThroughPair_42 (by decide) ?_
  refine lv_istore (lv' := [(6, _), (4, _), (0, _), (1, _), (2, _), (3, _)]) hx hb dX12_goThroughPair_43 hl (by decide) rfl (fun ls hl => ?_)
  obtain ⟨I45, hI45, n45, h⟩ := h
  have key45 : ∀ (n45 : Nat) (σ20 : Me) (x6_21 : Int32) (H : Heap) (locs : List Loc) (ls : Array Slot), I45 n45 σ20 x6_21 → wS D cA z0 s σ20 H locs → lv_has ls 15 [(0, .ref a0), (1, .int x1), (3, .int x3), (4, .long x4_4), (6, .int x6_21)] → W p l e rX12_goThroughPair s m args below meth c H locs 0 0 (MQ below (va_Qv Q (BM D cA z0) (AM z0)) args s 0 0 (AM z0)) (F0 m 45 ls []) := by
    intro n45
    induction n45 using Nat.strongRecOn with
    | _ n45 ih45 =>
      intro σ20 x6_21 H locs ls h hw hl
      have h := hI45 _ _ _ h
      refine lv_iload hx hb dX12_goThroughPair_45 (lv_at hl 4 rfl) ?_
      refine lv_iload_n hx hb dX12_goThroughPair_47 rfl (lv_at hl 2 rfl) ?_
      refine lv_icmp_ge (tgt := 363) hx hb dX12_goThroughPair_48 (by decide) (fun hc24 => ?_) (fun hc24 => ?_)
      · have h := h.1 hc24
        exact m_vret hX hlk hr hw h dX12_goThroughPair_363
      · have h := h.2 hc24
        refine lv_aload_n hx hb dX12_goThroughPair_51 rfl (lv_at hl 0 rfl) ?_
        refine lv_dup hx hb dX12_goThroughPair_52 rfl ?_
        obtain ⟨hT25, h⟩ := h
        refine m_get hX hw cl12 hT25 38 (by decide) k_912 (fun _ h => h) (v := .int _) rfl dX12_goThroughPair_53 ?_
        refine lv_iconst (v := 1) hx hb dX12_goThroughPair_56 (by decide) ?_
        refine lv_iadd hx hb dX12_goThroughPair_57 ?_
        refine m_putI hX hw cl12 hT25 38 (by decide) k_912 (fun _ h => h) rfl rfl dX12_goThroughPair_58 (fun H locs hw => ?_)
        let σ26 : Me := sI σ20 a0 38 ((gI σ20 a0 38) + ((1 : Int32)))
        have h := h σ26 rfl
        have hw : wS D cA z0 s σ26 H locs := hw
        refine lv_aload_n hx hb dX12_goThroughPair_61 rfl (lv_at hl 0 rfl) ?_
        refine lv_iconst (v := 0) hx hb dX12_goThroughPair_62 (by decide) ?_
        refine m_putI hX hw cl12 hT25 35 (by decide) k_909 (fun _ h => h) rfl rfl dX12_goThroughPair_63 (fun H locs hw => ?_)
        let σ27 : Me := sI σ26 a0 35 ((0 : Int32))
        have h := h σ27 rfl
        have hw : wS D cA z0 s σ27 H locs := hw
        refine lv_aload_n hx hb dX12_goThroughPair_66 rfl (lv_at hl 0 rfl) ?_
        refine lv_dup hx hb dX12_goThroughPair_67 rfl ?_
        refine m_get hX hw cl12 hT25 39 (by decide) k_913 (fun _ h => h) (v := .long _) rfl dX12_goThroughPair_68 ?_
        refine lv_lload hx hb dX12_goThroughPair_71 (lv_at hl 3 rfl) ?_
        refine lv_lmul hx hb dX12_goThroughPair_73 ?_
        refine m_putL hX hw cl12 hT25 39 (by decide) k_913 (fun _ h => h) rfl rfl dX12_goThroughPair_74 (fun H locs hw => ?_)
        let σ28 : Me := sL σ27 a0 39 ((gL σ27 a0 39) * x4_4)
        have h := h σ28 rfl
        have hw : wS D cA z0 s σ28 H locs := hw
        refine lv_aload_n hx hb dX12_goThroughPair_77 rfl (lv_at hl 0 rfl) ?_
        refine lv_dup hx hb dX12_goThroughPair_78 rfl ?_
        refine m_get hX hw cl12 hT25 44 (by decide) k_918 (fun _ h => h) (v := .long _) rfl dX12_goThroughPair_79 ?_
        refine lv_lload hx hb dX12_goThroughPair_82 (lv_at hl 3 rfl) ?_
        refine lv_lmul hx hb dX12_goThroughPair_84 ?_
        refine m_putL hX hw cl12 hT25 44 (by decide) k_918 (fun _ h => h) rfl rfl dX12_goThroughPair_85 (fun H locs hw => ?_)
        let σ29 : Me := sL σ28 a0 44 ((gL σ28 a0 44) * x4_4)
        have h := h σ29 rfl
        have hw : wS D cA z0 s σ29 H locs := hw
        refine lv_iconst (v := 0) hx hb dX12_goThroughPair_88 (by decide) ?_
        refine lv_istore (lv' := [(7, _), (0, _), (1, _), (3, _), (4, _), (6, _)]) hx hb dX12_goThroughPair_89 hl (by decide) rfl (fun ls hl => ?_)
        obtain ⟨I91, hI91, n91, h⟩ := h
        have key91 : ∀ (n91 : Nat) (σ30 : Me) (x7_31 : Int32) (H : Heap) (locs : List Loc) (ls : Array Slot), I91 n91 σ30 x7_31 → wS D cA z0 s σ30 H locs → lv_has ls 15 [(0, .ref a0), (1, .int x1), (3, .int x3), (4, .long x4_4), (6, .int x6_21), (7, .int x7_31)] → W p l e rX12_goThroughPair s m args below meth c H locs 0 0 (MQ below (va_Qv Q (BM D cA z0) (AM z0)) args s 0 0 (AM z0)) (F0 m 91 ls []) := by
          intro n91
          induction n91 using Nat.strongRecOn with
          | _ n91 ih91 =>
            intro σ30 x7_31 H locs ls h hw hl
            have h := hI91 _ _ _ h
            refine lv_iload hx hb dX12_goThroughPair_91 (lv_at hl 5 rfl) ?_
            refine lv_aload_n hx hb dX12_goThroughPair_93 rfl (lv_at hl 0 rfl) ?_
            obtain ⟨hT32, h⟩ := h
            refine m_get hX hw cl12 hT32 32 (by decide) k_906 (fun _ h => h) (v := .int _) rfl dX12_goThroughPair_94 ?_
            refine lv_icmp_ge (tgt := 303) hx hb dX12_goThroughPair_97 (by decide) (fun hc75 => ?_) (fun hc75 => ?_)
            · have h := h.1 hc75
              refine lv_aload_n hx hb dX12_goThroughPair_303 rfl (lv_at hl 0 rfl) ?_
              refine lv_aload_n hx hb dX12_goThroughPair_304 rfl (lv_at hl 0 rfl) ?_
              refine m_get hX hw cl12 hT32 35 (by decide) k_909 (fun _ h => h) (v := .int _) rfl dX12_goThroughPair_305 ?_
              refine m_putI hX hw cl12 hT32 32 (by decide) k_906 (fun _ h => h) rfl rfl dX12_goThroughPair_308 (fun H locs hw => ?_)
              let σ76 : Me := sI σ30 a0 32 (gI σ30 a0 35)
              have h := h σ76 rfl
              have hw : wS D cA z0 s σ76 H locs := hw
              refine lv_iconst (v := 0) hx hb dX12_goThroughPair_311 (by decide) ?_
              refine lv_istore (lv' := [(7, _), (0, _), (1, _), (3, _), (4, _), (6, _)]) hx hb dX12_goThroughPair_312 hl (by decide) rfl (fun ls hl => ?_)
              obtain ⟨I314, hI314, n314, h⟩ := h
              have key314 : ∀ (n314 : Nat) (σ77 : Me) (x7_78 : Int32) (H : Heap) (locs : List Loc) (ls : Array Slot), I314 n314 σ77 x7_78 → wS D cA z0 s σ77 H locs → lv_has ls 15 [(0, .ref a0), (1, .int x1), (3, .int x3), (4, .long x4_4), (6, .int x6_21), (7, .int x7_78)] → W p l e rX12_goThroughPair s m args below meth c H locs 0 0 (MQ below (va_Qv Q (BM D cA z0) (AM z0)) args s 0 0 (AM z0)) (F0 m 314 ls []) := by
                intro n314
                induction n314 using Nat.strongRecOn with
                | _ n314 ih314 =>
                  intro σ77 x7_78 H locs ls h hw hl
                  have h := hI314 _ _ _ h
                  refine lv_iload hx hb dX12_goThroughPair_314 (lv_at hl 5 rfl) ?_
                  refine lv_aload_n hx hb dX12_goThroughPair_316 rfl (lv_at hl 0 rfl) ?_
                  obtain ⟨hT79, h⟩ := h
                  refine m_get hX hw cl12 hT79 32 (by decide) k_906 (fun _ h => h) (v := .int _) rfl dX12_goThroughPair_317 ?_
                  refine lv_icmp_ge (tgt := 357) hx hb dX12_goThroughPair_320 (by decide) (fun hc80 => ?_) (fun hc80 => ?_)
                  · have h := h.1 hc80
                    obtain ⟨x6_81, e_x6_81⟩ : ∃ y : Int32, y = x6_21 + 1 := ⟨_, rfl⟩
                    have h := h x6_81 e_x6_81
                    refine lv_iinc (v := x6_81) (lv' := [(6, _), (0, _), (1, _), (3, _), (4, _), (7, _)]) hx hb dX12_goThroughPair_357 hl (k := 4) rfl (by rw [e_x6_81]; rfl) (by decide) rfl (fun ls hl => ?_)
                    refine lv_goto (tgt := 45) hx hb dX12_goThroughPair_360 (by decide) ?_
                    obtain ⟨m45, hm45, h⟩ := h
                    exact ih45 m45 hm45 _ _ _ _ _ h hw (lv_sub hl [1, 2, 3, 4, 0] rfl)
                  · have h := h.2 hc80
                    refine lv_aload_n hx hb dX12_goThroughPair_323 rfl (lv_at hl 0 rfl) ?_
                    obtain ⟨b82, hb82, h⟩ := h
                    refine m_get hX hw cl12 hT79 30 (by decide) k_904 (fun _ h => h) (v := .ref b82) (congrArg va_rf hb82) dX12_goThroughPair_324 ?_
                    refine lv_iload hx hb dX12_goThroughPair_327 (lv_at hl 5 rfl) ?_
                    refine lv_aload_n hx hb dX12_goThroughPair_329 rfl (lv_at hl 0 rfl) ?_
                    obtain ⟨b83, hb83, h⟩ := h
                    refine m_get hX hw cl12 hT79 33 (by decide) k_907 (fun _ h => h) (v := .ref b83) (congrArg va_rf hb83) dX12_goThroughPair_330 ?_
                    refine lv_iload hx hb dX12_goThroughPair_333 (lv_at hl 5 rfl) ?_
                    obtain ⟨hT84, h⟩ := h
                    obtain ⟨hc85, h⟩ := h
                    refine m_iald hX hw hT84 hc85 dX12_goThroughPair_335 ?_
                    obtain ⟨hT86, h⟩ := h
                    obtain ⟨hc87, h⟩ := h
                    refine m_iast hX hw hT86 hc87 dX12_goThroughPair_336 (fun H locs hw => ?_)
                    let σ88 : Me := sI σ77 b82 x7_78.toNatClampNeg (gI σ77 b83 x7_78.toNatClampNeg)
                    have h := h σ88 rfl
                    have hw : wS D cA z0 s σ88 H locs := hw
                    refine lv_aload_n hx hb dX12_goThroughPair_337 rfl (lv_at hl 0 rfl) ?_
                    obtain ⟨b89, hb89, h⟩ := h
                    refine m_get hX hw cl12 hT79 31 (by decide) k_905 (fun _ h => h) (v := .ref b89) (congrArg va_rf hb89) dX12_goThroughPair_338 ?_
                    refine lv_iload hx hb dX12_goThroughPair_341 (lv_at hl 5 rfl) ?_
                    refine lv_aload_n hx hb dX12_goThroughPair_343 rfl (lv_at hl 0 rfl) ?_
                    obtain ⟨b90, hb90, h⟩ := h
                    refine m_get hX hw cl12 hT79 34 (by decide) k_908 (fun _ h => h) (v := .ref b90) (congrArg va_rf hb90) dX12_goThroughPair_344 ?_
                    refine lv_iload hx hb dX12_goThroughPair_347 (lv_at hl 5 rfl) ?_
                    obtain ⟨hT91, h⟩ := h
                    obtain ⟨hc92, h⟩ := h
                    refine m_lald hX hw hT91 hc92 dX12_goThroughPair_349 ?_
                    obtain ⟨hT93, h⟩ := h
                    obtain ⟨hc94, h⟩ := h
                    refine m_last hX hw hT93 hc94 dX12_goThroughPair_350 (fun H locs hw => ?_)
                    let σ95 : Me := sL σ88 b89 x7_78.toNatClampNeg (gL σ88 b90 x7_78.toNatClampNeg)
                    have h := h σ95 rfl
                    have hw : wS D cA z0 s σ95 H locs := hw
                    obtain ⟨x7_96, e_x7_96⟩ : ∃ y : Int32, y = x7_78 + 1 := ⟨_, rfl⟩
                    have h := h x7_96 e_x7_96
                    refine lv_iinc (v := x7_96) (lv' := [(7, _), (0, _), (1, _), (3, _), (4, _), (6, _)]) hx hb dX12_goThroughPair_351 hl (k := 5) rfl (by rw [e_x7_96]; rfl) (by decide) rfl (fun ls hl => ?_)
                    refine lv_goto (tgt := 314) hx hb dX12_goThroughPair_354 (by decide) ?_
                    obtain ⟨m314, hm314, h⟩ := h
                    exact ih314 m314 hm314 _ _ _ _ _ h hw (lv_sub hl [1, 2, 3, 4, 5, 0] rfl)
              exact key314 _ _ _ _ _ _ h hw (lv_sub hl [1, 2, 3, 4, 5, 0] rfl)
            · have h := h.2 hc75
              refine lv_aload_n hx hb dX12_goThroughPair_100 rfl (lv_at hl 0 rfl) ?_
              obtain ⟨b97, hb97, h⟩ := h
              refine m_get hX hw cl12 hT32 30 (by decide) k_904 (fun _ h => h) (v := .ref b97) (congrArg va_rf hb97) dX12_goThroughPair_101 ?_
              refine lv_iload hx hb dX12_goThroughPair_104 (lv_at hl 5 rfl) ?_
              obtain ⟨hT98, h⟩ := h
              obtain ⟨hc99, h⟩ := h
              refine m_iald hX hw hT98 hc99 dX12_goThroughPair_106 ?_
              refine lv_sipush (v := 625) hx hb dX12_goThroughPair_107 (by decide) ?_
              refine lv_idiv hx hb dX12_goThroughPair_110 (by decide) ?_
              refine lv_bipush (v := 12) hx hb dX12_goThroughPair_111 (by decide) ?_
              refine lv_isub hx hb dX12_goThroughPair_113 ?_
              refine lv_topi (fun x8_100 e_x8_100 => ?_)
              have h := h x8_100 e_x8_100
              refine lv_istore (lv' := [(8, _), (0, _), (1, _), (3, _), (4, _), (6, _), (7, _)]) hx hb dX12_goThroughPair_114 hl (by decide) rfl (fun ls hl => ?_)
              refine lv_aload_n hx hb dX12_goThroughPair_116 rfl (lv_at hl 1 rfl) ?_
              refine m_get hX hw cl12 hT32 30 (by decide) k_904 (fun _ h => h) (v := .ref b97) (congrArg va_rf hb97) dX12_goThroughPair_117 ?_
              refine lv_iload hx hb dX12_goThroughPair_120 (lv_at hl 6 rfl) ?_
              obtain ⟨hc101, h⟩ := h
              refine m_iald hX hw hT98 hc101 dX12_goThroughPair_122 ?_
              refine lv_bipush (v := 25) hx hb dX12_goThroughPair_123 (by decide) ?_
              refine lv_idiv hx hb dX12_goThroughPair_125 (by decide) ?_
              refine lv_bipush (v := 25) hx hb dX12_goThroughPair_126 (by decide) ?_
              refine lv_irem hx hb dX12_goThroughPair_128 (by decide) ?_
              refine lv_topi (fun x9_102 e_x9_102 => ?_)
              have h := h x9_102 e_x9_102
              refine lv_istore (lv' := [(9, _), (8, _), (0, _), (1, _), (3, _), (4, _), (6, _), (7, _)]) hx hb dX12_goThroughPair_129 hl (by decide) rfl (fun ls hl => ?_)
              refine lv_aload_n hx hb dX12_goThroughPair_131 rfl (lv_at hl 2 rfl) ?_
              refine m_get hX hw cl12 hT32 30 (by decide) k_904 (fun _ h => h) (v := .ref b97) (congrArg va_rf hb97) dX12_goThroughPair_132 ?_
              refine lv_iload hx hb dX12_goThroughPair_135 (lv_at hl 7 rfl) ?_
              obtain ⟨hc103, h⟩ := h
              refine m_iald hX hw hT98 hc103 dX12_goThroughPair_137 ?_
              refine lv_bipush (v := 25) hx hb dX12_goThroughPair_138 (by decide) ?_
              refine lv_irem hx hb dX12_goThroughPair_140 (by decide) ?_
              refine lv_topi (fun x10_104 e_x10_104 => ?_)
              have h := h x10_104 e_x10_104
              refine lv_istore (lv' := [(10, _), (9, _), (8, _), (0, _), (1, _), (3, _), (4, _), (6, _), (7, _)]) hx hb dX12_goThroughPair_141 hl (by decide) rfl (fun ls hl => ?_)
              refine lv_iload hx hb dX12_goThroughPair_143 (lv_at hl 2 rfl) ?_
              refine lv_iload hx hb dX12_goThroughPair_145 (lv_at hl 1 rfl) ?_
              refine lv_iadd hx hb dX12_goThroughPair_147 ?_
              refine lv_iload hx hb dX12_goThroughPair_148 (lv_at hl 0 rfl) ?_
              refine lv_iadd hx hb dX12_goThroughPair_150 ?_
              refine lv_topi (fun x11_105 e_x11_105 => ?_)
              have h := h x11_105 e_x11_105
              refine lv_istore (lv' := [(11, _), (10, _), (9, _), (8, _), (0, _), (1, _), (3, _), (4, _), (6, _), (7, _)]) hx hb dX12_goThroughPair_151 hl (by decide) rfl (fun ls hl => ?_)
              refine lv_iload hx hb dX12_goThroughPair_153 (lv_at hl 0 rfl) ?_
              refine lv_aload_n hx hb dX12_goThroughPair_155 rfl (lv_at hl 4 rfl) ?_
              refine m_get hX hw cl12 hT32 50 (by decide) k_924 (fun _ h => h) (v := .int _) rfl dX12_goThroughPair_156 ?_
              have kM107 : ∀ (v_106 : Int32) (ls : Array Slot), v_106 = (if x11_105 ≤ (gI σ30 a0 50) then (if ((gI σ30 a0 51) - x11_105) ≤ ((12 : Int32)) then ((gI σ30 a0 51) - x11_105) else ((12 : Int32))) else ((0 : Int32))) → lv_has ls 15 [(10, .int x10_104), (9, .int x9_102), (8, .int x8_100), (0, .ref a0), (1, .int x1), (3, .int x3), (4, .long x4_4), (6, .int x6_21), (7, .int x7_31)] → W p l e rX12_goThroughPair s m args below meth c H locs 0 0 (MQ below (va_Qv Q (BM D cA z0) (AM z0)) args s 0 0 (AM z0)) (F0 m 190 ls [.int v_106]) := by
                intro v_106 ls e_v_106 hl
                have h := h v_106 e_v_106
                refine lv_istore (lv' := [(12, _), (10, _), (9, _), (8, _), (0, _), (1, _), (3, _), (4, _), (6, _), (7, _)]) hx hb dX12_goThroughPair_190 hl (by decide) rfl (fun ls hl => ?_)
                refine lv_iconst (v := 0) hx hb dX12_goThroughPair_192 (by decide) ?_
                refine lv_istore (lv' := [(13, _), (12, _), (10, _), (9, _), (8, _), (0, _), (1, _), (3, _), (4, _), (6, _), (7, _)]) hx hb dX12_goThroughPair_193 hl (by decide) rfl (fun ls hl => ?_)
                obtain ⟨I195, hI195, n195, h⟩ := h
                have key195 : ∀ (n195 : Nat) (σ108 : Me) (x13_109 : Int32) (H : Heap) (locs : List Loc) (ls : Array Slot), I195 n195 σ108 x13_109 → wS D cA z0 s σ108 H locs → lv_has ls 15 [(0, .ref a0), (1, .int x1), (3, .int x3), (4, .long x4_4), (6, .int x6_21), (7, .int x7_31), (8, .int x8_100), (9, .int x9_102), (10, .int x10_104), (12, .int v_106), (13, .int x13_109)] → W p l e rX12_goThroughPair s m args below meth c H locs 0 0 (MQ below (va_Qv Q (BM D cA z0) (AM z0)) args s 0 0 (AM z0)) (F0 m 195 ls []) := by
                  intro n195
                  induction n195 using Nat.strongRecOn with
                  | _ n195 ih195 =>
                    intro σ108 x13_109 H locs ls h hw hl
                    have h := hI195 _ _ _ h
                    refine lv_iload hx hb dX12_goThroughPair_195 (lv_at hl 10 rfl) ?_
                    refine lv_bipush (v := 7) hx hb dX12_goThroughPair_197 (by decide) ?_
                    refine lv_icmp_ge (tgt := 297) hx hb dX12_goThroughPair_199 (by decide) (fun hc111 => ?_) (fun hc111 => ?_)
                    · have h := h.1 hc111
                      obtain ⟨x7_112, e_x7_112⟩ : ∃ y : Int32, y = x7_31 + 1 := ⟨_, rfl⟩
                      have h := h x7_112 e_x7_112
                      refine lv_iinc (v := x7_112) (lv' := [(7, _), (0, _), (1, _), (3, _), (4, _), (6, _), (8, _), (9, _), (10, _), (12, _), (13, _)]) hx hb dX12_goThroughPair_297 hl (k := 5) rfl (by rw [e_x7_112]; rfl) (by decide) rfl (fun ls hl => ?_)
                      refine lv_goto (tgt := 91) hx hb dX12_goThroughPair_300 (by decide) ?_
                      obtain ⟨m91, hm91, h⟩ := h
                      exact ih91 m91 hm91 _ _ _ _ _ h hw (lv_sub hl [1, 2, 3, 4, 5, 0] rfl)
                    · have h := h.2 hc111
                      refine lv_aload_n hx hb dX12_goThroughPair_202 rfl (lv_at hl 0 rfl) ?_
                      obtain ⟨hT113, h⟩ := h
                      obtain ⟨b114, hb114, h⟩ := h
                      refine m_get hX hw cl12 hT113 5 (by decide) k_879 (fun _ h => h) (v := .ref b114) (congrArg va_rf hb114) dX12_goThroughPair_203 ?_
                      refine lv_bipush (v := 7) hx hb dX12_goThroughPair_206 (by decide) ?_
                      refine lv_iload_n hx hb dX12_goThroughPair_208 rfl (lv_at hl 1 rfl) ?_
                      refine lv_imul hx hb dX12_goThroughPair_209 ?_
                      refine lv_iload hx hb dX12_goThroughPair_210 (lv_at hl 10 rfl) ?_
                      refine lv_iadd hx hb dX12_goThroughPair_212 ?_
                      obtain ⟨hT115, h⟩ := h
                      obtain ⟨hc116, h⟩ := h
                      refine m_iald hX hw hT115 hc116 dX12_goThroughPair_213 ?_
                      refine lv_topi (fun x14_117 e_x14_117 => ?_)
                      have h := h x14_117 e_x14_117
                      refine lv_istore (lv' := [(14, _), (0, _), (1, _), (3, _), (4, _), (6, _), (7, _), (8, _), (9, _), (10, _), (12, _), (13, _)]) hx hb dX12_goThroughPair_214 hl (by decide) rfl (fun ls hl => ?_)
                      refine lv_iload hx hb dX12_goThroughPair_216 (lv_at hl 0 rfl) ?_
                      refine lv_if_le (tgt := 291) hx hb dX12_goThroughPair_218 (by decide) (fun hc118 => ?_) (fun hc118 => ?_)
                      · have h := h.1 hc118
                        obtain ⟨x13_119, e_x13_119⟩ : ∃ y : Int32, y = x13_109 + 1 := ⟨_, rfl⟩
                        have h := h x13_119 e_x13_119
                        refine lv_iinc (v := x13_119) (lv' := [(13, _), (14, _), (0, _), (1, _), (3, _), (4, _), (6, _), (7, _), (8, _), (9, _), (10, _), (12, _)]) hx hb dX12_goThroughPair_291 hl (k := 11) rfl (by rw [e_x13_119]; rfl) (by decide) rfl (fun ls hl => ?_)
                        refine lv_goto (tgt := 195) hx hb dX12_goThroughPair_294 (by decide) ?_
                        obtain ⟨m195, hm195, h⟩ := h
                        exact ih195 m195 hm195 _ _ _ _ _ h hw (lv_sub hl [2, 3, 4, 5, 6, 7, 8, 9, 10, 11, 0] rfl)
                      · have h := h.2 hc118
                        refine lv_aload_n hx hb dX12_goThroughPair_221 rfl (lv_at hl 1 rfl) ?_
                        refine lv_iload hx hb dX12_goThroughPair_222 (lv_at hl 7 rfl) ?_
                        refine lv_iload hx hb dX12_goThroughPair_224 (lv_at hl 8 rfl) ?_
                        refine lv_iload hx hb dX12_goThroughPair_226 (lv_at hl 9 rfl) ?_
                        refine lv_iload hx hb dX12_goThroughPair_228 (lv_at hl 10 rfl) ?_
                        refine lv_iload hx hb dX12_goThroughPair_230 (lv_at hl 11 rfl) ?_
                        refine m_cv (m_runV (rest := []) hX hw (tX12_day h) mtX12_day k_1188 ⟨k_1190, k_36⟩ cl12 hT113 ⟨⟨rfl, rfl, Nat.le_of_ble_eq_true rfl, Nat.le_of_ble_eq_true rfl⟩, Nat.le_of_ble_eq_true rfl, Nat.le_of_ble_eq_true rfl⟩ rfl hl.1 rfl (Nat.le_of_ble_eq_true rfl) dX12_goThroughPair_232) hw (fun σ121 H locs h hw => ?_)
                        refine lv_aload_n hx hb dX12_goThroughPair_235 rfl (lv_at hl 1 rfl) ?_
                        refine lv_dup hx hb dX12_goThroughPair_236 rfl ?_
                        obtain ⟨hT122, h⟩ := h
                        refine m_get hX hw cl12 hT122 39 (by decide) k_913 (fun _ h => h) (v := .long _) rfl dX12_goThroughPair_237 ?_
                        refine lv_aload_n hx hb dX12_goThroughPair_240 rfl (lv_at hl 1 rfl) ?_
                        obtain ⟨b123, hb123, h⟩ := h
                        refine m_get hX hw cl12 hT122 31 (by decide) k_905 (fun _ h => h) (v := .ref b123) (congrArg va_rf hb123) dX12_goThroughPair_241 ?_
                        refine lv_iload hx hb dX12_goThroughPair_244 (lv_at hl 6 rfl) ?_
                        obtain ⟨hT124, h⟩ := h
                        obtain ⟨hc125, h⟩ := h
                        refine m_lald hX hw hT124 hc125 dX12_goThroughPair_246 ?_
                        refine lv_iload hx hb dX12_goThroughPair_247 (lv_at hl 0 rfl) ?_
                        refine lv_i2l hx hb dX12_goThroughPair_249 rfl ?_
                        refine lv_lmul hx hb dX12_goThroughPair_250 ?_
                        refine lv_aload_n hx hb dX12_goThroughPair_251 rfl (lv_at hl 1 rfl) ?_
                        refine m_get hX hw cl12 hT122 27 (by decide) k_901 (fun _ h => h) (v := .int _) rfl dX12_goThroughPair_252 ?_
                        refine lv_i2l hx hb dX12_goThroughPair_255 rfl ?_
                        refine lv_lmul hx hb dX12_goThroughPair_256 ?_
                        refine lv_ladd hx hb dX12_goThroughPair_257 ?_
                        refine m_putL hX hw cl12 hT122 39 (by decide) k_913 (fun _ h => h) rfl rfl dX12_goThroughPair_258 (fun H locs hw => ?_)
                        let σ126 : Me := sL σ121 a0 39 ((gL σ121 a0 39) + (((gL σ121 b123 x7_31.toNatClampNeg) * x14_117.toInt64) * ((gI σ121 a0 27).toInt64)))
                        have h := h σ126 rfl
                        have hw : wS D cA z0 s σ126 H locs := hw
                        refine lv_aload_n hx hb dX12_goThroughPair_261 rfl (lv_at hl 1 rfl) ?_
                        refine lv_aload_n hx hb dX12_goThroughPair_262 rfl (lv_at hl 1 rfl) ?_
                        refine m_get hX hw cl12 hT122 24 (by decide) k_898 (fun _ h => h) (v := .int _) rfl dX12_goThroughPair_263 ?_
                        refine lv_aload_n hx hb dX12_goThroughPair_266 rfl (lv_at hl 1 rfl) ?_
                        refine m_get hX hw cl12 hT122 25 (by decide) k_899 (fun _ h => h) (v := .int _) rfl dX12_goThroughPair_267 ?_
                        refine lv_aload_n hx hb dX12_goThroughPair_270 rfl (lv_at hl 1 rfl) ?_
                        refine m_get hX hw cl12 hT122 26 (by decide) k_900 (fun _ h => h) (v := .int _) rfl dX12_goThroughPair_271 ?_
                        refine m_ci (m_runS (rest := [_]) hX hw (tX12_stateOf h) mtX12_stateOf k_1181 k_1182 ⟨⟨rfl, rfl, Nat.le_of_ble_eq_true rfl, Nat.le_of_ble_eq_true rfl⟩, Nat.le_of_ble_eq_true rfl, Nat.le_of_ble_eq_true rfl⟩ rfl hl.1 rfl (Nat.le_of_ble_eq_true rfl) dX12_goThroughPair_274) hw (fun r127 σ128 H locs h hw => ?_)
                        refine lv_aload_n hx hb dX12_goThroughPair_277 rfl (lv_at hl 1 rfl) ?_
                        obtain ⟨hT129, h⟩ := h
                        obtain ⟨b130, hb130, h⟩ := h
                        refine m_get hX hw cl12 hT129 31 (by decide) k_905 (fun _ h => h) (v := .ref b130) (congrArg va_rf hb130) dX12_goThroughPair_278 ?_
                        refine lv_iload hx hb dX12_goThroughPair_281 (lv_at hl 6 rfl) ?_
                        obtain ⟨hT131, h⟩ := h
                        obtain ⟨hc132, h⟩ := h
                        refine m_lald hX hw hT131 hc132 dX12_goThroughPair_283 ?_
                        refine lv_iload hx hb dX12_goThroughPair_284 (lv_at hl 0 rfl) ?_
                        refine lv_i2l hx hb dX12_goThroughPair_286 rfl ?_
                        refine lv_lmul hx hb dX12_goThroughPair_287 ?_
                        refine m_cv (m_runV (rest := []) hX hw (tX12_put h) mtX12_put k_1192 ⟨k_1194, k_37⟩ cl12 hT129 ⟨⟨rfl, rfl, Nat.le_of_ble_eq_true rfl, Nat.le_of_ble_eq_true rfl⟩, Nat.le_of_ble_eq_true rfl, Nat.le_of_ble_eq_true rfl⟩ rfl hl.1 rfl (Nat.le_of_ble_eq_true rfl) dX12_goThroughPair_288) hw (fun σ134 H locs h hw => ?_)
                        obtain ⟨x13_135, e_x13_135⟩ : ∃ y : Int32, y = x13_109 + 1 := ⟨_, rfl⟩
                        have h := h x13_135 e_x13_135
                        refine lv_iinc (v := x13_135) (lv' := [(13, _), (14, _), (0, _), (1, _), (3, _), (4, _), (6, _), (7, _), (8, _), (9, _), (10, _), (12, _)]) hx hb dX12_goThroughPair_291 hl (k := 11) rfl (by rw [e_x13_135]; rfl) (by decide) rfl (fun ls hl => ?_)
                        refine lv_goto (tgt := 195) hx hb dX12_goThroughPair_294 (by decide) ?_
                        obtain ⟨m195, hm195, h⟩ := h
                        exact ih195 m195 hm195 _ _ _ _ _ h hw (lv_sub hl [2, 3, 4, 5, 6, 7, 8, 9, 10, 11, 0] rfl)
                exact key195 _ _ _ _ _ _ h hw (lv_sub hl [5, 6, 7, 8, 9, 10, 4, 3, 2, 1, 0] rfl)
              refine lv_icmp_le (tgt := 166) hx hb dX12_goThroughPair_159 (by decide) (fun hc136 => ?_) (fun hc136 => ?_)
              · refine lv_aload_n hx hb dX12_goThroughPair_166 rfl (lv_at hl 4 rfl) ?_
                refine m_get hX hw cl12 hT32 51 (by decide) k_925 (fun _ h => h) (v := .int _) rfl dX12_goThroughPair_167 ?_
                refine lv_iload hx hb dX12_goThroughPair_170 (lv_at hl 0 rfl) ?_
                refine lv_isub hx hb dX12_goThroughPair_172 ?_
                refine lv_bipush (v := 12) hx hb dX12_goThroughPair_173 (by decide) ?_
                refine lv_icmp_le (tgt := 183) hx hb dX12_goThroughPair_175 (by decide) (fun hc137 => ?_) (fun hc137 => ?_)
                · refine lv_aload_n hx hb dX12_goThroughPair_183 rfl (lv_at hl 4 rfl) ?_
                  refine m_get hX hw cl12 hT32 51 (by decide) k_925 (fun _ h => h) (v := .int _) rfl dX12_goThroughPair_184 ?_
                  refine lv_iload hx hb dX12_goThroughPair_187 (lv_at hl 0 rfl) ?_
                  refine lv_isub hx hb dX12_goThroughPair_189 ?_
                  exact kM107 _ _ (by first | rfl | rw [if_pos hc136, if_pos hc137] | simp only [if_pos hc136, if_pos hc137]) (lv_sub hl [1, 2, 3, 4, 5, 6, 7, 8, 9] rfl)
                · refine lv_bipush (v := 12) hx hb dX12_goThroughPair_178 (by decide) ?_
                  refine lv_goto (tgt := 190) hx hb dX12_goThroughPair_180 (by decide) ?_
                  exact kM107 _ _ (by first | rfl | rw [if_pos hc136, if_neg hc137] | simp only [if_pos hc136, if_neg hc137]) (lv_sub hl [1, 2, 3, 4, 5, 6, 7, 8, 9] rfl)
              · refine lv_iconst (v := 0) hx hb dX12_goThroughPair_162 (by decide) ?_
                refine lv_goto (tgt := 190) hx hb dX12_goThroughPair_163 (by decide) ?_
                exact kM107 _ _ (by first | rfl | rw [if_neg hc136] | simp only [if_neg hc136]) (lv_sub hl [1, 2, 3, 4, 5, 6, 7, 8, 9] rfl)
        exact key91 _ _ _ _ _ _ h hw (lv_sub hl [1, 2, 3, 4, 5, 0] rfl)
  exact key45 _ _ _ _ _ _ h hw (lv_sub hl [2, 3, 5, 1, 0] rfl)
theorem mtX12_goThroughPair : Mth yX12_goThroughPair cX12_goThroughPair 15 none 3 := ⟨k_1223, k_50, by decide +kernel⟩
theorem tX12_goThroughPair {l : Launch} {D : va_G} {cA : Nat → ClassId} {z0 : Nat} {σ : Me} {a0 : Nat} {x1 : Int32} {x2 : Int32} {x3 : Int32} {Q : Me → Prop} (h : pX12_goThroughPair σ a0 x1 x2 x3 Q) : Met l yX12_goThroughPair (Cond.code yX12_goThroughPair cX12_goThroughPair 15 none :: gTab) rX12_goThroughPair (PcM D cA z0 σ [.ref a0, .int x1, .int x2, .int x3]) (va_Qv Q (BM D cA z0) (AM z0)) 0 0 (AM z0) :=
  met_of (by decide) (Nat.le_of_ble_eq_true rfl) (fun hX hlk hr hn hw hl => wX12_goThroughPair hX hlk hr h hw hl)
abbrev rX12_pairTold : Room := { frames := 0, cells := 0, slots := 0, locals := 0 }
def pX12_pairTold (σ : Me) (a0 : Nat) (x1 : Int32) (Q : Int32 → Me → Prop) : Prop := gT σ a0 = 12 ∧ ∀ v_3 : Int32, v_3 = (if x1 = 0 then (gI σ a0 48) else (if x1 = ((1 : Int32)) then (gI σ a0 49) else ((-1 : Int32)))) → Q v_3 σ
set_option maxHeartbeats 4000000 in
set_option maxRecDepth 100000 in
theorem wX12_pairTold {p : Program} {l : Launch} {e : Env} {s : State} {m : MethodId} {args : Array Value} {below : List Frame} {meth : Method} {c : Code} {D : va_G} {cA : Nat → ClassId} {z0 : Nat} (hX : Cx p m c cX12_pairTold 2 s args RX12 D cA) (hlk : meth.locks = false) (hr : meth.sig.returnType = (some .int)) {σ : Me} {a0 : Nat} {x1 : Int32} {Q : Int32 → Me → Prop} (h : pX12_pairTold σ a0 x1 Q) {H : Heap} {locs : List Loc} {ls : Array Slot} (hw : wS D cA z0 s σ H locs) (hl : lv_has ls 2 [(0, .ref a0), (1, .int x1)]) : W p l e rX12_pairTold s m args below meth c H locs 0 0 (MQ below (va_Qi Q (BM D cA z0) (AM z0)) args s 0 0 (AM z0)) (F0 m 0 ls []) := by
  have hx := hX.1.1
  have hb := hX.1.2.1
  have hown := hX.1.2.2.2.1
  have hts := hX.1.2.2.2.2
  unfold pX12_pairTold at h
  refine lv_iload_n hx hb dX12_pairTold_0 rfl (lv_at hl 1 rfl) ?_
  obtain ⟨hT2, h⟩ := h
  have kM4 : ∀ (v_3 : Int32) (ls : Array Slot), v_3 = (if x1 = 0 then (gI σ a0 48) else (if x1 = ((1 : Int32)) then (gI σ a0 49) else ((-1 : Int32)))) → lv_has ls 2 [] → W p l e rX12_pairTold s m args below meth c H locs 0 0 (MQ below (va_Qi Q (BM D cA z0) (AM z0)) args s 0 0 (AM z0)) (F0 m 24 ls [.int v_3]) := by
    intro v_3 ls e_v_3 hl
    have h := h v_3 e_v_3
    exact m_iret hX hlk hr hw h dX12_pairTold_24
  refine lv_if_ne (tgt := 11) hx hb dX12_pairTold_1 (by decide) (fun hc5 => ?_) (fun hc5 => ?_)
  · refine lv_iload_n hx hb dX12_pairTold_11 rfl (lv_at hl 1 rfl) ?_
    refine lv_iconst (v := 1) hx hb dX12_pairTold_12 (by decide) ?_
    refine lv_icmp_ne (tgt := 23) hx hb dX12_pairTold_13 (by decide) (fun hc6 => ?_) (fun hc6 => ?_)
    · refine lv_iconst (v := (-1)) hx hb dX12_pairTold_23 (by decide) ?_
      exact kM4 _ _ (by first | rfl | rw [if_neg hc5, if_neg hc6] | simp only [if_neg hc5, if_neg hc6]) (lv_sub hl [] rfl)
    · refine lv_aload_n hx hb dX12_pairTold_16 rfl (lv_at hl 0 rfl) ?_
      refine m_get hX hw cl12 hT2 49 (by decide) k_923 (fun _ h => h) (v := .int _) rfl dX12_pairTold_17 ?_
      refine lv_goto (tgt := 24) hx hb dX12_pairTold_20 (by decide) ?_
      exact kM4 _ _ (by first | rfl | rw [if_neg hc5, if_pos hc6] | simp only [if_neg hc5, if_pos hc6]) (lv_sub hl [] rfl)
  · refine lv_aload_n hx hb dX12_pairTold_4 rfl (lv_at hl 0 rfl) ?_
    refine m_get hX hw cl12 hT2 48 (by decide) k_922 (fun _ h => h) (v := .int _) rfl dX12_pairTold_5 ?_
    refine lv_goto (tgt := 24) hx hb dX12_pairTold_8 (by decide) ?_
    exact kM4 _ _ (by first | rfl | rw [if_pos hc5] | simp only [if_pos hc5]) (lv_sub hl [] rfl)
theorem mtX12_pairTold : Mth yX12_pairTold cX12_pairTold 2 (some .int) 1 := ⟨k_1227, k_50, by decide +kernel⟩
theorem tX12_pairTold {l : Launch} {D : va_G} {cA : Nat → ClassId} {z0 : Nat} {σ : Me} {a0 : Nat} {x1 : Int32} {Q : Int32 → Me → Prop} (h : pX12_pairTold σ a0 x1 Q) : Met l yX12_pairTold (Cond.code yX12_pairTold cX12_pairTold 2 (some .int) :: gTab) rX12_pairTold (PcM D cA z0 σ [.ref a0, .int x1]) (va_Qi Q (BM D cA z0) (AM z0)) 0 0 (AM z0) :=
  met_of (by decide) (Nat.le_of_ble_eq_true rfl) (fun hX hlk hr hn hw hl => wX12_pairTold hX hlk hr h hw hl)
abbrev rX12_give : Room := { frames := 0, cells := 0, slots := 0, locals := 0 }
def pX12_give (σ : Me) (a0 : Nat) (x1 : Int32) (x2 : Int32) (Q : Me → Prop) : Prop := ∃ I5 : Nat → Me → Int32 → Int32 → Prop, (∀ (n5 : Nat) (σ1 : Me) (x3_2 : Int32) (x4_3 : Int32), I5 n5 σ1 x3_2 x4_3 → (((3 : Int32)) ≤ x4_3 → Q σ1) ∧ (¬ ((3 : Int32)) ≤ x4_3 → ∀ v_7 : Int32, v_7 = (if x2 = 0 then (((2 : Int32)) - x4_3) else x4_3) → gT σ1 a0 = 12 ∧ ∀ v_11 : Int32, v_11 = (if v_7 = 0 then (gI σ1 a0 52) else (if v_7 = ((1 : Int32)) then (gI σ1 a0 53) else (gI σ1 a0 54))) → ∀ v_13 : Int32, v_13 = (if v_11 ≤ x3_2 then v_11 else x3_2) → ∀ x3_15 : Int32, x3_15 = (x3_2 - v_13) → ∀ v_16 : Int32, v_16 = (if v_7 = 0 then v_13 else ((0 : Int32))) → ∀ σ18 : Me, σ18 = sI σ1 a0 52 ((gI σ1 a0 52) - v_16) → ∀ v_19 : Int32, v_19 = (if v_7 = ((1 : Int32)) then v_13 else ((0 : Int32))) → ∀ σ21 : Me, σ21 = sI σ18 a0 53 ((gI σ18 a0 53) - v_19) → ∀ v_22 : Int32, v_22 = (if v_7 = ((2 : Int32)) then v_13 else ((0 : Int32))) → ∀ σ24 : Me, σ24 = sI σ21 a0 54 ((gI σ21 a0 54) - v_22) → ∀ x4_25 : Int32, x4_25 = x4_3 + 1 → ∃ m5 : Nat, m5 < n5 ∧ I5 m5 σ24 x3_15 x4_25)) ∧ ∃ n5 : Nat, I5 n5 σ x1 ((0 : Int32))
set_option maxHeartbeats 4000000 in
set_option maxRecDepth 100000 in
theorem wX12_give {p : Program} {l : Launch} {e : Env} {s : State} {m : MethodId} {args : Array Value} {below : List Frame} {meth : Method} {c : Code} {D : va_G} {cA : Nat → ClassId} {z0 : Nat} (hX : Cx p m c cX12_give 8 s args RX12 D cA) (hlk : meth.locks = false) (hr : meth.sig.returnType = none) {σ : Me} {a0 : Nat} {x1 : Int32} {x2 : Int32} {Q : Me → Prop} (h : pX12_give σ a0 x1 x2 Q) {H : Heap} {locs : List Loc} {ls : Array Slot} (hw : wS D cA z0 s σ H locs) (hl : lv_has ls 8 [(0, .ref a0), (1, .int x1), (2, .int x2)]) : W p l e rX12_give s m args below meth c H locs 0 0 (MQ below (va_Qv Q (BM D cA z0) (AM z0)) args s 0 0 (AM z0)) (F0 m 0 ls []) := by
  have hx := hX.1.1
  have hb := hX.1.2.1
  have hown := hX.1.2.2.2.1
  have hts := hX.1.2.2.2.2
  unfold pX12_give at h
  refine lv_iload_n hx hb dX12_give_0 rfl (lv_at hl 1 rfl) ?_
  refine lv_istore_n (lv' := [(3, _), (0, _), (1, _), (2, _)]) hx hb dX12_give_1 rfl hl (by decide) rfl (fun ls hl => ?_)
  refine lv_iconst (v := 0) hx hb dX12_give_2 (by decide) ?_
  refine lv_istore (lv' := [(4, _), (3, _), (0, _), (1, _), (2, _)]) hx hb dX12_give_3 hl (by decide) rfl (fun ls hl => ?_)
  obtain ⟨I5, hI5, n5, h⟩ := h
  have key5 : ∀ (n5 : Nat) (σ1 : Me) (x3_2 : Int32) (x4_3 : Int32) (H : Heap) (locs : List Loc) (ls : Array Slot), I5 n5 σ1 x3_2 x4_3 → wS D cA z0 s σ1 H locs → lv_has ls 8 [(0, .ref a0), (2, .int x2), (3, .int x3_2), (4, .int x4_3)] → W p l e rX12_give s m args below meth c H locs 0 0 (MQ below (va_Qv Q (BM D cA z0) (AM z0)) args s 0 0 (AM z0)) (F0 m 5 ls []) := by
    intro n5
    induction n5 using Nat.strongRecOn with
    | _ n5 ih5 =>
      intro σ1 x3_2 x4_3 H locs ls h hw hl
      have h := hI5 _ _ _ _ h
      refine lv_iload hx hb dX12_give_5 (lv_at hl 3 rfl) ?_
      refine lv_iconst (v := 3) hx hb dX12_give_7 (by decide) ?_
      refine lv_icmp_ge (tgt := 144) hx hb dX12_give_8 (by decide) (fun hc6 => ?_) (fun hc6 => ?_)
      · have h := h.1 hc6
        exact m_vret hX hlk hr hw h dX12_give_144
      · have h := h.2 hc6
        refine lv_iload_n hx hb dX12_give_11 rfl (lv_at hl 1 rfl) ?_
        have kM8 : ∀ (v_7 : Int32) (ls : Array Slot), v_7 = (if x2 = 0 then (((2 : Int32)) - x4_3) else x4_3) → lv_has ls 8 [(0, .ref a0), (2, .int x2), (3, .int x3_2), (4, .int x4_3)] → W p l e rX12_give s m args below meth c H locs 0 0 (MQ below (va_Qv Q (BM D cA z0) (AM z0)) args s 0 0 (AM z0)) (F0 m 24 ls [.int v_7]) := by
          intro v_7 ls e_v_7 hl
          have h := h v_7 e_v_7
          refine lv_istore (lv' := [(5, _), (0, _), (2, _), (3, _), (4, _)]) hx hb dX12_give_24 hl (by decide) rfl (fun ls hl => ?_)
          refine lv_iload hx hb dX12_give_26 (lv_at hl 0 rfl) ?_
          obtain ⟨hT10, h⟩ := h
          have kM12 : ∀ (v_11 : Int32) (ls : Array Slot), v_11 = (if v_7 = 0 then (gI σ1 a0 52) else (if v_7 = ((1 : Int32)) then (gI σ1 a0 53) else (gI σ1 a0 54))) → lv_has ls 8 [(5, .int v_7), (0, .ref a0), (2, .int x2), (3, .int x3_2), (4, .int x4_3)] → W p l e rX12_give s m args below meth c H locs 0 0 (MQ below (va_Qv Q (BM D cA z0) (AM z0)) args s 0 0 (AM z0)) (F0 m 55 ls [.int v_11]) := by
            intro v_11 ls e_v_11 hl
            have h := h v_11 e_v_11
            refine lv_istore (lv' := [(6, _), (5, _), (0, _), (2, _), (3, _), (4, _)]) hx hb dX12_give_55 hl (by decide) rfl (fun ls hl => ?_)
            refine lv_iload_n hx hb dX12_give_57 rfl (lv_at hl 4 rfl) ?_
            refine lv_iload hx hb dX12_give_58 (lv_at hl 0 rfl) ?_
            have kM14 : ∀ (v_13 : Int32) (ls : Array Slot), v_13 = (if v_11 ≤ x3_2 then v_11 else x3_2) → lv_has ls 8 [(5, .int v_7), (0, .ref a0), (2, .int x2), (3, .int x3_2), (4, .int x4_3)] → W p l e rX12_give s m args below meth c H locs 0 0 (MQ below (va_Qv Q (BM D cA z0) (AM z0)) args s 0 0 (AM z0)) (F0 m 69 ls [.int v_13]) := by
              intro v_13 ls e_v_13 hl
              have h := h v_13 e_v_13
              refine lv_istore (lv' := [(7, _), (5, _), (0, _), (2, _), (3, _), (4, _)]) hx hb dX12_give_69 hl (by decide) rfl (fun ls hl => ?_)
              refine lv_iload_n hx hb dX12_give_71 rfl (lv_at hl 4 rfl) ?_
              refine lv_iload hx hb dX12_give_72 (lv_at hl 0 rfl) ?_
              refine lv_isub hx hb dX12_give_74 ?_
              refine lv_topi (fun x3_15 e_x3_15 => ?_)
              have h := h x3_15 e_x3_15
              refine lv_istore_n (lv' := [(3, _), (7, _), (5, _), (0, _), (2, _), (4, _)]) hx hb dX12_give_75 rfl hl (by decide) rfl (fun ls hl => ?_)
              refine lv_aload_n hx hb dX12_give_76 rfl (lv_at hl 3 rfl) ?_
              refine lv_dup hx hb dX12_give_77 rfl ?_
              refine m_get hX hw cl12 hT10 52 (by decide) k_926 (fun _ h => h) (v := .int _) rfl dX12_give_78 ?_
              refine lv_iload hx hb dX12_give_81 (lv_at hl 2 rfl) ?_
              have kM17 : ∀ (v_16 : Int32) (ls : Array Slot), v_16 = (if v_7 = 0 then v_13 else ((0 : Int32))) → lv_has ls 8 [(3, .int x3_15), (7, .int v_13), (5, .int v_7), (0, .ref a0), (2, .int x2), (4, .int x4_3)] → W p l e rX12_give s m args below meth c H locs 0 0 (MQ below (va_Qv Q (BM D cA z0) (AM z0)) args s 0 0 (AM z0)) (F0 m 92 ls [.int v_16, .int (gI σ1 a0 52), .ref a0]) := by
                intro v_16 ls e_v_16 hl
                have h := h v_16 e_v_16
                refine lv_isub hx hb dX12_give_92 ?_
                refine m_putI hX hw cl12 hT10 52 (by decide) k_926 (fun _ h => h) rfl rfl dX12_give_93 (fun H locs hw => ?_)
                let σ18 : Me := sI σ1 a0 52 ((gI σ1 a0 52) - v_16)
                have h := h σ18 rfl
                have hw : wS D cA z0 s σ18 H locs := hw
                refine lv_aload_n hx hb dX12_give_96 rfl (lv_at hl 3 rfl) ?_
                refine lv_dup hx hb dX12_give_97 rfl ?_
                refine m_get hX hw cl12 hT10 53 (by decide) k_927 (fun _ h => h) (v := .int _) rfl dX12_give_98 ?_
                refine lv_iload hx hb dX12_give_101 (lv_at hl 2 rfl) ?_
                refine lv_iconst (v := 1) hx hb dX12_give_103 (by decide) ?_
                have kM20 : ∀ (v_19 : Int32) (ls : Array Slot), v_19 = (if v_7 = ((1 : Int32)) then v_13 else ((0 : Int32))) → lv_has ls 8 [(3, .int x3_15), (7, .int v_13), (5, .int v_7), (0, .ref a0), (2, .int x2), (4, .int x4_3)] → W p l e rX12_give s m args below meth c H locs 0 0 (MQ below (va_Qv Q (BM D cA z0) (AM z0)) args s 0 0 (AM z0)) (F0 m 113 ls [.int v_19, .int (gI σ18 a0 53), .ref a0]) := by
                  intro v_19 ls e_v_19 hl
                  have h := h v_19 e_v_19
                  refine lv_isub hx hb dX12_give_113 ?_
                  refine m_putI hX hw cl12 hT10 53 (by decide) k_927 (fun _ h => h) rfl rfl dX12_give_114 (fun H locs hw => ?_)
                  let σ21 : Me := sI σ18 a0 53 ((gI σ18 a0 53) - v_19)
                  have h := h σ21 rfl
                  have hw : wS D cA z0 s σ21 H locs := hw
                  refine lv_aload_n hx hb dX12_give_117 rfl (lv_at hl 3 rfl) ?_
                  refine lv_dup hx hb dX12_give_118 rfl ?_
                  refine m_get hX hw cl12 hT10 54 (by decide) k_928 (fun _ h => h) (v := .int _) rfl dX12_give_119 ?_
                  refine lv_iload hx hb dX12_give_122 (lv_at hl 2 rfl) ?_
                  refine lv_iconst (v := 2) hx hb dX12_give_124 (by decide) ?_
                  have kM23 : ∀ (v_22 : Int32) (ls : Array Slot), v_22 = (if v_7 = ((2 : Int32)) then v_13 else ((0 : Int32))) → lv_has ls 8 [(3, .int x3_15), (0, .ref a0), (2, .int x2), (4, .int x4_3)] → W p l e rX12_give s m args below meth c H locs 0 0 (MQ below (va_Qv Q (BM D cA z0) (AM z0)) args s 0 0 (AM z0)) (F0 m 134 ls [.int v_22, .int (gI σ21 a0 54), .ref a0]) := by
                    intro v_22 ls e_v_22 hl
                    have h := h v_22 e_v_22
                    refine lv_isub hx hb dX12_give_134 ?_
                    refine m_putI hX hw cl12 hT10 54 (by decide) k_928 (fun _ h => h) rfl rfl dX12_give_135 (fun H locs hw => ?_)
                    let σ24 : Me := sI σ21 a0 54 ((gI σ21 a0 54) - v_22)
                    have h := h σ24 rfl
                    have hw : wS D cA z0 s σ24 H locs := hw
                    obtain ⟨x4_25, e_x4_25⟩ : ∃ y : Int32, y = x4_3 + 1 := ⟨_, rfl⟩
                    have h := h x4_25 e_x4_25
                    refine lv_iinc (v := x4_25) (lv' := [(4, _), (3, _), (0, _), (2, _)]) hx hb dX12_give_138 hl (k := 3) rfl (by rw [e_x4_25]; rfl) (by decide) rfl (fun ls hl => ?_)
                    refine lv_goto (tgt := 5) hx hb dX12_give_141 (by decide) ?_
                    obtain ⟨m5, hm5, h⟩ := h
                    exact ih5 m5 hm5 _ _ _ _ _ _ h hw (lv_sub hl [2, 3, 1, 0] rfl)
                  refine lv_icmp_ne (tgt := 133) hx hb dX12_give_125 (by decide) (fun hc26 => ?_) (fun hc26 => ?_)
                  · refine lv_iconst (v := 0) hx hb dX12_give_133 (by decide) ?_
                    exact kM23 _ _ (by first | rfl | rw [if_neg hc26] | simp only [if_neg hc26]) (lv_sub hl [0, 3, 4, 5] rfl)
                  · refine lv_iload hx hb dX12_give_128 (lv_at hl 1 rfl) ?_
                    refine lv_goto (tgt := 134) hx hb dX12_give_130 (by decide) ?_
                    exact kM23 _ _ (by first | rfl | rw [if_pos hc26] | simp only [if_pos hc26]) (lv_sub hl [0, 3, 4, 5] rfl)
                refine lv_icmp_ne (tgt := 112) hx hb dX12_give_104 (by decide) (fun hc27 => ?_) (fun hc27 => ?_)
                · refine lv_iconst (v := 0) hx hb dX12_give_112 (by decide) ?_
                  exact kM20 _ _ (by first | rfl | rw [if_neg hc27] | simp only [if_neg hc27]) (lv_sub hl [0, 1, 2, 3, 4, 5] rfl)
                · refine lv_iload hx hb dX12_give_107 (lv_at hl 1 rfl) ?_
                  refine lv_goto (tgt := 113) hx hb dX12_give_109 (by decide) ?_
                  exact kM20 _ _ (by first | rfl | rw [if_pos hc27] | simp only [if_pos hc27]) (lv_sub hl [0, 1, 2, 3, 4, 5] rfl)
              refine lv_if_ne (tgt := 91) hx hb dX12_give_83 (by decide) (fun hc28 => ?_) (fun hc28 => ?_)
              · refine lv_iconst (v := 0) hx hb dX12_give_91 (by decide) ?_
                exact kM17 _ _ (by first | rfl | rw [if_neg hc28] | simp only [if_neg hc28]) (lv_sub hl [0, 1, 2, 3, 4, 5] rfl)
              · refine lv_iload hx hb dX12_give_86 (lv_at hl 1 rfl) ?_
                refine lv_goto (tgt := 92) hx hb dX12_give_88 (by decide) ?_
                exact kM17 _ _ (by first | rfl | rw [if_pos hc28] | simp only [if_pos hc28]) (lv_sub hl [0, 1, 2, 3, 4, 5] rfl)
            refine lv_icmp_ge (tgt := 67) hx hb dX12_give_60 (by decide) (fun hc29 => ?_) (fun hc29 => ?_)
            · refine lv_iload hx hb dX12_give_67 (lv_at hl 0 rfl) ?_
              exact kM14 _ _ (by first | rfl | rw [if_pos hc29] | simp only [if_pos hc29]) (lv_sub hl [1, 2, 3, 4, 5] rfl)
            · refine lv_iload_n hx hb dX12_give_63 rfl (lv_at hl 4 rfl) ?_
              refine lv_goto (tgt := 69) hx hb dX12_give_64 (by decide) ?_
              exact kM14 _ _ (by first | rfl | rw [if_neg hc29] | simp only [if_neg hc29]) (lv_sub hl [1, 2, 3, 4, 5] rfl)
          refine lv_if_ne (tgt := 38) hx hb dX12_give_28 (by decide) (fun hc30 => ?_) (fun hc30 => ?_)
          · refine lv_iload hx hb dX12_give_38 (lv_at hl 0 rfl) ?_
            refine lv_iconst (v := 1) hx hb dX12_give_40 (by decide) ?_
            refine lv_icmp_ne (tgt := 51) hx hb dX12_give_41 (by decide) (fun hc31 => ?_) (fun hc31 => ?_)
            · refine lv_aload_n hx hb dX12_give_51 rfl (lv_at hl 1 rfl) ?_
              refine m_get hX hw cl12 hT10 54 (by decide) k_928 (fun _ h => h) (v := .int _) rfl dX12_give_52 ?_
              exact kM12 _ _ (by first | rfl | rw [if_neg hc30, if_neg hc31] | simp only [if_neg hc30, if_neg hc31]) (lv_sub hl [0, 1, 2, 3, 4] rfl)
            · refine lv_aload_n hx hb dX12_give_44 rfl (lv_at hl 1 rfl) ?_
              refine m_get hX hw cl12 hT10 53 (by decide) k_927 (fun _ h => h) (v := .int _) rfl dX12_give_45 ?_
              refine lv_goto (tgt := 55) hx hb dX12_give_48 (by decide) ?_
              exact kM12 _ _ (by first | rfl | rw [if_neg hc30, if_pos hc31] | simp only [if_neg hc30, if_pos hc31]) (lv_sub hl [0, 1, 2, 3, 4] rfl)
          · refine lv_aload_n hx hb dX12_give_31 rfl (lv_at hl 1 rfl) ?_
            refine m_get hX hw cl12 hT10 52 (by decide) k_926 (fun _ h => h) (v := .int _) rfl dX12_give_32 ?_
            refine lv_goto (tgt := 55) hx hb dX12_give_35 (by decide) ?_
            exact kM12 _ _ (by first | rfl | rw [if_pos hc30] | simp only [if_pos hc30]) (lv_sub hl [0, 1, 2, 3, 4] rfl)
        refine lv_if_eq (tgt := 20) hx hb dX12_give_12 (by decide) (fun hc32 => ?_) (fun hc32 => ?_)
        · refine lv_iconst (v := 2) hx hb dX12_give_20 (by decide) ?_
          refine lv_iload hx hb dX12_give_21 (lv_at hl 3 rfl) ?_
          refine lv_isub hx hb dX12_give_23 ?_
          exact kM8 _ _ (by first | rfl | rw [if_pos hc32] | simp only [if_pos hc32]) (lv_sub hl [0, 1, 2, 3] rfl)
        · refine lv_iload hx hb dX12_give_15 (lv_at hl 3 rfl) ?_
          refine lv_goto (tgt := 24) hx hb dX12_give_17 (by decide) ?_
          exact kM8 _ _ (by first | rfl | rw [if_neg hc32] | simp only [if_neg hc32]) (lv_sub hl [0, 1, 2, 3] rfl)
  exact key5 _ _ _ _ _ _ _ h hw (lv_sub hl [2, 4, 1, 0] rfl)
theorem mtX12_give : Mth yX12_give cX12_give 8 none 2 := ⟨k_1235, k_50, by decide +kernel⟩
theorem tX12_give {l : Launch} {D : va_G} {cA : Nat → ClassId} {z0 : Nat} {σ : Me} {a0 : Nat} {x1 : Int32} {x2 : Int32} {Q : Me → Prop} (h : pX12_give σ a0 x1 x2 Q) : Met l yX12_give (Cond.code yX12_give cX12_give 8 none :: gTab) rX12_give (PcM D cA z0 σ [.ref a0, .int x1, .int x2]) (va_Qv Q (BM D cA z0) (AM z0)) 0 0 (AM z0) :=
  met_of (by decide) (Nat.le_of_ble_eq_true rfl) (fun hX hlk hr hn hw hl => wX12_give hX hlk hr h hw hl)
abbrev rX12_spoilt : Room := { frames := 2, cells := 0, slots := 0, locals := 56 }
def pX12_spoilt (σ : Me) (a0 : Nat) (x1 : Int32) (x2 : Int32) (x3 : Int32) (x4 : Int32) (x5 : Int32) (Q : Int32 → Me → Prop) : Prop := pX12_isPlace σ x1 (fun r1 σ2 => (r1 = 0 → Q ((-1 : Int32)) σ2) ∧ (¬ r1 = 0 → pX12_in σ2 x2 ((0 : Int32)) ((12 : Int32)) (fun r4 σ5 => (r4 = 0 → Q ((-1 : Int32)) σ5) ∧ (¬ r4 = 0 → pX12_in σ5 x3 ((1 : Int32)) ((3 : Int32)) (fun r7 σ8 => (r7 = 0 → Q ((-1 : Int32)) σ8) ∧ (¬ r7 = 0 → pX12_in σ8 x4 ((1 : Int32)) ((6 : Int32)) (fun r10 σ11 => (r10 = 0 → Q ((-1 : Int32)) σ11) ∧ (¬ r10 = 0 → gT σ11 a0 = 12 ∧ pX12_needBook σ11 a0 x1 (fun r13 σ14 => (0 ≤ r13 → gT σ14 a0 = 12 ∧ pX12_allOf σ14 a0 x1 (fun r17 σ18 => ∀ x7_20 : Int64, x7_20 = (r17.toInt64) → gT σ18 a0 = 12 ∧ ∀ σ22 : Me, σ22 = sL σ18 a0 44 ((1 : Int64)) → ∃ b23 : Nat, gP σ22 a0 30 = some b23 ∧ gT σ22 b23 = 20 ∧ vp_in ((0 : Int32)) (gN σ22 b23) ∧ ∀ σ26 : Me, σ26 = sI σ22 b23 ((0 : Int32)).toNatClampNeg ((0 : Int32)) → ∃ b27 : Nat, gP σ26 a0 31 = some b27 ∧ gT σ26 b27 = 21 ∧ vp_in ((0 : Int32)) (gN σ26 b27) ∧ ∀ σ30 : Me, σ30 = sL σ26 b27 ((0 : Int32)).toNatClampNeg ((1 : Int64)) → ∀ σ31 : Me, σ31 = sI σ30 a0 32 ((1 : Int32)) → ∃ I92 : Nat → Me → Int64 → Int32 → Prop, (∀ (n92 : Nat) (σ32 : Me) (x9_33 : Int64) (x11_34 : Int32), I92 n92 σ32 x9_33 x11_34 → (x4 ≤ x11_34 → gT σ32 a0 = 12 ∧ pX12_tells σ32 a0 x9_33 (gL σ32 a0 44) ((1 : Int32)) (fun r39 σ40 => Q r39 σ40)) ∧ (¬ x4 ≤ x11_34 → gT σ32 a0 = 12 ∧ ∀ σ42 : Me, σ42 = sI σ32 a0 38 ((gI σ32 a0 38) + ((1 : Int32))) → ∀ σ43 : Me, σ43 = sI σ42 a0 35 ((0 : Int32)) → ∀ x9_44 : Int64, x9_44 = (x9_33 * x7_20) → ∀ σ45 : Me, σ45 = sL σ43 a0 44 ((gL σ43 a0 44) * x7_20) → ∃ I135 : Nat → Me → Int64 → Int32 → Prop, (∀ (n135 : Nat) (σ46 : Me) (x9_47 : Int64) (x12_48 : Int32), I135 n135 σ46 x9_47 x12_48 → gT σ46 a0 = 12 ∧ ((gI σ46 a0 32) ≤ x12_48 → ∀ σ94 : Me, σ94 = sI σ46 a0 32 (gI σ46 a0 35) → ∃ I342 : Nat → Me → Int32 → Prop, (∀ (n342 : Nat) (σ95 : Me) (x12_96 : Int32), I342 n342 σ95 x12_96 → gT σ95 a0 = 12 ∧ ((gI σ95 a0 32) ≤ x12_96 → ∀ x11_99 : Int32, x11_99 = x11_34 + 1 → ∃ m92 : Nat, m92 < n92 ∧ I92 m92 σ95 x9_47 x11_99) ∧ (¬ (gI σ95 a0 32) ≤ x12_96 → ∃ b100 : Nat, gP σ95 a0 30 = some b100 ∧ ∃ b101 : Nat, gP σ95 a0 33 = some b101 ∧ gT σ95 b101 = 20 ∧ vp_in x12_96 (gN σ95 b101) ∧ gT σ95 b100 = 20 ∧ vp_in x12_96 (gN σ95 b100) ∧ ∀ σ106 : Me, σ106 = sI σ95 b100 x12_96.toNatClampNeg (gI σ95 b101 x12_96.toNatClampNeg) → ∃ b107 : Nat, gP σ106 a0 31 = some b107 ∧ ∃ b108 : Nat, gP σ106 a0 34 = some b108 ∧ gT σ106 b108 = 21 ∧ vp_in x12_96 (gN σ106 b108) ∧ gT σ106 b107 = 21 ∧ vp_in x12_96 (gN σ106 b107) ∧ ∀ σ113 : Me, σ113 = sL σ106 b107 x12_96.toNatClampNeg (gL σ106 b108 x12_96.toNatClampNeg) → ∀ x12_114 : Int32, x12_114 = x12_96 + 1 → ∃ m342 : Nat, m342 < n342 ∧ I342 m342 σ113 x12_114)) ∧ ∃ n342 : Nat, I342 n342 σ94 ((0 : Int32))) ∧ (¬ (gI σ46 a0 32) ≤ x12_48 → ∃ I147 : Nat → Me → Int64 → Int32 → Prop, (∀ (n147 : Nat) (σ115 : Me) (x9_116 : Int64) (x13_117 : Int32), I147 n147 σ115 x9_116 x13_117 → (((7 : Int32)) ≤ x13_117 → ∀ x12_120 : Int32, x12_120 = x12_48 + 1 → ∃ m135 : Nat, m135 < n135 ∧ I135 m135 σ115 x9_116 x12_120) ∧ (¬ ((7 : Int32)) ≤ x13_117 → gT σ115 a0 = 12 ∧ ∃ b122 : Nat, gP σ115 a0 5 = some b122 ∧ gT σ115 b122 = 20 ∧ vp_in ((((7 : Int32)) * x1) + x13_117) (gN σ115 b122) ∧ ∀ x14_125 : Int32, x14_125 = (gI σ115 b122 ((((7 : Int32)) * x1) + x13_117).toNatClampNeg) → (x14_125 ≤ 0 → ∀ x13_127 : Int32, x13_127 = x13_117 + 1 → ∃ m147 : Nat, m147 < n147 ∧ I147 m147 σ115 x9_116 x13_127) ∧ (¬ x14_125 ≤ 0 → ∃ b128 : Nat, gP σ115 a0 30 = some b128 ∧ gT σ115 b128 = 20 ∧ vp_in x12_48 (gN σ115 b128) ∧ ∀ σ131 : Me, σ131 = sI σ115 a0 53 ((gI σ115 b128 x12_48.toNatClampNeg) / ((25 : Int32))) → vp_in x12_48 (gN σ131 b128) ∧ ∀ σ133 : Me, σ133 = sI σ131 a0 54 ((gI σ131 b128 x12_48.toNatClampNeg) - (gI σ131 b128 x12_48.toNatClampNeg) / ((25 : Int32)) * ((25 : Int32))) → ∀ σ134 : Me, σ134 = sI σ133 a0 52 ((x2 - (gI σ133 a0 53)) - (gI σ133 a0 54)) → pX12_give σ134 a0 x13_117 x5 (fun σ136 => gT σ136 a0 = 12 ∧ ∀ v_139 : Int32, v_139 = (if x3 = ((1 : Int32)) then (gI σ136 a0 52) else (if x3 = ((2 : Int32)) then (gI σ136 a0 53) else (gI σ136 a0 54))) → ∃ b141 : Nat, gP σ136 a0 31 = some b141 ∧ gT σ136 b141 = 21 ∧ vp_in x12_48 (gN σ136 b141) ∧ ∀ x9_144 : Int64, x9_144 = (x9_116 + (((gL σ136 b141 x12_48.toNatClampNeg) * x14_125.toInt64) * v_139.toInt64)) → ∀ v_145 : Int32, v_145 = (if x3 ≤ ((1 : Int32)) then ((0 : Int32)) else (gI σ136 a0 52)) → ∀ v_147 : Int32, v_147 = (if x3 ≤ ((2 : Int32)) then ((0 : Int32)) else (gI σ136 a0 53)) → vp_in x12_48 (gN σ136 b141) ∧ pX12_put σ136 a0 ((((25 : Int32)) * v_145) + v_147) ((gL σ136 b141 x12_48.toNatClampNeg) * x14_125.toInt64) (fun σ151 => ∀ x13_152 : Int32, x13_152 = x13_117 + 1 → ∃ m147 : Nat, m147 < n147 ∧ I147 m147 σ151 x9_144 x13_152))))) ∧ ∃ n147 : Nat, I147 n147 σ46 x9_47 ((0 : Int32)))) ∧ ∃ n135 : Nat, I135 n135 σ45 x9_44 ((0 : Int32)))) ∧ ∃ n92 : Nat, I92 n92 σ31 ((0 : Int64)) ((0 : Int32)))) ∧ (¬ 0 ≤ r13 → Q r13 σ14))))))))))
set_option maxHeartbeats 4000000 in
set_option maxRecDepth 100000 in
theorem wX12_spoilt {p : Program} {l : Launch} {e : Env} {s : State} {m : MethodId} {args : Array Value} {below : List Frame} {meth : Method} {c : Code} {D : va_G} {cA : Nat → ClassId} {z0 : Nat} (hX : Cx p m c cX12_spoilt 16 s args RX12 D cA) (hlk : meth.locks = false) (hr : meth.sig.returnType = (some .int)) {σ : Me} {a0 : Nat} {x1 : Int32} {x2 : Int32} {x3 : Int32} {x4 : Int32} {x5 : Int32} {Q : Int32 → Me → Prop} (h : pX12_spoilt σ a0 x1 x2 x3 x4 x5 Q) {H : Heap} {locs : List Loc} {ls : Array Slot} (hw : wS D cA z0 s σ H locs) (hl : lv_has ls 16 [(0, .ref a0), (1, .int x1), (2, .int x2), (3, .int x3), (4, .int x4), (5, .int x5)]) : W p l e rX12_spoilt s m args below meth c H locs 0 0 (MQ below (va_Qi Q (BM D cA z0) (AM z0)) args s 0 0 (AM z0)) (F0 m 0 ls []) := by
  have hx := hX.1.1
  have hb := hX.1.2.1
  have hown := hX.1.2.2.2.1
  have hts := hX.1.2.2.2.2
  unfold pX12_spoilt at h
  refine lv_iload_n hx hb dX12_spoilt_0 rfl (lv_at hl 1 rfl) ?_
  refine m_ci (m_runS (rest := []) hX hw (tX12_isPlace h) mtX12_isPlace k_1069 k_1070 ⟨⟨rfl, rfl, Nat.le_of_ble_eq_true rfl, Nat.le_of_ble_eq_true rfl⟩, Nat.le_of_ble_eq_true rfl, Nat.le_of_ble_eq_true rfl⟩ rfl hl.1 rfl (Nat.le_of_ble_eq_true rfl) dX12_spoilt_1) hw (fun r1 σ2 H locs h hw => ?_)
  refine lv_if_eq (tgt := 37) hx hb dX12_spoilt_4 (by decide) (fun hc3 => ?_) (fun hc3 => ?_)
  · have h := h.1 hc3
    refine lv_iconst (v := (-1)) hx hb dX12_spoilt_37 (by decide) ?_
    exact m_iret hX hlk hr hw h dX12_spoilt_38
  · have h := h.2 hc3
    refine lv_iload_n hx hb dX12_spoilt_7 rfl (lv_at hl 2 rfl) ?_
    refine lv_iconst (v := 0) hx hb dX12_spoilt_8 (by decide) ?_
    refine lv_bipush (v := 12) hx hb dX12_spoilt_9 (by decide) ?_
    refine m_ci (m_runS (rest := []) hX hw (tX12_in h) mtX12_in k_1054 k_1055 ⟨⟨rfl, rfl, Nat.le_of_ble_eq_true rfl, Nat.le_of_ble_eq_true rfl⟩, Nat.le_of_ble_eq_true rfl, Nat.le_of_ble_eq_true rfl⟩ rfl hl.1 rfl (Nat.le_of_ble_eq_true rfl) dX12_spoilt_11) hw (fun r4 σ5 H locs h hw => ?_)
    refine lv_if_eq (tgt := 37) hx hb dX12_spoilt_14 (by decide) (fun hc6 => ?_) (fun hc6 => ?_)
    · have h := h.1 hc6
      refine lv_iconst (v := (-1)) hx hb dX12_spoilt_37 (by decide) ?_
      exact m_iret hX hlk hr hw h dX12_spoilt_38
    · have h := h.2 hc6
      refine lv_iload_n hx hb dX12_spoilt_17 rfl (lv_at hl 3 rfl) ?_
      refine lv_iconst (v := 1) hx hb dX12_spoilt_18 (by decide) ?_
      refine lv_iconst (v := 3) hx hb dX12_spoilt_19 (by decide) ?_
      refine m_ci (m_runS (rest := []) hX hw (tX12_in h) mtX12_in k_1054 k_1055 ⟨⟨rfl, rfl, Nat.le_of_ble_eq_true rfl, Nat.le_of_ble_eq_true rfl⟩, Nat.le_of_ble_eq_true rfl, Nat.le_of_ble_eq_true rfl⟩ rfl hl.1 rfl (Nat.le_of_ble_eq_true rfl) dX12_spoilt_20) hw (fun r7 σ8 H locs h hw => ?_)
      refine lv_if_eq (tgt := 37) hx hb dX12_spoilt_23 (by decide) (fun hc9 => ?_) (fun hc9 => ?_)
      · have h := h.1 hc9
        refine lv_iconst (v := (-1)) hx hb dX12_spoilt_37 (by decide) ?_
        exact m_iret hX hlk hr hw h dX12_spoilt_38
      · have h := h.2 hc9
        refine lv_iload hx hb dX12_spoilt_26 (lv_at hl 4 rfl) ?_
        refine lv_iconst (v := 1) hx hb dX12_spoilt_28 (by decide) ?_
        refine lv_bipush (v := 6) hx hb dX12_spoilt_29 (by decide) ?_
        refine m_ci (m_runS (rest := []) hX hw (tX12_in h) mtX12_in k_1054 k_1055 ⟨⟨rfl, rfl, Nat.le_of_ble_eq_true rfl, Nat.le_of_ble_eq_true rfl⟩, Nat.le_of_ble_eq_true rfl, Nat.le_of_ble_eq_true rfl⟩ rfl hl.1 rfl (Nat.le_of_ble_eq_true rfl) dX12_spoilt_31) hw (fun r10 σ11 H locs h hw => ?_)
        refine lv_if_ne (tgt := 39) hx hb dX12_spoilt_34 (by decide) (fun hc12 => ?_) (fun hc12 => ?_)
        · have h := h.2 hc12
          refine lv_aload_n hx hb dX12_spoilt_39 rfl (lv_at hl 0 rfl) ?_
          refine lv_iload_n hx hb dX12_spoilt_40 rfl (lv_at hl 1 rfl) ?_
          obtain ⟨hT15, h⟩ := h
          refine m_ci (m_runV (rest := []) hX hw (tX12_needBook h) mtX12_needBook k_1173 ⟨k_1175, k_33⟩ cl12 hT15 ⟨⟨rfl, rfl, Nat.le_of_ble_eq_true rfl, Nat.le_of_ble_eq_true rfl⟩, Nat.le_of_ble_eq_true rfl, Nat.le_of_ble_eq_true rfl⟩ rfl hl.1 rfl (Nat.le_of_ble_eq_true rfl) dX12_spoilt_41) hw (fun r13 σ14 H locs h hw => ?_)
          refine lv_istore (lv' := [(6, _), (0, _), (1, _), (2, _), (3, _), (4, _), (5, _)]) hx hb dX12_spoilt_44 hl (by decide) rfl (fun ls hl => ?_)
          refine lv_iload hx hb dX12_spoilt_46 (lv_at hl 0 rfl) ?_
          refine lv_if_ge (tgt := 54) hx hb dX12_spoilt_48 (by decide) (fun hc16 => ?_) (fun hc16 => ?_)
          · have h := h.1 hc16
            refine lv_aload_n hx hb dX12_spoilt_54 rfl (lv_at hl 1 rfl) ?_
            refine lv_iload_n hx hb dX12_spoilt_55 rfl (lv_at hl 2 rfl) ?_
            obtain ⟨hT19, h⟩ := h
            refine m_ci (m_runV (rest := []) hX hw (tX12_allOf h) mtX12_allOf k_1093 ⟨k_1095, k_25⟩ cl12 hT19 ⟨⟨rfl, rfl, Nat.le_of_ble_eq_true rfl, Nat.le_of_ble_eq_true rfl⟩, Nat.le_of_ble_eq_true rfl, Nat.le_of_ble_eq_true rfl⟩ rfl hl.1 rfl (Nat.le_of_ble_eq_true rfl) dX12_spoilt_56) hw (fun r17 σ18 H locs h hw => ?_)
            refine lv_i2l hx hb dX12_spoilt_59 rfl ?_
            refine lv_topl (fun x7_20 e_x7_20 => ?_)
            have h := h x7_20 e_x7_20
            refine lv_lstore (lv' := [(7, _), (6, _), (0, _), (1, _), (2, _), (3, _), (4, _), (5, _)]) hx hb dX12_spoilt_60 hl (by decide) rfl (fun ls hl => ?_)
            refine lv_lconst (v := 0) hx hb dX12_spoilt_62 (by decide) ?_
            refine lv_lstore (lv' := [(9, _), (7, _), (6, _), (0, _), (1, _), (2, _), (3, _), (4, _), (5, _)]) hx hb dX12_spoilt_63 hl (by decide) rfl (fun ls hl => ?_)
            refine lv_aload_n hx hb dX12_spoilt_65 rfl (lv_at hl 3 rfl) ?_
            refine lv_lconst (v := 1) hx hb dX12_spoilt_66 (by decide) ?_
            obtain ⟨hT21, h⟩ := h
            refine m_putL hX hw cl12 hT21 44 (by decide) k_918 (fun _ h => h) rfl rfl dX12_spoilt_67 (fun H locs hw => ?_)
            let σ22 : Me := sL σ18 a0 44 ((1 : Int64))
            have h := h σ22 rfl
            have hw : wS D cA z0 s σ22 H locs := hw
            refine lv_aload_n hx hb dX12_spoilt_70 rfl (lv_at hl 3 rfl) ?_
            obtain ⟨b23, hb23, h⟩ := h
            refine m_get hX hw cl12 hT21 30 (by decide) k_904 (fun _ h => h) (v := .ref b23) (congrArg va_rf hb23) dX12_spoilt_71 ?_
            refine lv_iconst (v := 0) hx hb dX12_spoilt_74 (by decide) ?_
            refine lv_iconst (v := 0) hx hb dX12_spoilt_75 (by decide) ?_
            obtain ⟨hT24, h⟩ := h
            obtain ⟨hc25, h⟩ := h
            refine m_iast hX hw hT24 hc25 dX12_spoilt_76 (fun H locs hw => ?_)
            let σ26 : Me := sI σ22 b23 ((0 : Int32)).toNatClampNeg ((0 : Int32))
            have h := h σ26 rfl
            have hw : wS D cA z0 s σ26 H locs := hw
            refine lv_aload_n hx hb dX12_spoilt_77 rfl (lv_at hl 3 rfl) ?_
            obtain ⟨b27, hb27, h⟩ := h
            refine m_get hX hw cl12 hT21 31 (by decide) k_905 (fun _ h => h) (v := .ref b27) (congrArg va_rf hb27) dX12_spoilt_78 ?_
            refine lv_iconst (v := 0) hx hb dX12_spoilt_81 (by decide) ?_
            refine lv_lconst (v := 1) hx hb dX12_spoilt_82 (by decide) ?_
            obtain ⟨hT28, h⟩ := h
            obtain ⟨hc29, h⟩ := h
            refine m_last hX hw hT28 hc29 dX12_spoilt_83 (fun H locs hw => ?_)
            let σ30 : Me := sL σ26 b27 ((0 : Int32)).toNatClampNeg ((1 : Int64))
            have h := h σ30 rfl
            have hw : wS D cA z0 s σ30 H locs := hw
            refine lv_aload_n hx hb dX12_spoilt_84 rfl (lv_at hl 3 rfl) ?_
            refine lv_iconst (v := 1) hx hb dX12_spoilt_85 (by decide) ?_
            refine m_putI hX hw cl12 hT21 32 (by decide) k_906 (fun _ h => h) rfl rfl dX12_spoilt_86 (fun H locs hw => ?_)
            let σ31 : Me := sI σ30 a0 32 ((1 : Int32))
            have h := h σ31 rfl
            have hw : wS D cA z0 s σ31 H locs := hw
            refine lv_iconst (v := 0) hx hb dX12_spoilt_89 (by decide) ?_
            refine lv_istore (lv' := [(11, _), (9, _), (7, _), (6, _), (0, _), (1, _), (2, _), (3, _), (4, _), (5, _)]) hx hb dX12_spoilt_90 hl (by decide) rfl (fun ls hl => ?_)
            obtain ⟨I92, hI92, n92, h⟩ := h
            have key92 : ∀ (n92 : Nat) (σ32 : Me) (x9_33 : Int64) (x11_34 : Int32) (H : Heap) (locs : List Loc) (ls : Array Slot), I92 n92 σ32 x9_33 x11_34 → wS D cA z0 s σ32 H locs → lv_has ls 16 [(0, .ref a0), (1, .int x1), (2, .int x2), (3, .int x3), (4, .int x4), (5, .int x5), (7, .long x7_20), (9, .long x9_33), (11, .int x11_34)] → W p l e rX12_spoilt s m args below meth c H locs 0 0 (MQ below (va_Qi Q (BM D cA z0) (AM z0)) args s 0 0 (AM z0)) (F0 m 92 ls []) := by
              intro n92
              induction n92 using Nat.strongRecOn with
              | _ n92 ih92 =>
                intro σ32 x9_33 x11_34 H locs ls h hw hl
                have h := hI92 _ _ _ _ h
                refine lv_iload hx hb dX12_spoilt_92 (lv_at hl 8 rfl) ?_
                refine lv_iload hx hb dX12_spoilt_94 (lv_at hl 4 rfl) ?_
                refine lv_icmp_ge (tgt := 391) hx hb dX12_spoilt_96 (by decide) (fun hc37 => ?_) (fun hc37 => ?_)
                · have h := h.1 hc37
                  refine lv_aload_n hx hb dX12_spoilt_391 rfl (lv_at hl 0 rfl) ?_
                  refine lv_lload hx hb dX12_spoilt_392 (lv_at hl 7 rfl) ?_
                  refine lv_aload_n hx hb dX12_spoilt_394 rfl (lv_at hl 0 rfl) ?_
                  obtain ⟨hT38, h⟩ := h
                  refine m_get hX hw cl12 hT38 44 (by decide) k_918 (fun _ h => h) (v := .long _) rfl dX12_spoilt_395 ?_
                  refine lv_iconst (v := 1) hx hb dX12_spoilt_398 (by decide) ?_
                  refine m_ci (m_runV (rest := []) hX hw (tX12_tells h) mtX12_tells k_1196 ⟨k_1198, k_38⟩ cl12 hT38 ⟨⟨rfl, rfl, Nat.le_of_ble_eq_true rfl, Nat.le_of_ble_eq_true rfl⟩, Nat.le_of_ble_eq_true rfl, Nat.le_of_ble_eq_true rfl⟩ rfl hl.1 rfl (Nat.le_of_ble_eq_true rfl) dX12_spoilt_399) hw (fun r39 σ40 H locs h hw => ?_)
                  exact m_iret hX hlk hr hw h dX12_spoilt_402
                · have h := h.2 hc37
                  refine lv_aload_n hx hb dX12_spoilt_99 rfl (lv_at hl 0 rfl) ?_
                  refine lv_dup hx hb dX12_spoilt_100 rfl ?_
                  obtain ⟨hT41, h⟩ := h
                  refine m_get hX hw cl12 hT41 38 (by decide) k_912 (fun _ h => h) (v := .int _) rfl dX12_spoilt_101 ?_
                  refine lv_iconst (v := 1) hx hb dX12_spoilt_104 (by decide) ?_
                  refine lv_iadd hx hb dX12_spoilt_105 ?_
                  refine m_putI hX hw cl12 hT41 38 (by decide) k_912 (fun _ h => h) rfl rfl dX12_spoilt_106 (fun H locs hw => ?_)
                  let σ42 : Me := sI σ32 a0 38 ((gI σ32 a0 38) + ((1 : Int32)))
                  have h := h σ42 rfl
                  have hw : wS D cA z0 s σ42 H locs := hw
                  refine lv_aload_n hx hb dX12_spoilt_109 rfl (lv_at hl 0 rfl) ?_
                  refine lv_iconst (v := 0) hx hb dX12_spoilt_110 (by decide) ?_
                  refine m_putI hX hw cl12 hT41 35 (by decide) k_909 (fun _ h => h) rfl rfl dX12_spoilt_111 (fun H locs hw => ?_)
                  let σ43 : Me := sI σ42 a0 35 ((0 : Int32))
                  have h := h σ43 rfl
                  have hw : wS D cA z0 s σ43 H locs := hw
                  refine lv_lload hx hb dX12_spoilt_114 (lv_at hl 7 rfl) ?_
                  refine lv_lload hx hb dX12_spoilt_116 (lv_at hl 6 rfl) ?_
                  refine lv_lmul hx hb dX12_spoilt_118 ?_
                  refine lv_topl (fun x9_44 e_x9_44 => ?_)
                  have h := h x9_44 e_x9_44
                  refine lv_lstore (lv' := [(9, _), (0, _), (1, _), (2, _), (3, _), (4, _), (5, _), (7, _), (11, _)]) hx hb dX12_spoilt_119 hl (by decide) rfl (fun ls hl => ?_)
                  refine lv_aload_n hx hb dX12_spoilt_121 rfl (lv_at hl 1 rfl) ?_
                  refine lv_dup hx hb dX12_spoilt_122 rfl ?_
                  refine m_get hX hw cl12 hT41 44 (by decide) k_918 (fun _ h => h) (v := .long _) rfl dX12_spoilt_123 ?_
                  refine lv_lload hx hb dX12_spoilt_126 (lv_at hl 7 rfl) ?_
                  refine lv_lmul hx hb dX12_spoilt_128 ?_
                  refine m_putL hX hw cl12 hT41 44 (by decide) k_918 (fun _ h => h) rfl rfl dX12_spoilt_129 (fun H locs hw => ?_)
                  let σ45 : Me := sL σ43 a0 44 ((gL σ43 a0 44) * x7_20)
                  have h := h σ45 rfl
                  have hw : wS D cA z0 s σ45 H locs := hw
                  refine lv_iconst (v := 0) hx hb dX12_spoilt_132 (by decide) ?_
                  refine lv_istore (lv' := [(12, _), (9, _), (0, _), (1, _), (2, _), (3, _), (4, _), (5, _), (7, _), (11, _)]) hx hb dX12_spoilt_133 hl (by decide) rfl (fun ls hl => ?_)
                  obtain ⟨I135, hI135, n135, h⟩ := h
                  have key135 : ∀ (n135 : Nat) (σ46 : Me) (x9_47 : Int64) (x12_48 : Int32) (H : Heap) (locs : List Loc) (ls : Array Slot), I135 n135 σ46 x9_47 x12_48 → wS D cA z0 s σ46 H locs → lv_has ls 16 [(0, .ref a0), (1, .int x1), (2, .int x2), (3, .int x3), (4, .int x4), (5, .int x5), (7, .long x7_20), (9, .long x9_47), (11, .int x11_34), (12, .int x12_48)] → W p l e rX12_spoilt s m args below meth c H locs 0 0 (MQ below (va_Qi Q (BM D cA z0) (AM z0)) args s 0 0 (AM z0)) (F0 m 135 ls []) := by
                    intro n135
                    induction n135 using Nat.strongRecOn with
                    | _ n135 ih135 =>
                      intro σ46 x9_47 x12_48 H locs ls h hw hl
                      have h := hI135 _ _ _ _ h
                      refine lv_iload hx hb dX12_spoilt_135 (lv_at hl 9 rfl) ?_
                      refine lv_aload_n hx hb dX12_spoilt_137 rfl (lv_at hl 0 rfl) ?_
                      obtain ⟨hT49, h⟩ := h
                      refine m_get hX hw cl12 hT49 32 (by decide) k_906 (fun _ h => h) (v := .int _) rfl dX12_spoilt_138 ?_
                      refine lv_icmp_ge (tgt := 331) hx hb dX12_spoilt_141 (by decide) (fun hc93 => ?_) (fun hc93 => ?_)
                      · have h := h.1 hc93
                        refine lv_aload_n hx hb dX12_spoilt_331 rfl (lv_at hl 0 rfl) ?_
                        refine lv_aload_n hx hb dX12_spoilt_332 rfl (lv_at hl 0 rfl) ?_
                        refine m_get hX hw cl12 hT49 35 (by decide) k_909 (fun _ h => h) (v := .int _) rfl dX12_spoilt_333 ?_
                        refine m_putI hX hw cl12 hT49 32 (by decide) k_906 (fun _ h => h) rfl rfl dX12_spoilt_336 (fun H locs hw => ?_)
                        let σ94 : Me := sI σ46 a0 32 (gI σ46 a0 35)
                        have h := h σ94 rfl
                        have hw : wS D cA z0 s σ94 H locs := hw
                        refine lv_iconst (v := 0) hx hb dX12_spoilt_339 (by decide) ?_
                        refine lv_istore (lv' := [(12, _), (0, _), (1, _), (2, _), (3, _), (4, _), (5, _), (7, _), (9, _), (11, _)]) hx hb dX12_spoilt_340 hl (by decide) rfl (fun ls hl => ?_)
                        obtain ⟨I342, hI342, n342, h⟩ := h
                        have key342 : ∀ (n342 : Nat) (σ95 : Me) (x12_96 : Int32) (H : Heap) (locs : List Loc) (ls : Array Slot), I342 n342 σ95 x12_96 → wS D cA z0 s σ95 H locs → lv_has ls 16 [(0, .ref a0), (1, .int x1), (2, .int x2), (3, .int x3), (4, .int x4), (5, .int x5), (7, .long x7_20), (9, .long x9_47), (11, .int x11_34), (12, .int x12_96)] → W p l e rX12_spoilt s m args below meth c H locs 0 0 (MQ below (va_Qi Q (BM D cA z0) (AM z0)) args s 0 0 (AM z0)) (F0 m 342 ls []) := by
                          intro n342
                          induction n342 using Nat.strongRecOn with
                          | _ n342 ih342 =>
                            intro σ95 x12_96 H locs ls h hw hl
                            have h := hI342 _ _ _ h
                            refine lv_iload hx hb dX12_spoilt_342 (lv_at hl 9 rfl) ?_
                            refine lv_aload_n hx hb dX12_spoilt_344 rfl (lv_at hl 0 rfl) ?_
                            obtain ⟨hT97, h⟩ := h
                            refine m_get hX hw cl12 hT97 32 (by decide) k_906 (fun _ h => h) (v := .int _) rfl dX12_spoilt_345 ?_
                            refine lv_icmp_ge (tgt := 385) hx hb dX12_spoilt_348 (by decide) (fun hc98 => ?_) (fun hc98 => ?_)
                            · have h := h.1 hc98
                              obtain ⟨x11_99, e_x11_99⟩ : ∃ y : Int32, y = x11_34 + 1 := ⟨_, rfl⟩
                              have h := h x11_99 e_x11_99
                              refine lv_iinc (v := x11_99) (lv' := [(11, _), (0, _), (1, _), (2, _), (3, _), (4, _), (5, _), (7, _), (9, _), (12, _)]) hx hb dX12_spoilt_385 hl (k := 8) rfl (by rw [e_x11_99]; rfl) (by decide) rfl (fun ls hl => ?_)
                              refine lv_goto (tgt := 92) hx hb dX12_spoilt_388 (by decide) ?_
                              obtain ⟨m92, hm92, h⟩ := h
                              exact ih92 m92 hm92 _ _ _ _ _ _ h hw (lv_sub hl [1, 2, 3, 4, 5, 6, 7, 8, 0] rfl)
                            · have h := h.2 hc98
                              refine lv_aload_n hx hb dX12_spoilt_351 rfl (lv_at hl 0 rfl) ?_
                              obtain ⟨b100, hb100, h⟩ := h
                              refine m_get hX hw cl12 hT97 30 (by decide) k_904 (fun _ h => h) (v := .ref b100) (congrArg va_rf hb100) dX12_spoilt_352 ?_
                              refine lv_iload hx hb dX12_spoilt_355 (lv_at hl 9 rfl) ?_
                              refine lv_aload_n hx hb dX12_spoilt_357 rfl (lv_at hl 0 rfl) ?_
                              obtain ⟨b101, hb101, h⟩ := h
                              refine m_get hX hw cl12 hT97 33 (by decide) k_907 (fun _ h => h) (v := .ref b101) (congrArg va_rf hb101) dX12_spoilt_358 ?_
                              refine lv_iload hx hb dX12_spoilt_361 (lv_at hl 9 rfl) ?_
                              obtain ⟨hT102, h⟩ := h
                              obtain ⟨hc103, h⟩ := h
                              refine m_iald hX hw hT102 hc103 dX12_spoilt_363 ?_
                              obtain ⟨hT104, h⟩ := h
                              obtain ⟨hc105, h⟩ := h
                              refine m_iast hX hw hT104 hc105 dX12_spoilt_364 (fun H locs hw => ?_)
                              let σ106 : Me := sI σ95 b100 x12_96.toNatClampNeg (gI σ95 b101 x12_96.toNatClampNeg)
                              have h := h σ106 rfl
                              have hw : wS D cA z0 s σ106 H locs := hw
                              refine lv_aload_n hx hb dX12_spoilt_365 rfl (lv_at hl 0 rfl) ?_
                              obtain ⟨b107, hb107, h⟩ := h
                              refine m_get hX hw cl12 hT97 31 (by decide) k_905 (fun _ h => h) (v := .ref b107) (congrArg va_rf hb107) dX12_spoilt_366 ?_
                              refine lv_iload hx hb dX12_spoilt_369 (lv_at hl 9 rfl) ?_
                              refine lv_aload_n hx hb dX12_spoilt_371 rfl (lv_at hl 0 rfl) ?_
                              obtain ⟨b108, hb108, h⟩ := h
                              refine m_get hX hw cl12 hT97 34 (by decide) k_908 (fun _ h => h) (v := .ref b108) (congrArg va_rf hb108) dX12_spoilt_372 ?_
                              refine lv_iload hx hb dX12_spoilt_375 (lv_at hl 9 rfl) ?_
                              obtain ⟨hT109, h⟩ := h
                              obtain ⟨hc110, h⟩ := h
                              refine m_lald hX hw hT109 hc110 dX12_spoilt_377 ?_
                              obtain ⟨hT111, h⟩ := h
                              obtain ⟨hc112, h⟩ := h
                              refine m_last hX hw hT111 hc112 dX12_spoilt_378 (fun H locs hw => ?_)
                              let σ113 : Me := sL σ106 b107 x12_96.toNatClampNeg (gL σ106 b108 x12_96.toNatClampNeg)
                              have h := h σ113 rfl
                              have hw : wS D cA z0 s σ113 H locs := hw
                              obtain ⟨x12_114, e_x12_114⟩ : ∃ y : Int32, y = x12_96 + 1 := ⟨_, rfl⟩
                              have h := h x12_114 e_x12_114
                              refine lv_iinc (v := x12_114) (lv' := [(12, _), (0, _), (1, _), (2, _), (3, _), (4, _), (5, _), (7, _), (9, _), (11, _)]) hx hb dX12_spoilt_379 hl (k := 9) rfl (by rw [e_x12_114]; rfl) (by decide) rfl (fun ls hl => ?_)
                              refine lv_goto (tgt := 342) hx hb dX12_spoilt_382 (by decide) ?_
                              obtain ⟨m342, hm342, h⟩ := h
                              exact ih342 m342 hm342 _ _ _ _ _ h hw (lv_sub hl [1, 2, 3, 4, 5, 6, 7, 8, 9, 0] rfl)
                        exact key342 _ _ _ _ _ _ h hw (lv_sub hl [1, 2, 3, 4, 5, 6, 7, 8, 9, 0] rfl)
                      · have h := h.2 hc93
                        refine lv_iconst (v := 0) hx hb dX12_spoilt_144 (by decide) ?_
                        refine lv_istore (lv' := [(13, _), (0, _), (1, _), (2, _), (3, _), (4, _), (5, _), (7, _), (9, _), (11, _), (12, _)]) hx hb dX12_spoilt_145 hl (by decide) rfl (fun ls hl => ?_)
                        obtain ⟨I147, hI147, n147, h⟩ := h
                        have key147 : ∀ (n147 : Nat) (σ115 : Me) (x9_116 : Int64) (x13_117 : Int32) (H : Heap) (locs : List Loc) (ls : Array Slot), I147 n147 σ115 x9_116 x13_117 → wS D cA z0 s σ115 H locs → lv_has ls 16 [(0, .ref a0), (1, .int x1), (2, .int x2), (3, .int x3), (4, .int x4), (5, .int x5), (7, .long x7_20), (9, .long x9_116), (11, .int x11_34), (12, .int x12_48), (13, .int x13_117)] → W p l e rX12_spoilt s m args below meth c H locs 0 0 (MQ below (va_Qi Q (BM D cA z0) (AM z0)) args s 0 0 (AM z0)) (F0 m 147 ls []) := by
                          intro n147
                          induction n147 using Nat.strongRecOn with
                          | _ n147 ih147 =>
                            intro σ115 x9_116 x13_117 H locs ls h hw hl
                            have h := hI147 _ _ _ _ h
                            refine lv_iload hx hb dX12_spoilt_147 (lv_at hl 10 rfl) ?_
                            refine lv_bipush (v := 7) hx hb dX12_spoilt_149 (by decide) ?_
                            refine lv_icmp_ge (tgt := 325) hx hb dX12_spoilt_151 (by decide) (fun hc119 => ?_) (fun hc119 => ?_)
                            · have h := h.1 hc119
                              obtain ⟨x12_120, e_x12_120⟩ : ∃ y : Int32, y = x12_48 + 1 := ⟨_, rfl⟩
                              have h := h x12_120 e_x12_120
                              refine lv_iinc (v := x12_120) (lv' := [(12, _), (0, _), (1, _), (2, _), (3, _), (4, _), (5, _), (7, _), (9, _), (11, _), (13, _)]) hx hb dX12_spoilt_325 hl (k := 9) rfl (by rw [e_x12_120]; rfl) (by decide) rfl (fun ls hl => ?_)
                              refine lv_goto (tgt := 135) hx hb dX12_spoilt_328 (by decide) ?_
                              obtain ⟨m135, hm135, h⟩ := h
                              exact ih135 m135 hm135 _ _ _ _ _ _ h hw (lv_sub hl [1, 2, 3, 4, 5, 6, 7, 8, 9, 0] rfl)
                            · have h := h.2 hc119
                              refine lv_aload_n hx hb dX12_spoilt_154 rfl (lv_at hl 0 rfl) ?_
                              obtain ⟨hT121, h⟩ := h
                              obtain ⟨b122, hb122, h⟩ := h
                              refine m_get hX hw cl12 hT121 5 (by decide) k_879 (fun _ h => h) (v := .ref b122) (congrArg va_rf hb122) dX12_spoilt_155 ?_
                              refine lv_bipush (v := 7) hx hb dX12_spoilt_158 (by decide) ?_
                              refine lv_iload_n hx hb dX12_spoilt_160 rfl (lv_at hl 1 rfl) ?_
                              refine lv_imul hx hb dX12_spoilt_161 ?_
                              refine lv_iload hx hb dX12_spoilt_162 (lv_at hl 10 rfl) ?_
                              refine lv_iadd hx hb dX12_spoilt_164 ?_
                              obtain ⟨hT123, h⟩ := h
                              obtain ⟨hc124, h⟩ := h
                              refine m_iald hX hw hT123 hc124 dX12_spoilt_165 ?_
                              refine lv_topi (fun x14_125 e_x14_125 => ?_)
                              have h := h x14_125 e_x14_125
                              refine lv_istore (lv' := [(14, _), (0, _), (1, _), (2, _), (3, _), (4, _), (5, _), (7, _), (9, _), (11, _), (12, _), (13, _)]) hx hb dX12_spoilt_166 hl (by decide) rfl (fun ls hl => ?_)
                              refine lv_iload hx hb dX12_spoilt_168 (lv_at hl 0 rfl) ?_
                              refine lv_if_le (tgt := 319) hx hb dX12_spoilt_170 (by decide) (fun hc126 => ?_) (fun hc126 => ?_)
                              · have h := h.1 hc126
                                obtain ⟨x13_127, e_x13_127⟩ : ∃ y : Int32, y = x13_117 + 1 := ⟨_, rfl⟩
                                have h := h x13_127 e_x13_127
                                refine lv_iinc (v := x13_127) (lv' := [(13, _), (14, _), (0, _), (1, _), (2, _), (3, _), (4, _), (5, _), (7, _), (9, _), (11, _), (12, _)]) hx hb dX12_spoilt_319 hl (k := 11) rfl (by rw [e_x13_127]; rfl) (by decide) rfl (fun ls hl => ?_)
                                refine lv_goto (tgt := 147) hx hb dX12_spoilt_322 (by decide) ?_
                                obtain ⟨m147, hm147, h⟩ := h
                                exact ih147 m147 hm147 _ _ _ _ _ _ h hw (lv_sub hl [2, 3, 4, 5, 6, 7, 8, 9, 10, 11, 0] rfl)
                              · have h := h.2 hc126
                                refine lv_aload_n hx hb dX12_spoilt_173 rfl (lv_at hl 1 rfl) ?_
                                refine lv_aload_n hx hb dX12_spoilt_174 rfl (lv_at hl 1 rfl) ?_
                                obtain ⟨b128, hb128, h⟩ := h
                                refine m_get hX hw cl12 hT121 30 (by decide) k_904 (fun _ h => h) (v := .ref b128) (congrArg va_rf hb128) dX12_spoilt_175 ?_
                                refine lv_iload hx hb dX12_spoilt_178 (lv_at hl 10 rfl) ?_
                                obtain ⟨hT129, h⟩ := h
                                obtain ⟨hc130, h⟩ := h
                                refine m_iald hX hw hT129 hc130 dX12_spoilt_180 ?_
                                refine lv_bipush (v := 25) hx hb dX12_spoilt_181 (by decide) ?_
                                refine lv_idiv hx hb dX12_spoilt_183 (by decide) ?_
                                refine m_putI hX hw cl12 hT121 53 (by decide) k_927 (fun _ h => h) rfl rfl dX12_spoilt_184 (fun H locs hw => ?_)
                                let σ131 : Me := sI σ115 a0 53 ((gI σ115 b128 x12_48.toNatClampNeg) / ((25 : Int32)))
                                have h := h σ131 rfl
                                have hw : wS D cA z0 s σ131 H locs := hw
                                refine lv_aload_n hx hb dX12_spoilt_187 rfl (lv_at hl 1 rfl) ?_
                                refine lv_aload_n hx hb dX12_spoilt_188 rfl (lv_at hl 1 rfl) ?_
                                refine m_get hX hw cl12 hT121 30 (by decide) k_904 (fun _ h => h) (v := .ref b128) (congrArg va_rf hb128) dX12_spoilt_189 ?_
                                refine lv_iload hx hb dX12_spoilt_192 (lv_at hl 10 rfl) ?_
                                obtain ⟨hc132, h⟩ := h
                                refine m_iald hX hw hT129 hc132 dX12_spoilt_194 ?_
                                refine lv_bipush (v := 25) hx hb dX12_spoilt_195 (by decide) ?_
                                refine lv_irem hx hb dX12_spoilt_197 (by decide) ?_
                                refine m_putI hX hw cl12 hT121 54 (by decide) k_928 (fun _ h => h) rfl rfl dX12_spoilt_198 (fun H locs hw => ?_)
                                let σ133 : Me := sI σ131 a0 54 ((gI σ131 b128 x12_48.toNatClampNeg) - (gI σ131 b128 x12_48.toNatClampNeg) / ((25 : Int32)) * ((25 : Int32)))
                                have h := h σ133 rfl
                                have hw : wS D cA z0 s σ133 H locs := hw
                                refine lv_aload_n hx hb dX12_spoilt_201 rfl (lv_at hl 1 rfl) ?_
                                refine lv_iload_n hx hb dX12_spoilt_202 rfl (lv_at hl 3 rfl) ?_
                                refine lv_aload_n hx hb dX12_spoilt_203 rfl (lv_at hl 1 rfl) ?_
                                refine m_get hX hw cl12 hT121 53 (by decide) k_927 (fun _ h => h) (v := .int _) rfl dX12_spoilt_204 ?_
                                refine lv_isub hx hb dX12_spoilt_207 ?_
                                refine lv_aload_n hx hb dX12_spoilt_208 rfl (lv_at hl 1 rfl) ?_
                                refine m_get hX hw cl12 hT121 54 (by decide) k_928 (fun _ h => h) (v := .int _) rfl dX12_spoilt_209 ?_
                                refine lv_isub hx hb dX12_spoilt_212 ?_
                                refine m_putI hX hw cl12 hT121 52 (by decide) k_926 (fun _ h => h) rfl rfl dX12_spoilt_213 (fun H locs hw => ?_)
                                let σ134 : Me := sI σ133 a0 52 ((x2 - (gI σ133 a0 53)) - (gI σ133 a0 54))
                                have h := h σ134 rfl
                                have hw : wS D cA z0 s σ134 H locs := hw
                                refine lv_aload_n hx hb dX12_spoilt_216 rfl (lv_at hl 1 rfl) ?_
                                refine lv_iload hx hb dX12_spoilt_217 (lv_at hl 11 rfl) ?_
                                refine lv_iload hx hb dX12_spoilt_219 (lv_at hl 6 rfl) ?_
                                refine m_cv (m_runV (rest := []) hX hw (tX12_give h) mtX12_give k_1232 ⟨k_1234, k_41⟩ cl12 hT121 ⟨⟨rfl, rfl, Nat.le_of_ble_eq_true rfl, Nat.le_of_ble_eq_true rfl⟩, Nat.le_of_ble_eq_true rfl, Nat.le_of_ble_eq_true rfl⟩ rfl hl.1 rfl (Nat.le_of_ble_eq_true rfl) dX12_spoilt_221) hw (fun σ136 H locs h hw => ?_)
                                refine lv_iload_n hx hb dX12_spoilt_224 rfl (lv_at hl 4 rfl) ?_
                                refine lv_iconst (v := 1) hx hb dX12_spoilt_225 (by decide) ?_
                                obtain ⟨hT138, h⟩ := h
                                have kM140 : ∀ (v_139 : Int32) (ls : Array Slot), v_139 = (if x3 = ((1 : Int32)) then (gI σ136 a0 52) else (if x3 = ((2 : Int32)) then (gI σ136 a0 53) else (gI σ136 a0 54))) → lv_has ls 16 [(14, .int x14_125), (0, .ref a0), (1, .int x1), (2, .int x2), (3, .int x3), (4, .int x4), (5, .int x5), (7, .long x7_20), (9, .long x9_116), (11, .int x11_34), (12, .int x12_48), (13, .int x13_117)] → W p l e rX12_spoilt s m args below meth c H locs 0 0 (MQ below (va_Qi Q (BM D cA z0) (AM z0)) args s 0 0 (AM z0)) (F0 m 252 ls [.int v_139]) := by
                                  intro v_139 ls e_v_139 hl
                                  have h := h v_139 e_v_139
                                  refine lv_istore (lv' := [(15, _), (14, _), (0, _), (1, _), (2, _), (3, _), (4, _), (5, _), (7, _), (9, _), (11, _), (12, _), (13, _)]) hx hb dX12_spoilt_252 hl (by decide) rfl (fun ls hl => ?_)
                                  refine lv_lload hx hb dX12_spoilt_254 (lv_at hl 9 rfl) ?_
                                  refine lv_aload_n hx hb dX12_spoilt_256 rfl (lv_at hl 2 rfl) ?_
                                  obtain ⟨b141, hb141, h⟩ := h
                                  refine m_get hX hw cl12 hT138 31 (by decide) k_905 (fun _ h => h) (v := .ref b141) (congrArg va_rf hb141) dX12_spoilt_257 ?_
                                  refine lv_iload hx hb dX12_spoilt_260 (lv_at hl 11 rfl) ?_
                                  obtain ⟨hT142, h⟩ := h
                                  obtain ⟨hc143, h⟩ := h
                                  refine m_lald hX hw hT142 hc143 dX12_spoilt_262 ?_
                                  refine lv_iload hx hb dX12_spoilt_263 (lv_at hl 1 rfl) ?_
                                  refine lv_i2l hx hb dX12_spoilt_265 rfl ?_
                                  refine lv_lmul hx hb dX12_spoilt_266 ?_
                                  refine lv_iload hx hb dX12_spoilt_267 (lv_at hl 0 rfl) ?_
                                  refine lv_i2l hx hb dX12_spoilt_269 rfl ?_
                                  refine lv_lmul hx hb dX12_spoilt_270 ?_
                                  refine lv_ladd hx hb dX12_spoilt_271 ?_
                                  refine lv_topl (fun x9_144 e_x9_144 => ?_)
                                  have h := h x9_144 e_x9_144
                                  refine lv_lstore (lv' := [(9, _), (15, _), (14, _), (0, _), (1, _), (2, _), (3, _), (4, _), (5, _), (7, _), (11, _), (12, _), (13, _)]) hx hb dX12_spoilt_272 hl (by decide) rfl (fun ls hl => ?_)
                                  refine lv_aload_n hx hb dX12_spoilt_274 rfl (lv_at hl 3 rfl) ?_
                                  refine lv_bipush (v := 25) hx hb dX12_spoilt_275 (by decide) ?_
                                  refine lv_iload_n hx hb dX12_spoilt_277 rfl (lv_at hl 6 rfl) ?_
                                  refine lv_iconst (v := 1) hx hb dX12_spoilt_278 (by decide) ?_
                                  have kM146 : ∀ (v_145 : Int32) (ls : Array Slot), v_145 = (if x3 ≤ ((1 : Int32)) then ((0 : Int32)) else (gI σ136 a0 52)) → lv_has ls 16 [(9, .long x9_144), (14, .int x14_125), (0, .ref a0), (1, .int x1), (2, .int x2), (3, .int x3), (4, .int x4), (5, .int x5), (7, .long x7_20), (11, .int x11_34), (12, .int x12_48), (13, .int x13_117)] → W p l e rX12_spoilt s m args below meth c H locs 0 0 (MQ below (va_Qi Q (BM D cA z0) (AM z0)) args s 0 0 (AM z0)) (F0 m 290 ls [.int v_145, .int ((25 : Int32)), .ref a0]) := by
                                    intro v_145 ls e_v_145 hl
                                    have h := h v_145 e_v_145
                                    refine lv_imul hx hb dX12_spoilt_290 ?_
                                    refine lv_iload_n hx hb dX12_spoilt_291 rfl (lv_at hl 5 rfl) ?_
                                    refine lv_iconst (v := 2) hx hb dX12_spoilt_292 (by decide) ?_
                                    have kM148 : ∀ (v_147 : Int32) (ls : Array Slot), v_147 = (if x3 ≤ ((2 : Int32)) then ((0 : Int32)) else (gI σ136 a0 53)) → lv_has ls 16 [(9, .long x9_144), (14, .int x14_125), (0, .ref a0), (1, .int x1), (2, .int x2), (3, .int x3), (4, .int x4), (5, .int x5), (7, .long x7_20), (11, .int x11_34), (12, .int x12_48), (13, .int x13_117)] → W p l e rX12_spoilt s m args below meth c H locs 0 0 (MQ below (va_Qi Q (BM D cA z0) (AM z0)) args s 0 0 (AM z0)) (F0 m 304 ls [.int v_147, .int (((25 : Int32)) * v_145), .ref a0]) := by
                                      intro v_147 ls e_v_147 hl
                                      have h := h v_147 e_v_147
                                      refine lv_iadd hx hb dX12_spoilt_304 ?_
                                      refine lv_aload_n hx hb dX12_spoilt_305 rfl (lv_at hl 2 rfl) ?_
                                      refine m_get hX hw cl12 hT138 31 (by decide) k_905 (fun _ h => h) (v := .ref b141) (congrArg va_rf hb141) dX12_spoilt_306 ?_
                                      refine lv_iload hx hb dX12_spoilt_309 (lv_at hl 10 rfl) ?_
                                      obtain ⟨hc149, h⟩ := h
                                      refine m_lald hX hw hT142 hc149 dX12_spoilt_311 ?_
                                      refine lv_iload hx hb dX12_spoilt_312 (lv_at hl 1 rfl) ?_
                                      refine lv_i2l hx hb dX12_spoilt_314 rfl ?_
                                      refine lv_lmul hx hb dX12_spoilt_315 ?_
                                      refine m_cv (m_runV (rest := []) hX hw (tX12_put h) mtX12_put k_1192 ⟨k_1194, k_37⟩ cl12 hT138 ⟨⟨rfl, rfl, Nat.le_of_ble_eq_true rfl, Nat.le_of_ble_eq_true rfl⟩, Nat.le_of_ble_eq_true rfl, Nat.le_of_ble_eq_true rfl⟩ rfl hl.1 rfl (Nat.le_of_ble_eq_true rfl) dX12_spoilt_316) hw (fun σ151 H locs h hw => ?_)
                                      obtain ⟨x13_152, e_x13_152⟩ : ∃ y : Int32, y = x13_117 + 1 := ⟨_, rfl⟩
                                      have h := h x13_152 e_x13_152
                                      refine lv_iinc (v := x13_152) (lv' := [(13, _), (9, _), (14, _), (0, _), (1, _), (2, _), (3, _), (4, _), (5, _), (7, _), (11, _), (12, _)]) hx hb dX12_spoilt_319 hl (k := 11) rfl (by rw [e_x13_152]; rfl) (by decide) rfl (fun ls hl => ?_)
                                      refine lv_goto (tgt := 147) hx hb dX12_spoilt_322 (by decide) ?_
                                      obtain ⟨m147, hm147, h⟩ := h
                                      exact ih147 m147 hm147 _ _ _ _ _ _ h hw (lv_sub hl [3, 4, 5, 6, 7, 8, 9, 1, 10, 11, 0] rfl)
                                    refine lv_icmp_le (tgt := 303) hx hb dX12_spoilt_293 (by decide) (fun hc153 => ?_) (fun hc153 => ?_)
                                    · refine lv_iconst (v := 0) hx hb dX12_spoilt_303 (by decide) ?_
                                      exact kM148 _ _ (by first | rfl | rw [if_pos hc153] | simp only [if_pos hc153]) (lv_sub hl [0, 1, 2, 3, 4, 5, 6, 7, 8, 9, 10, 11] rfl)
                                    · refine lv_aload_n hx hb dX12_spoilt_296 rfl (lv_at hl 2 rfl) ?_
                                      refine m_get hX hw cl12 hT138 53 (by decide) k_927 (fun _ h => h) (v := .int _) rfl dX12_spoilt_297 ?_
                                      refine lv_goto (tgt := 304) hx hb dX12_spoilt_300 (by decide) ?_
                                      exact kM148 _ _ (by first | rfl | rw [if_neg hc153] | simp only [if_neg hc153]) (lv_sub hl [0, 1, 2, 3, 4, 5, 6, 7, 8, 9, 10, 11] rfl)
                                  refine lv_icmp_le (tgt := 289) hx hb dX12_spoilt_279 (by decide) (fun hc154 => ?_) (fun hc154 => ?_)
                                  · refine lv_iconst (v := 0) hx hb dX12_spoilt_289 (by decide) ?_
                                    exact kM146 _ _ (by first | rfl | rw [if_pos hc154] | simp only [if_pos hc154]) (lv_sub hl [0, 2, 3, 4, 5, 6, 7, 8, 9, 10, 11, 12] rfl)
                                  · refine lv_aload_n hx hb dX12_spoilt_282 rfl (lv_at hl 3 rfl) ?_
                                    refine m_get hX hw cl12 hT138 52 (by decide) k_926 (fun _ h => h) (v := .int _) rfl dX12_spoilt_283 ?_
                                    refine lv_goto (tgt := 290) hx hb dX12_spoilt_286 (by decide) ?_
                                    exact kM146 _ _ (by first | rfl | rw [if_neg hc154] | simp only [if_neg hc154]) (lv_sub hl [0, 2, 3, 4, 5, 6, 7, 8, 9, 10, 11, 12] rfl)
                                refine lv_icmp_ne (tgt := 236) hx hb dX12_spoilt_226 (by decide) (fun hc155 => ?_) (fun hc155 => ?_)
                                · refine lv_iload_n hx hb dX12_spoilt_236 rfl (lv_at hl 4 rfl) ?_
                                  refine lv_iconst (v := 2) hx hb dX12_spoilt_237 (by decide) ?_
                                  refine lv_icmp_ne (tgt := 248) hx hb dX12_spoilt_238 (by decide) (fun hc156 => ?_) (fun hc156 => ?_)
                                  · refine lv_aload_n hx hb dX12_spoilt_248 rfl (lv_at hl 1 rfl) ?_
                                    refine m_get hX hw cl12 hT138 54 (by decide) k_928 (fun _ h => h) (v := .int _) rfl dX12_spoilt_249 ?_
                                    exact kM140 _ _ (by first | rfl | rw [if_neg hc155, if_neg hc156] | simp only [if_neg hc155, if_neg hc156]) (lv_sub hl [0, 1, 2, 3, 4, 5, 6, 7, 8, 9, 10, 11] rfl)
                                  · refine lv_aload_n hx hb dX12_spoilt_241 rfl (lv_at hl 1 rfl) ?_
                                    refine m_get hX hw cl12 hT138 53 (by decide) k_927 (fun _ h => h) (v := .int _) rfl dX12_spoilt_242 ?_
                                    refine lv_goto (tgt := 252) hx hb dX12_spoilt_245 (by decide) ?_
                                    exact kM140 _ _ (by first | rfl | rw [if_neg hc155, if_pos hc156] | simp only [if_neg hc155, if_pos hc156]) (lv_sub hl [0, 1, 2, 3, 4, 5, 6, 7, 8, 9, 10, 11] rfl)
                                · refine lv_aload_n hx hb dX12_spoilt_229 rfl (lv_at hl 1 rfl) ?_
                                  refine m_get hX hw cl12 hT138 52 (by decide) k_926 (fun _ h => h) (v := .int _) rfl dX12_spoilt_230 ?_
                                  refine lv_goto (tgt := 252) hx hb dX12_spoilt_233 (by decide) ?_
                                  exact kM140 _ _ (by first | rfl | rw [if_pos hc155] | simp only [if_pos hc155]) (lv_sub hl [0, 1, 2, 3, 4, 5, 6, 7, 8, 9, 10, 11] rfl)
                        exact key147 _ _ _ _ _ _ _ h hw (lv_sub hl [1, 2, 3, 4, 5, 6, 7, 8, 9, 10, 0] rfl)
                  exact key135 _ _ _ _ _ _ _ h hw (lv_sub hl [2, 3, 4, 5, 6, 7, 8, 1, 9, 0] rfl)
            exact key92 _ _ _ _ _ _ _ h hw (lv_sub hl [4, 5, 6, 7, 8, 9, 2, 1, 0] rfl)
          · have h := h.2 hc16
            refine lv_iload hx hb dX12_spoilt_51 (lv_at hl 0 rfl) ?_
            exact m_iret hX hlk hr hw h dX12_spoilt_53
        · have h := h.1 hc12
          refine lv_iconst (v := (-1)) hx hb dX12_spoilt_37 (by decide) ?_
          exact m_iret hX hlk hr hw h dX12_spoilt_38
theorem mtX12_spoilt : Mth yX12_spoilt cX12_spoilt 16 (some .int) 5 := ⟨k_1231, k_50, by decide +kernel⟩
theorem tX12_spoilt {l : Launch} {D : va_G} {cA : Nat → ClassId} {z0 : Nat} {σ : Me} {a0 : Nat} {x1 : Int32} {x2 : Int32} {x3 : Int32} {x4 : Int32} {x5 : Int32} {Q : Int32 → Me → Prop} (h : pX12_spoilt σ a0 x1 x2 x3 x4 x5 Q) : Met l yX12_spoilt (Cond.code yX12_spoilt cX12_spoilt 16 (some .int) :: gTab) rX12_spoilt (PcM D cA z0 σ [.ref a0, .int x1, .int x2, .int x3, .int x4, .int x5]) (va_Qi Q (BM D cA z0) (AM z0)) 0 0 (AM z0) :=
  met_of (by decide) (Nat.le_of_ble_eq_true rfl) (fun hX hlk hr hn hw hl => wX12_spoilt hX hlk hr h hw hl)
