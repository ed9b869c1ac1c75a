abbrev rX10_orderAt : Room := { frames := 2, cells := 0, slots := 0, locals := 42 }
def pX10_orderAt (σ : Me) (a0 : Nat) (x1 : Int32) (Q : Int32 → Me → Prop) : Prop := pX11_isPosition σ x1 (fun r1 σ2 => (r1 = 0 → Q ((0 : Int32)) σ2) ∧ (¬ r1 = 0 → gT σ2 a0 = 10 ∧ ∃ b5 : Nat, gP σ2 a0 3 = some b5 ∧ gT σ2 b5 = 22 ∧ vp_in (x1 - ((-12 : Int32))) (gN σ2 b5) ∧ ∀ σ8 : Me, σ8 = sI σ2 b5 (x1 - ((-12 : Int32))).toNatClampNeg (vp_nar .boolean ((1 : Int32))) → ∃ b9 : Nat, gP σ8 a0 2 = some b9 ∧ gT σ8 b9 = 20 ∧ vp_in (x1 - ((-12 : Int32))) (gN σ8 b9) ∧ Q (gI σ8 b9 (x1 - ((-12 : Int32))).toNatClampNeg) σ8))
set_option maxHeartbeats 4000000 in
set_option maxRecDepth 100000 in
theorem wX10_orderAt {p : Program} {l : Launch} {e : Env} {s : State} {m : MethodId} {args : Array Value} {below : List Frame} {meth : Method} {c : Code} {D : va_G} {cA : Nat → ClassId} {z0 : Nat} (hX : Cx p m c cX10_orderAt 2 s args RX10 D cA) (hlk : meth.locks = false) (hr : meth.sig.returnType = (some .int)) {σ : Me} {a0 : Nat} {x1 : Int32} {Q : Int32 → Me → Prop} (h : pX10_orderAt σ a0 x1 Q) {H : Heap} {locs : List Loc} {ls : Array Slot} (hw : wS D cA z0 s σ H locs) (hl : lv_has ls 2 [(0, .ref a0), (1, .int x1)]) : W p l e rX10_orderAt s m args below meth c H locs 0 0 (MQ below (va_Qi Q (BM D cA z0) (AM z0)) args s 0 0 (AM z0)) (F0 m 0 ls []) := by
  have hx := hX.1.1
  have hb := hX.1.2.1
  have hown := hX.1.2.2.2.1
  have hts := hX.1.2.2.2.2
  unfold pX10_orderAt at h
  refine lv_iload_n hx hb dX10_orderAt_0 rfl (lv_at hl 1 rfl) ?_
  refine m_ci (m_runSN (rest := []) hX hw (tX11_isPosition h) mtX11_isPosition (List.mem_of_getElem? (i := 8) rfl) k_530 ⟨⟨rfl, rfl, Nat.le_of_ble_eq_true rfl, Nat.le_of_ble_eq_true rfl⟩, Nat.le_of_ble_eq_true rfl, Nat.le_of_ble_eq_true rfl⟩ rfl hl.1 rfl (Nat.le_of_ble_eq_true rfl) dX10_orderAt_1) hw (fun r1 σ2 H locs h hw => ?_)
  refine lv_if_ne (tgt := 9) hx hb dX10_orderAt_4 (by decide) (fun hc3 => ?_) (fun hc3 => ?_)
  · have h := h.2 hc3
    refine lv_aload_n hx hb dX10_orderAt_9 rfl (lv_at hl 0 rfl) ?_
    obtain ⟨hT4, h⟩ := h
    obtain ⟨b5, hb5, h⟩ := h
    refine m_get hX hw cl10 hT4 3 (by decide) k_169 (fun _ h => h) (v := .ref b5) (congrArg va_rf hb5) dX10_orderAt_10 ?_
    refine lv_iload_n hx hb dX10_orderAt_13 rfl (lv_at hl 1 rfl) ?_
    refine lv_bipush (v := (-12)) hx hb dX10_orderAt_14 (by decide) ?_
    refine lv_isub hx hb dX10_orderAt_16 ?_
    refine lv_iconst (v := 1) hx hb dX10_orderAt_17 (by decide) ?_
    obtain ⟨hT6, h⟩ := h
    obtain ⟨hc7, h⟩ := h
    refine m_zast hX hw hT6 hc7 dX10_orderAt_18 (fun H locs hw => ?_)
    let σ8 : Me := sI σ2 b5 (x1 - ((-12 : Int32))).toNatClampNeg (vp_nar .boolean ((1 : Int32)))
    have h := h σ8 rfl
    have hw : wS D cA z0 s σ8 H locs := hw
    refine lv_aload_n hx hb dX10_orderAt_19 rfl (lv_at hl 0 rfl) ?_
    obtain ⟨b9, hb9, h⟩ := h
    refine m_get hX hw cl10 hT4 2 (by decide) k_168 (fun _ h => h) (v := .ref b9) (congrArg va_rf hb9) dX10_orderAt_20 ?_
    refine lv_iload_n hx hb dX10_orderAt_23 rfl (lv_at hl 1 rfl) ?_
    refine lv_bipush (v := (-12)) hx hb dX10_orderAt_24 (by decide) ?_
    refine lv_isub hx hb dX10_orderAt_26 ?_
    obtain ⟨hT10, h⟩ := h
    obtain ⟨hc11, h⟩ := h
    refine m_iald hX hw hT10 hc11 dX10_orderAt_27 ?_
    exact m_iret hX hlk hr hw h dX10_orderAt_28
  · have h := h.1 hc3
    refine lv_iconst (v := 0) hx hb dX10_orderAt_7 (by decide) ?_
    exact m_iret hX hlk hr hw h dX10_orderAt_8
theorem mtX10_orderAt : Mth yX10_orderAt cX10_orderAt 2 (some .int) 1 := ⟨k_656, k_47, by decide +kernel⟩
theorem tX10_orderAt {l : Launch} {D : va_G} {cA : Nat → ClassId} {z0 : Nat} {σ : Me} {a0 : Nat} {x1 : Int32} {Q : Int32 → Me → Prop} (h : pX10_orderAt σ a0 x1 Q) : Met l yX10_orderAt (Cond.code yX10_orderAt cX10_orderAt 2 (some .int) :: gTab) rX10_orderAt (PcM D cA z0 σ [.ref a0, .int x1]) (va_Qi Q (BM D cA z0) (AM z0)) 0 0 (AM z0) :=
  met_of (by decide) (Nat.le_of_ble_eq_true rfl) (fun hX hlk hr hn hw hl => wX10_orderAt hX hlk hr h hw hl)
abbrev rX11_book : Room := { frames := 2, cells := 0, slots := 0, locals := 42 }
def pX11_book (σ : Me) (a0 : Nat) (x1 : Int32) (Q : Int32 → Me → Prop) : Prop := pX11_isBook σ x1 (fun r1 σ2 => (r1 = 0 → Q ((-1 : Int32)) σ2) ∧ (¬ r1 = 0 → gT σ2 a0 = 11 ∧ ∃ b5 : Nat, gP σ2 a0 0 = some b5 ∧ gT σ2 b5 = 24 ∧ vp_in x1 (gN σ2 b5) ∧ ∃ b8 : Nat, gP σ2 b5 x1.toNatClampNeg = some b8 ∧ gT σ2 b8 = 1 ∧ ∀ x2_10 : Int32, x2_10 = (gI σ2 b8 0) → vp_in x1 (gN σ2 b5) ∧ ∃ b12 : Nat, gP σ2 b5 x1.toNatClampNeg = some b12 ∧ gT σ2 b12 = 1 ∧ pX1_open σ2 b12 (fun σ14 => ∀ v_16 : Int32, v_16 = (if x2_10 = 0 then ((0 : Int32)) else ((1 : Int32))) → Q v_16 σ14)))
set_option maxHeartbeats 4000000 in
set_option maxRecDepth 100000 in
theorem wX11_book {p : Program} {l : Launch} {e : Env} {s : State} {m : MethodId} {args : Array Value} {below : List Frame} {meth : Method} {c : Code} {D : va_G} {cA : Nat → ClassId} {z0 : Nat} (hX : Cx p m c cX11_book 3 s args RX11 D cA) (hlk : meth.locks = false) (hr : meth.sig.returnType = (some .int)) {σ : Me} {a0 : Nat} {x1 : Int32} {Q : Int32 → Me → Prop} (h : pX11_book σ a0 x1 Q) {H : Heap} {locs : List Loc} {ls : Array Slot} (hw : wS D cA z0 s σ H locs) (hl : lv_has ls 3 [(0, .ref a0), (1, .int x1)]) : W p l e rX11_book s m args below meth c H locs 0 0 (MQ below (va_Qi Q (BM D cA z0) (AM z0)) args s 0 0 (AM z0)) (F0 m 0 ls []) := by
  have hx := hX.1.1
  have hb := hX.1.2.1
  have hown := hX.1.2.2.2.1
  have hts := hX.1.2.2.2.2
  unfold pX11_book at h
  refine lv_iload_n hx hb dX11_book_0 rfl (lv_at hl 1 rfl) ?_
  refine m_ci (m_runS (rest := []) hX hw (tX11_isBook h) mtX11_isBook k_308 k_309 ⟨⟨rfl, rfl, Nat.le_of_ble_eq_true rfl, Nat.le_of_ble_eq_true rfl⟩, Nat.le_of_ble_eq_true rfl, Nat.le_of_ble_eq_true rfl⟩ rfl hl.1 rfl (Nat.le_of_ble_eq_true rfl) dX11_book_1) hw (fun r1 σ2 H locs h hw => ?_)
  refine lv_if_ne (tgt := 9) hx hb dX11_book_4 (by decide) (fun hc3 => ?_) (fun hc3 => ?_)
  · have h := h.2 hc3
    refine lv_aload_n hx hb dX11_book_9 rfl (lv_at hl 0 rfl) ?_
    obtain ⟨hT4, h⟩ := h
    obtain ⟨b5, hb5, h⟩ := h
    refine m_get hX hw cl11 hT4 0 (by decide) k_249 (fun _ h => h) (v := .ref b5) (congrArg va_rf hb5) dX11_book_10 ?_
    refine lv_iload_n hx hb dX11_book_13 rfl (lv_at hl 1 rfl) ?_
    obtain ⟨hT6, h⟩ := h
    obtain ⟨hc7, h⟩ := h
    refine m_aald hX hw (t := 4) (by decide) hT6 hc7 dX11_book_14 ?_
    obtain ⟨b8, hb8, h⟩ := h
    rw [hb8]
    refine W.eq (g2 := F0 _ _ _ (.ref b8 :: _)) rfl ?_
    obtain ⟨hT9, h⟩ := h
    refine m_get hX hw cl1 hT9 0 (by decide) k_126 (fun _ h => h) (v := .int _) rfl dX11_book_15 ?_
    refine lv_topi (fun x2_10 e_x2_10 => ?_)
    have h := h x2_10 e_x2_10
    refine lv_istore_n (lv' := [(2, _), (0, _), (1, _)]) hx hb dX11_book_18 rfl hl (by decide) rfl (fun ls hl => ?_)
    refine lv_aload_n hx hb dX11_book_19 rfl (lv_at hl 1 rfl) ?_
    refine m_get hX hw cl11 hT4 0 (by decide) k_249 (fun _ h => h) (v := .ref b5) (congrArg va_rf hb5) dX11_book_20 ?_
    refine lv_iload_n hx hb dX11_book_23 rfl (lv_at hl 2 rfl) ?_
    obtain ⟨hc11, h⟩ := h
    refine m_aald hX hw (t := 4) (by decide) hT6 hc11 dX11_book_24 ?_
    obtain ⟨b12, hb12, h⟩ := h
    rw [hb12]
    refine W.eq (g2 := F0 _ _ _ (.ref b12 :: _)) rfl ?_
    obtain ⟨hT15, h⟩ := h
    refine m_cv (m_runV (rest := []) hX hw (tX1_open h) mtX1_open k_314 ⟨k_315, k_316⟩ cl1 hT15 ⟨⟨rfl, rfl, Nat.le_of_ble_eq_true rfl, Nat.le_of_ble_eq_true rfl⟩, Nat.le_of_ble_eq_true rfl, Nat.le_of_ble_eq_true rfl⟩ rfl hl.1 rfl (Nat.le_of_ble_eq_true rfl) dX11_book_25) hw (fun σ14 H locs h hw => ?_)
    refine lv_iload_n hx hb dX11_book_28 rfl (lv_at hl 0 rfl) ?_
    have kM17 : ∀ (v_16 : Int32) (ls : Array Slot), v_16 = (if x2_10 = 0 then ((0 : Int32)) else ((1 : Int32))) → lv_has ls 3 [] → W p l e rX11_book s m args below meth c H locs 0 0 (MQ below (va_Qi Q (BM D cA z0) (AM z0)) args s 0 0 (AM z0)) (F0 m 37 ls [.int v_16]) := by
      intro v_16 ls e_v_16 hl
      have h := h v_16 e_v_16
      exact m_iret hX hlk hr hw h dX11_book_37
    refine lv_if_eq (tgt := 36) hx hb dX11_book_29 (by decide) (fun hc18 => ?_) (fun hc18 => ?_)
    · refine lv_iconst (v := 0) hx hb dX11_book_36 (by decide) ?_
      exact kM17 _ _ (by first | rfl | rw [if_pos hc18] | simp only [if_pos hc18]) (lv_sub hl [] rfl)
    · refine lv_iconst (v := 1) hx hb dX11_book_32 (by decide) ?_
      refine lv_goto (tgt := 37) hx hb dX11_book_33 (by decide) ?_
      exact kM17 _ _ (by first | rfl | rw [if_neg hc18] | simp only [if_neg hc18]) (lv_sub hl [] rfl)
  · have h := h.1 hc3
    refine lv_iconst (v := (-1)) hx hb dX11_book_7 (by decide) ?_
    exact m_iret hX hlk hr hw h dX11_book_8
theorem mtX11_book : Mth yX11_book cX11_book 3 (some .int) 1 := ⟨k_307, k_43, by decide +kernel⟩
theorem tX11_book {l : Launch} {D : va_G} {cA : Nat → ClassId} {z0 : Nat} {σ : Me} {a0 : Nat} {x1 : Int32} {Q : Int32 → Me → Prop} (h : pX11_book σ a0 x1 Q) : Met l yX11_book (Cond.code yX11_book cX11_book 3 (some .int) :: gTab) rX11_book (PcM D cA z0 σ [.ref a0, .int x1]) (va_Qi Q (BM D cA z0) (AM z0)) 0 0 (AM z0) :=
  met_of (by decide) (Nat.le_of_ble_eq_true rfl) (fun hX hlk hr hn hw hl => wX11_book hX hlk hr h hw hl)
abbrev rX11_weigh : Room := { frames := 2, cells := 0, slots := 0, locals := 43 }
def pX11_weigh (σ : Me) (a0 : Nat) (x1 : Int32) (x2 : Int32) (x3 : Int32) (Q : Int32 → Me → Prop) : Prop := pX11_isBook σ x1 (fun r1 σ2 => (r1 = 0 → Q ((-1 : Int32)) σ2) ∧ (¬ r1 = 0 → pX11_isWithin σ2 x3 ((0 : Int32)) ((9 : Int32)) (fun r4 σ5 => (r4 = 0 → Q ((-1 : Int32)) σ5) ∧ (¬ r4 = 0 → gT σ5 a0 = 11 ∧ ∃ b8 : Nat, gP σ5 a0 0 = some b8 ∧ gT σ5 b8 = 24 ∧ vp_in x1 (gN σ5 b8) ∧ ∃ b11 : Nat, gP σ5 b8 x1.toNatClampNeg = some b11 ∧ gT σ5 b11 = 1 ∧ ((gI σ5 b11 0) = 0 → pX11_refuse σ5 a0 ((1 : Int32)) (fun r37 σ38 => Q r37 σ38)) ∧ (¬ (gI σ5 b11 0) = 0 → pX11_isDemand σ5 x2 (fun r14 σ15 => (r14 = 0 → gT σ15 a0 = 11 ∧ pX11_refuse σ15 a0 ((2 : Int32)) (fun r34 σ35 => Q r34 σ35)) ∧ (¬ r14 = 0 → gT σ15 a0 = 11 ∧ ∃ b18 : Nat, gP σ15 a0 0 = some b18 ∧ gT σ15 b18 = 24 ∧ vp_in x1 (gN σ15 b18) ∧ ∃ b21 : Nat, gP σ15 b18 x1.toNatClampNeg = some b21 ∧ gT σ15 b21 = 1 ∧ ∃ b23 : Nat, gP σ15 b21 1 = some b23 ∧ gT σ15 b23 = 20 ∧ vp_in x2 (gN σ15 b23) ∧ ∀ x4_26 : Int32, x4_26 = (gI σ15 b23 x2.toNatClampNeg) → vp_in x1 (gN σ15 b18) ∧ ∃ b28 : Nat, gP σ15 b18 x1.toNatClampNeg = some b28 ∧ gT σ15 b28 = 1 ∧ ∃ b30 : Nat, gP σ15 b28 1 = some b30 ∧ gT σ15 b30 = 20 ∧ vp_in x2 (gN σ15 b30) ∧ ∀ σ33 : Me, σ33 = sI σ15 b30 x2.toNatClampNeg x3 → Q x4_26 σ33)))))))
set_option maxHeartbeats 4000000 in
set_option maxRecDepth 100000 in
theorem wX11_weigh {p : Program} {l : Launch} {e : Env} {s : State} {m : MethodId} {args : Array Value} {below : List Frame} {meth : Method} {c : Code} {D : va_G} {cA : Nat → ClassId} {z0 : Nat} (hX : Cx p m c cX11_weigh 5 s args RX11 D cA) (hlk : meth.locks = false) (hr : meth.sig.returnType = (some .int)) {σ : Me} {a0 : Nat} {x1 : Int32} {x2 : Int32} {x3 : Int32} {Q : Int32 → Me → Prop} (h : pX11_weigh σ a0 x1 x2 x3 Q) {H : Heap} {locs : List Loc} {ls : Array Slot} (hw : wS D cA z0 s σ H locs) (hl : lv_has ls 5 [(0, .ref a0), (1, .int x1), (2, .int x2), (3, .int x3)]) : W p l e rX11_weigh s m args below meth c H locs 0 0 (MQ below (va_Qi Q (BM D cA z0) (AM z0)) args s 0 0 (AM z0)) (F0 m 0 ls []) := by
  have hx := hX.1.1
  have hb := hX.1.2.1
  have hown := hX.1.2.2.2.1
  have hts := hX.1.2.2.2.2
  unfold pX11_weigh at h
  refine lv_iload_n hx hb dX11_weigh_0 rfl (lv_at hl 1 rfl) ?_
  refine m_ci (m_runS (rest := []) hX hw (tX11_isBook h) mtX11_isBook k_308 k_309 ⟨⟨rfl, rfl, Nat.le_of_ble_eq_true rfl, Nat.le_of_ble_eq_true rfl⟩, Nat.le_of_ble_eq_true rfl, Nat.le_of_ble_eq_true rfl⟩ rfl hl.1 rfl (Nat.le_of_ble_eq_true rfl) dX11_weigh_1) hw (fun r1 σ2 H locs h hw => ?_)
  refine lv_if_eq (tgt := 17) hx hb dX11_weigh_4 (by decide) (fun hc3 => ?_) (fun hc3 => ?_)
  · have h := h.1 hc3
    refine lv_iconst (v := (-1)) hx hb dX11_weigh_17 (by decide) ?_
    exact m_iret hX hlk hr hw h dX11_weigh_18
  · have h := h.2 hc3
    refine lv_iload_n hx hb dX11_weigh_7 rfl (lv_at hl 3 rfl) ?_
    refine lv_iconst (v := 0) hx hb dX11_weigh_8 (by decide) ?_
    refine lv_bipush (v := 9) hx hb dX11_weigh_9 (by decide) ?_
    refine m_ci (m_runS (rest := []) hX hw (tX11_isWithin h) mtX11_isWithin k_311 k_312 ⟨⟨rfl, rfl, Nat.le_of_ble_eq_true rfl, Nat.le_of_ble_eq_true rfl⟩, Nat.le_of_ble_eq_true rfl, Nat.le_of_ble_eq_true rfl⟩ rfl hl.1 rfl (Nat.le_of_ble_eq_true rfl) dX11_weigh_11) hw (fun r4 σ5 H locs h hw => ?_)
    refine lv_if_ne (tgt := 19) hx hb dX11_weigh_14 (by decide) (fun hc6 => ?_) (fun hc6 => ?_)
    · have h := h.2 hc6
      refine lv_aload_n hx hb dX11_weigh_19 rfl (lv_at hl 0 rfl) ?_
      obtain ⟨hT7, h⟩ := h
      obtain ⟨b8, hb8, h⟩ := h
      refine m_get hX hw cl11 hT7 0 (by decide) k_249 (fun _ h => h) (v := .ref b8) (congrArg va_rf hb8) dX11_weigh_20 ?_
      refine lv_iload_n hx hb dX11_weigh_23 rfl (lv_at hl 1 rfl) ?_
      obtain ⟨hT9, h⟩ := h
      obtain ⟨hc10, h⟩ := h
      refine m_aald hX hw (t := 4) (by decide) hT9 hc10 dX11_weigh_24 ?_
      obtain ⟨b11, hb11, h⟩ := h
      rw [hb11]
      refine W.eq (g2 := F0 _ _ _ (.ref b11 :: _)) rfl ?_
      obtain ⟨hT12, h⟩ := h
      refine m_get hX hw cl1 hT12 0 (by decide) k_126 (fun _ h => h) (v := .int _) rfl dX11_weigh_25 ?_
      refine lv_if_ne (tgt := 37) hx hb dX11_weigh_28 (by decide) (fun hc13 => ?_) (fun hc13 => ?_)
      · have h := h.2 hc13
        refine lv_iload_n hx hb dX11_weigh_37 rfl (lv_at hl 2 rfl) ?_
        refine m_ci (m_runS (rest := []) hX hw (tX11_isDemand h) mtX11_isDemand k_326 k_327 ⟨⟨rfl, rfl, Nat.le_of_ble_eq_true rfl, Nat.le_of_ble_eq_true rfl⟩, Nat.le_of_ble_eq_true rfl, Nat.le_of_ble_eq_true rfl⟩ rfl hl.1 rfl (Nat.le_of_ble_eq_true rfl) dX11_weigh_38) hw (fun r14 σ15 H locs h hw => ?_)
        refine lv_if_ne (tgt := 50) hx hb dX11_weigh_41 (by decide) (fun hc16 => ?_) (fun hc16 => ?_)
        · have h := h.2 hc16
          refine lv_aload_n hx hb dX11_weigh_50 rfl (lv_at hl 0 rfl) ?_
          obtain ⟨hT17, h⟩ := h
          obtain ⟨b18, hb18, h⟩ := h
          refine m_get hX hw cl11 hT17 0 (by decide) k_249 (fun _ h => h) (v := .ref b18) (congrArg va_rf hb18) dX11_weigh_51 ?_
          refine lv_iload_n hx hb dX11_weigh_54 rfl (lv_at hl 1 rfl) ?_
          obtain ⟨hT19, h⟩ := h
          obtain ⟨hc20, h⟩ := h
          refine m_aald hX hw (t := 4) (by decide) hT19 hc20 dX11_weigh_55 ?_
          obtain ⟨b21, hb21, h⟩ := h
          rw [hb21]
          refine W.eq (g2 := F0 _ _ _ (.ref b21 :: _)) rfl ?_
          obtain ⟨hT22, h⟩ := h
          obtain ⟨b23, hb23, h⟩ := h
          refine m_get hX hw cl1 hT22 1 (by decide) k_128 (fun _ h => h) (v := .ref b23) (congrArg va_rf hb23) dX11_weigh_56 ?_
          refine lv_iload_n hx hb dX11_weigh_59 rfl (lv_at hl 2 rfl) ?_
          obtain ⟨hT24, h⟩ := h
          obtain ⟨hc25, h⟩ := h
          refine m_iald hX hw hT24 hc25 dX11_weigh_60 ?_
          refine lv_topi (fun x4_26 e_x4_26 => ?_)
          have h := h x4_26 e_x4_26
          refine lv_istore (lv' := [(4, _), (0, _), (1, _), (2, _), (3, _)]) hx hb dX11_weigh_61 hl (by decide) rfl (fun ls hl => ?_)
          refine lv_aload_n hx hb dX11_weigh_63 rfl (lv_at hl 1 rfl) ?_
          refine m_get hX hw cl11 hT17 0 (by decide) k_249 (fun _ h => h) (v := .ref b18) (congrArg va_rf hb18) dX11_weigh_64 ?_
          refine lv_iload_n hx hb dX11_weigh_67 rfl (lv_at hl 2 rfl) ?_
          obtain ⟨hc27, h⟩ := h
          refine m_aald hX hw (t := 4) (by decide) hT19 hc27 dX11_weigh_68 ?_
          obtain ⟨b28, hb28, h⟩ := h
          rw [hb28]
          refine W.eq (g2 := F0 _ _ _ (.ref b28 :: _)) rfl ?_
          obtain ⟨hT29, h⟩ := h
          obtain ⟨b30, hb30, h⟩ := h
          refine m_get hX hw cl1 hT29 1 (by decide) k_128 (fun _ h => h) (v := .ref b30) (congrArg va_rf hb30) dX11_weigh_69 ?_
          refine lv_iload_n hx hb dX11_weigh_72 rfl (lv_at hl 3 rfl) ?_
          refine lv_iload_n hx hb dX11_weigh_73 rfl (lv_at hl 4 rfl) ?_
          obtain ⟨hT31, h⟩ := h
          obtain ⟨hc32, h⟩ := h
          refine m_iast hX hw hT31 hc32 dX11_weigh_74 (fun H locs hw => ?_)
          let σ33 : Me := sI σ15 b30 x2.toNatClampNeg x3
          have h := h σ33 rfl
          have hw : wS D cA z0 s σ33 H locs := hw
          refine lv_iload hx hb dX11_weigh_75 (lv_at hl 0 rfl) ?_
          exact m_iret hX hlk hr hw h dX11_weigh_77
        · have h := h.1 hc16
          refine lv_aload_n hx hb dX11_weigh_44 rfl (lv_at hl 0 rfl) ?_
          refine lv_iconst (v := 2) hx hb dX11_weigh_45 (by decide) ?_
          obtain ⟨hT36, h⟩ := h
          refine m_ci (m_runV (rest := []) hX hw (tX11_refuse h) mtX11_refuse k_322 ⟨k_324, k_0⟩ cl11 hT36 ⟨⟨rfl, rfl, Nat.le_of_ble_eq_true rfl, Nat.le_of_ble_eq_true rfl⟩, Nat.le_of_ble_eq_true rfl, Nat.le_of_ble_eq_true rfl⟩ rfl hl.1 rfl (Nat.le_of_ble_eq_true rfl) dX11_weigh_46) hw (fun r34 σ35 H locs h hw => ?_)
          exact m_iret hX hlk hr hw h dX11_weigh_49
      · have h := h.1 hc13
        refine lv_aload_n hx hb dX11_weigh_31 rfl (lv_at hl 0 rfl) ?_
        refine lv_iconst (v := 1) hx hb dX11_weigh_32 (by decide) ?_
        refine m_ci (m_runV (rest := []) hX hw (tX11_refuse h) mtX11_refuse k_322 ⟨k_324, k_0⟩ cl11 hT7 ⟨⟨rfl, rfl, Nat.le_of_ble_eq_true rfl, Nat.le_of_ble_eq_true rfl⟩, Nat.le_of_ble_eq_true rfl, Nat.le_of_ble_eq_true rfl⟩ rfl hl.1 rfl (Nat.le_of_ble_eq_true rfl) dX11_weigh_33) hw (fun r37 σ38 H locs h hw => ?_)
        exact m_iret hX hlk hr hw h dX11_weigh_36
    · have h := h.1 hc6
      refine lv_iconst (v := (-1)) hx hb dX11_weigh_17 (by decide) ?_
      exact m_iret hX hlk hr hw h dX11_weigh_18
theorem mtX11_weigh : Mth yX11_weigh cX11_weigh 5 (some .int) 3 := ⟨k_321, k_43, by decide +kernel⟩
theorem tX11_weigh {l : Launch} {D : va_G} {cA : Nat → ClassId} {z0 : Nat} {σ : Me} {a0 : Nat} {x1 : Int32} {x2 : Int32} {x3 : Int32} {Q : Int32 → Me → Prop} (h : pX11_weigh σ a0 x1 x2 x3 Q) : Met l yX11_weigh (Cond.code yX11_weigh cX11_weigh 5 (some .int) :: gTab) rX11_weigh (PcM D cA z0 σ [.ref a0, .int x1, .int x2, .int x3]) (va_Qi Q (BM D cA z0) (AM z0)) 0 0 (AM z0) :=
  met_of (by decide) (Nat.le_of_ble_eq_true rfl) (fun hX hlk hr hn hw hl => wX11_weigh hX hlk hr h hw hl)
abbrev rX11_close : Room := { frames := 2, cells := 0, slots := 0, locals := 43 }
def pX11_close (σ : Me) (a0 : Nat) (x1 : Int32) (Q : Int32 → Me → Prop) : Prop := pX11_isBook σ x1 (fun r1 σ2 => (r1 = 0 → Q ((-1 : Int32)) σ2) ∧ (¬ r1 = 0 → gT σ2 a0 = 11 ∧ ∃ b5 : Nat, gP σ2 a0 0 = some b5 ∧ gT σ2 b5 = 24 ∧ vp_in x1 (gN σ2 b5) ∧ ∃ b8 : Nat, gP σ2 b5 x1.toNatClampNeg = some b8 ∧ gT σ2 b8 = 1 ∧ ((gI σ2 b8 0) = 0 → pX11_refuse σ2 a0 ((1 : Int32)) (fun r15 σ16 => Q r15 σ16)) ∧ (¬ (gI σ2 b8 0) = 0 → vp_in x1 (gN σ2 b5) ∧ ∃ b12 : Nat, gP σ2 b5 x1.toNatClampNeg = some b12 ∧ gT σ2 b12 = 1 ∧ ∀ σ14 : Me, σ14 = sI σ2 b12 0 ((0 : Int32)) → Q ((1 : Int32)) σ14)))
set_option maxHeartbeats 4000000 in
set_option maxRecDepth 100000 in
theorem wX11_close {p : Program} {l : Launch} {e : Env} {s : State} {m : MethodId} {args : Array Value} {below : List Frame} {meth : Method} {c : Code} {D : va_G} {cA : Nat → ClassId} {z0 : Nat} (hX : Cx p m c cX11_close 2 s args RX11 D cA) (hlk : meth.locks = false) (hr : meth.sig.returnType = (some .int)) {σ : Me} {a0 : Nat} {x1 : Int32} {Q : Int32 → Me → Prop} (h : pX11_close σ a0 x1 Q) {H : Heap} {locs : List Loc} {ls : Array Slot} (hw : wS D cA z0 s σ H locs) (hl : lv_has ls 2 [(0, .ref a0), (1, .int x1)]) : W p l e rX11_close s m args below meth c H locs 0 0 (MQ below (va_Qi Q (BM D cA z0) (AM z0)) args s 0 0 (AM z0)) (F0 m 0 ls []) := by
  have hx := hX.1.1
  have hb := hX.1.2.1
  have hown := hX.1.2.2.2.1
  have hts := hX.1.2.2.2.2
  unfold pX11_close at h
  refine lv_iload_n hx hb dX11_close_0 rfl (lv_at hl 1 rfl) ?_
  refine m_ci (m_runS (rest := []) hX hw (tX11_isBook h) mtX11_isBook k_308 k_309 ⟨⟨rfl, rfl, Nat.le_of_ble_eq_true rfl, Nat.le_of_ble_eq_true rfl⟩, Nat.le_of_ble_eq_true rfl, Nat.le_of_ble_eq_true rfl⟩ rfl hl.1 rfl (Nat.le_of_ble_eq_true rfl) dX11_close_1) hw (fun r1 σ2 H locs h hw => ?_)
  refine lv_if_ne (tgt := 9) hx hb dX11_close_4 (by decide) (fun hc3 => ?_) (fun hc3 => ?_)
  · have h := h.2 hc3
    refine lv_aload_n hx hb dX11_close_9 rfl (lv_at hl 0 rfl) ?_
    obtain ⟨hT4, h⟩ := h
    obtain ⟨b5, hb5, h⟩ := h
    refine m_get hX hw cl11 hT4 0 (by decide) k_249 (fun _ h => h) (v := .ref b5) (congrArg va_rf hb5) dX11_close_10 ?_
    refine lv_iload_n hx hb dX11_close_13 rfl (lv_at hl 1 rfl) ?_
    obtain ⟨hT6, h⟩ := h
    obtain ⟨hc7, h⟩ := h
    refine m_aald hX hw (t := 4) (by decide) hT6 hc7 dX11_close_14 ?_
    obtain ⟨b8, hb8, h⟩ := h
    rw [hb8]
    refine W.eq (g2 := F0 _ _ _ (.ref b8 :: _)) rfl ?_
    obtain ⟨hT9, h⟩ := h
    refine m_get hX hw cl1 hT9 0 (by decide) k_126 (fun _ h => h) (v := .int _) rfl dX11_close_15 ?_
    refine lv_if_ne (tgt := 27) hx hb dX11_close_18 (by decide) (fun hc10 => ?_) (fun hc10 => ?_)
    · have h := h.2 hc10
      refine lv_aload_n hx hb dX11_close_27 rfl (lv_at hl 0 rfl) ?_
      refine m_get hX hw cl11 hT4 0 (by decide) k_249 (fun _ h => h) (v := .ref b5) (congrArg va_rf hb5) dX11_close_28 ?_
      refine lv_iload_n hx hb dX11_close_31 rfl (lv_at hl 1 rfl) ?_
      obtain ⟨hc11, h⟩ := h
      refine m_aald hX hw (t := 4) (by decide) hT6 hc11 dX11_close_32 ?_
      obtain ⟨b12, hb12, h⟩ := h
      rw [hb12]
      refine W.eq (g2 := F0 _ _ _ (.ref b12 :: _)) rfl ?_
      refine lv_iconst (v := 0) hx hb dX11_close_33 (by decide) ?_
      obtain ⟨hT13, h⟩ := h
      refine m_putZ hX hw cl1 hT13 0 (by decide) k_126 (fun _ h => h) rfl rfl (by decide) dX11_close_34 (fun H locs hw => ?_)
      let σ14 : Me := sI σ2 b12 0 ((0 : Int32))
      have h := h σ14 rfl
      have hw : wS D cA z0 s σ14 H locs := hw
      refine lv_iconst (v := 1) hx hb dX11_close_37 (by decide) ?_
      exact m_iret hX hlk hr hw h dX11_close_38
    · have h := h.1 hc10
      refine lv_aload_n hx hb dX11_close_21 rfl (lv_at hl 0 rfl) ?_
      refine lv_iconst (v := 1) hx hb dX11_close_22 (by decide) ?_
      refine m_ci (m_runV (rest := []) hX hw (tX11_refuse h) mtX11_refuse k_322 ⟨k_324, k_0⟩ cl11 hT4 ⟨⟨rfl, rfl, Nat.le_of_ble_eq_true rfl, Nat.le_of_ble_eq_true rfl⟩, Nat.le_of_ble_eq_true rfl, Nat.le_of_ble_eq_true rfl⟩ rfl hl.1 rfl (Nat.le_of_ble_eq_true rfl) dX11_close_23) hw (fun r15 σ16 H locs h hw => ?_)
      exact m_iret hX hlk hr hw h dX11_close_26
  · have h := h.1 hc3
    refine lv_iconst (v := (-1)) hx hb dX11_close_7 (by decide) ?_
    exact m_iret hX hlk hr hw h dX11_close_8
theorem mtX11_close : Mth yX11_close cX11_close 2 (some .int) 1 := ⟨k_332, k_43, by decide +kernel⟩
theorem tX11_close {l : Launch} {D : va_G} {cA : Nat → ClassId} {z0 : Nat} {σ : Me} {a0 : Nat} {x1 : Int32} {Q : Int32 → Me → Prop} (h : pX11_close σ a0 x1 Q) : Met l yX11_close (Cond.code yX11_close cX11_close 2 (some .int) :: gTab) rX11_close (PcM D cA z0 σ [.ref a0, .int x1]) (va_Qi Q (BM D cA z0) (AM z0)) 0 0 (AM z0) :=
  met_of (by decide) (Nat.le_of_ble_eq_true rfl) (fun hX hlk hr hn hw hl => wX11_close hX hlk hr h hw hl)
abbrev rX11_copy : Room := { frames := 2, cells := 0, slots := 0, locals := 43 }
def pX11_copy (σ : Me) (a0 : Nat) (x1 : Int32) (x2 : Int32) (x3 : Int32) (x4 : Int32) (x5 : Int32) (Q : Int32 → Me → Prop) : Prop := pX11_isBook σ x1 (fun r1 σ2 => (r1 = 0 → Q ((-1 : Int32)) σ2) ∧ (¬ r1 = 0 → pX11_isBook σ2 x3 (fun r4 σ5 => (r4 = 0 → Q ((-1 : Int32)) σ5) ∧ (¬ r4 = 0 → gT σ5 a0 = 11 ∧ ∃ b8 : Nat, gP σ5 a0 0 = some b8 ∧ gT σ5 b8 = 24 ∧ vp_in x1 (gN σ5 b8) ∧ ∃ b11 : Nat, gP σ5 b8 x1.toNatClampNeg = some b11 ∧ gT σ5 b11 = 1 ∧ ((gI σ5 b11 0) = 0 → pX11_refuse σ5 a0 ((1 : Int32)) (fun r14 σ15 => Q r14 σ15)) ∧ (¬ (gI σ5 b11 0) = 0 → vp_in x3 (gN σ5 b8) ∧ ∃ b17 : Nat, gP σ5 b8 x3.toNatClampNeg = some b17 ∧ gT σ5 b17 = 1 ∧ ((gI σ5 b17 0) = 0 → pX11_refuse σ5 a0 ((1 : Int32)) (fun r51 σ52 => Q r51 σ52)) ∧ (¬ (gI σ5 b17 0) = 0 → pX11_isStretch σ5 x2 x5 (fun r20 σ21 => (r20 = 0 → gT σ21 a0 = 11 ∧ pX11_refuse σ21 a0 ((2 : Int32)) (fun r23 σ24 => Q r23 σ24)) ∧ (¬ r20 = 0 → pX11_isStretch σ21 x4 x5 (fun r26 σ27 => (r26 = 0 → gT σ27 a0 = 11 ∧ pX11_refuse σ27 a0 ((2 : Int32)) (fun r48 σ49 => Q r48 σ49)) ∧ (¬ r26 = 0 → gT σ27 a0 = 11 ∧ ∃ b30 : Nat, gP σ27 a0 0 = some b30 ∧ gT σ27 b30 = 24 ∧ vp_in x1 (gN σ27 b30) ∧ ∃ b33 : Nat, gP σ27 b30 x1.toNatClampNeg = some b33 ∧ gT σ27 b33 = 1 ∧ ∃ b35 : Nat, gP σ27 b33 1 = some b35 ∧ vp_in x3 (gN σ27 b30) ∧ ∃ b37 : Nat, gP σ27 b30 x3.toNatClampNeg = some b37 ∧ gT σ27 b37 = 1 ∧ ∃ b39 : Nat, gP σ27 b37 1 = some b39 ∧ gT σ27 b35 = 20 ∧ gT σ27 b39 = 20 ∧ ¬ x2 < 0 ∧ ¬ x4 < 0 ∧ ¬ x5 < 0 ∧ x2.toNatClampNeg + x5.toNatClampNeg ≤ gN σ27 b35 ∧ x4.toNatClampNeg + x5.toNatClampNeg ≤ gN σ27 b39 ∧ ∀ σ47 : Me, σ47 = cp σ27 b35 x2.toNatClampNeg b39 x4.toNatClampNeg x5.toNatClampNeg → Q ((1 : Int32)) σ47))))))))))
set_option maxHeartbeats 4000000 in
set_option maxRecDepth 100000 in
theorem wX11_copy {p : Program} {l : Launch} {e : Env} {s : State} {m : MethodId} {args : Array Value} {below : List Frame} {meth : Method} {c : Code} {D : va_G} {cA : Nat → ClassId} {z0 : Nat} (hX : Cx p m c cX11_copy 6 s args RX11 D cA) (hlk : meth.locks = false) (hr : meth.sig.returnType = (some .int)) {σ : Me} {a0 : Nat} {x1 : Int32} {x2 : Int32} {x3 : Int32} {x4 : Int32} {x5 : Int32} {Q : Int32 → Me → Prop} (h : pX11_copy σ a0 x1 x2 x3 x4 x5 Q) {H : Heap} {locs : List Loc} {ls : Array Slot} (hw : wS D cA z0 s σ H locs) (hl : lv_has ls 6 [(0, .ref a0), (1, .int x1), (2, .int x2), (3, .int x3), (4, .int x4), (5, .int x5)]) : W p l e rX11_copy s m args below meth c H locs 0 0 (MQ below (va_Qi Q (BM D cA z0) (AM z0)) args s 0 0 (AM z0)) (F0 m 0 ls []) := by
  have hx := hX.1.1
  have hb := hX.1.2.1
  have hown := hX.1.2.2.2.1
  have hts := hX.1.2.2.2.2
  unfold pX11_copy at h
  refine lv_iload_n hx hb dX11_copy_0 rfl (lv_at hl 1 rfl) ?_
  refine m_ci (m_runS (rest := []) hX hw (tX11_isBook h) mtX11_isBook k_308 k_309 ⟨⟨rfl, rfl, Nat.le_of_ble_eq_true rfl, Nat.le_of_ble_eq_true rfl⟩, Nat.le_of_ble_eq_true rfl, Nat.le_of_ble_eq_true rfl⟩ rfl hl.1 rfl (Nat.le_of_ble_eq_true rfl) dX11_copy_1) hw (fun r1 σ2 H locs h hw => ?_)
  refine lv_if_eq (tgt := 14) hx hb dX11_copy_4 (by decide) (fun hc3 => ?_) (fun hc3 => ?_)
  · have h := h.1 hc3
    refine lv_iconst (v := (-1)) hx hb dX11_copy_14 (by decide) ?_
    exact m_iret hX hlk hr hw h dX11_copy_15
  · have h := h.2 hc3
    refine lv_iload_n hx hb dX11_copy_7 rfl (lv_at hl 3 rfl) ?_
    refine m_ci (m_runS (rest := []) hX hw (tX11_isBook h) mtX11_isBook k_308 k_309 ⟨⟨rfl, rfl, Nat.le_of_ble_eq_true rfl, Nat.le_of_ble_eq_true rfl⟩, Nat.le_of_ble_eq_true rfl, Nat.le_of_ble_eq_true rfl⟩ rfl hl.1 rfl (Nat.le_of_ble_eq_true rfl) dX11_copy_8) hw (fun r4 σ5 H locs h hw => ?_)
    refine lv_if_ne (tgt := 16) hx hb dX11_copy_11 (by decide) (fun hc6 => ?_) (fun hc6 => ?_)
    · have h := h.2 hc6
      refine lv_aload_n hx hb dX11_copy_16 rfl (lv_at hl 0 rfl) ?_
      obtain ⟨hT7, h⟩ := h
      obtain ⟨b8, hb8, h⟩ := h
      refine m_get hX hw cl11 hT7 0 (by decide) k_249 (fun _ h => h) (v := .ref b8) (congrArg va_rf hb8) dX11_copy_17 ?_
      refine lv_iload_n hx hb dX11_copy_20 rfl (lv_at hl 1 rfl) ?_
      obtain ⟨hT9, h⟩ := h
      obtain ⟨hc10, h⟩ := h
      refine m_aald hX hw (t := 4) (by decide) hT9 hc10 dX11_copy_21 ?_
      obtain ⟨b11, hb11, h⟩ := h
      rw [hb11]
      refine W.eq (g2 := F0 _ _ _ (.ref b11 :: _)) rfl ?_
      obtain ⟨hT12, h⟩ := h
      refine m_get hX hw cl1 hT12 0 (by decide) k_126 (fun _ h => h) (v := .int _) rfl dX11_copy_22 ?_
      refine lv_if_eq (tgt := 40) hx hb dX11_copy_25 (by decide) (fun hc13 => ?_) (fun hc13 => ?_)
      · have h := h.1 hc13
        refine lv_aload_n hx hb dX11_copy_40 rfl (lv_at hl 0 rfl) ?_
        refine lv_iconst (v := 1) hx hb dX11_copy_41 (by decide) ?_
        refine m_ci (m_runV (rest := []) hX hw (tX11_refuse h) mtX11_refuse k_322 ⟨k_324, k_0⟩ cl11 hT7 ⟨⟨rfl, rfl, Nat.le_of_ble_eq_true rfl, Nat.le_of_ble_eq_true rfl⟩, Nat.le_of_ble_eq_true rfl, Nat.le_of_ble_eq_true rfl⟩ rfl hl.1 rfl (Nat.le_of_ble_eq_true rfl) dX11_copy_42) hw (fun r14 σ15 H locs h hw => ?_)
        exact m_iret hX hlk hr hw h dX11_copy_45
      · have h := h.2 hc13
        refine lv_aload_n hx hb dX11_copy_28 rfl (lv_at hl 0 rfl) ?_
        refine m_get hX hw cl11 hT7 0 (by decide) k_249 (fun _ h => h) (v := .ref b8) (congrArg va_rf hb8) dX11_copy_29 ?_
        refine lv_iload_n hx hb dX11_copy_32 rfl (lv_at hl 3 rfl) ?_
        obtain ⟨hc16, h⟩ := h
        refine m_aald hX hw (t := 4) (by decide) hT9 hc16 dX11_copy_33 ?_
        obtain ⟨b17, hb17, h⟩ := h
        rw [hb17]
        refine W.eq (g2 := F0 _ _ _ (.ref b17 :: _)) rfl ?_
        obtain ⟨hT18, h⟩ := h
        refine m_get hX hw cl1 hT18 0 (by decide) k_126 (fun _ h => h) (v := .int _) rfl dX11_copy_34 ?_
        refine lv_if_ne (tgt := 46) hx hb dX11_copy_37 (by decide) (fun hc19 => ?_) (fun hc19 => ?_)
        · have h := h.2 hc19
          refine lv_iload_n hx hb dX11_copy_46 rfl (lv_at hl 2 rfl) ?_
          refine lv_iload hx hb dX11_copy_47 (lv_at hl 5 rfl) ?_
          refine m_ci (m_runS (rest := []) hX hw (tX11_isStretch h) mtX11_isStretch k_337 k_338 ⟨⟨rfl, rfl, Nat.le_of_ble_eq_true rfl, Nat.le_of_ble_eq_true rfl⟩, Nat.le_of_ble_eq_true rfl, Nat.le_of_ble_eq_true rfl⟩ rfl hl.1 rfl (Nat.le_of_ble_eq_true rfl) dX11_copy_49) hw (fun r20 σ21 H locs h hw => ?_)
          refine lv_if_eq (tgt := 65) hx hb dX11_copy_52 (by decide) (fun hc22 => ?_) (fun hc22 => ?_)
          · have h := h.1 hc22
            refine lv_aload_n hx hb dX11_copy_65 rfl (lv_at hl 0 rfl) ?_
            refine lv_iconst (v := 2) hx hb dX11_copy_66 (by decide) ?_
            obtain ⟨hT25, h⟩ := h
            refine m_ci (m_runV (rest := []) hX hw (tX11_refuse h) mtX11_refuse k_322 ⟨k_324, k_0⟩ cl11 hT25 ⟨⟨rfl, rfl, Nat.le_of_ble_eq_true rfl, Nat.le_of_ble_eq_true rfl⟩, Nat.le_of_ble_eq_true rfl, Nat.le_of_ble_eq_true rfl⟩ rfl hl.1 rfl (Nat.le_of_ble_eq_true rfl) dX11_copy_67) hw (fun r23 σ24 H locs h hw => ?_)
            exact m_iret hX hlk hr hw h dX11_copy_70
          · have h := h.2 hc22
            refine lv_iload hx hb dX11_copy_55 (lv_at hl 4 rfl) ?_
            refine lv_iload hx hb dX11_copy_57 (lv_at hl 5 rfl) ?_
            refine m_ci (m_runS (rest := []) hX hw (tX11_isStretch h) mtX11_isStretch k_337 k_338 ⟨⟨rfl, rfl, Nat.le_of_ble_eq_true rfl, Nat.le_of_ble_eq_true rfl⟩, Nat.le_of_ble_eq_true rfl, Nat.le_of_ble_eq_true rfl⟩ rfl hl.1 rfl (Nat.le_of_ble_eq_true rfl) dX11_copy_59) hw (fun r26 σ27 H locs h hw => ?_)
            refine lv_if_ne (tgt := 71) hx hb dX11_copy_62 (by decide) (fun hc28 => ?_) (fun hc28 => ?_)
            · have h := h.2 hc28
              refine lv_aload_n hx hb dX11_copy_71 rfl (lv_at hl 0 rfl) ?_
              obtain ⟨hT29, h⟩ := h
              obtain ⟨b30, hb30, h⟩ := h
              refine m_get hX hw cl11 hT29 0 (by decide) k_249 (fun _ h => h) (v := .ref b30) (congrArg va_rf hb30) dX11_copy_72 ?_
              refine lv_iload_n hx hb dX11_copy_75 rfl (lv_at hl 1 rfl) ?_
              obtain ⟨hT31, h⟩ := h
              obtain ⟨hc32, h⟩ := h
              refine m_aald hX hw (t := 4) (by decide) hT31 hc32 dX11_copy_76 ?_
              obtain ⟨b33, hb33, h⟩ := h
              rw [hb33]
              refine W.eq (g2 := F0 _ _ _ (.ref b33 :: _)) rfl ?_
              obtain ⟨hT34, h⟩ := h
              obtain ⟨b35, hb35, h⟩ := h
              refine m_get hX hw cl1 hT34 1 (by decide) k_128 (fun _ h => h) (v := .ref b35) (congrArg va_rf hb35) dX11_copy_77 ?_
              refine lv_iload_n hx hb dX11_copy_80 rfl (lv_at hl 2 rfl) ?_
              refine lv_aload_n hx hb dX11_copy_81 rfl (lv_at hl 0 rfl) ?_
              refine m_get hX hw cl11 hT29 0 (by decide) k_249 (fun _ h => h) (v := .ref b30) (congrArg va_rf hb30) dX11_copy_82 ?_
              refine lv_iload_n hx hb dX11_copy_85 rfl (lv_at hl 3 rfl) ?_
              obtain ⟨hc36, h⟩ := h
              refine m_aald hX hw (t := 4) (by decide) hT31 hc36 dX11_copy_86 ?_
              obtain ⟨b37, hb37, h⟩ := h
              rw [hb37]
              refine W.eq (g2 := F0 _ _ _ (.ref b37 :: _)) rfl ?_
              obtain ⟨hT38, h⟩ := h
              obtain ⟨b39, hb39, h⟩ := h
              refine m_get hX hw cl1 hT38 1 (by decide) k_128 (fun _ h => h) (v := .ref b39) (congrArg va_rf hb39) dX11_copy_87 ?_
              refine lv_iload hx hb dX11_copy_90 (lv_at hl 4 rfl) ?_
              refine lv_iload hx hb dX11_copy_92 (lv_at hl 5 rfl) ?_
              obtain ⟨hT40, h⟩ := h
              obtain ⟨hT41, h⟩ := h
              obtain ⟨hc42, h⟩ := h
              obtain ⟨hc43, h⟩ := h
              obtain ⟨hc44, h⟩ := h
              obtain ⟨hc45, h⟩ := h
              obtain ⟨hc46, h⟩ := h
              refine m_copy hX hw (t := 0) (by decide) hT40 hT41 hc42 hc43 hc44 hc45 hc46 (fun _ _ => rfl) k_340 hl.1 (Nat.le_of_ble_eq_true rfl) (by decide) dX11_copy_94 (fun H locs hw => ?_)
              let σ47 : Me := cp σ27 b35 x2.toNatClampNeg b39 x4.toNatClampNeg x5.toNatClampNeg
              have h := h σ47 rfl
              have hw : wS D cA z0 s σ47 H locs := hw
              refine lv_iconst (v := 1) hx hb dX11_copy_97 (by decide) ?_
              exact m_iret hX hlk hr hw h dX11_copy_98
            · have h := h.1 hc28
              refine lv_aload_n hx hb dX11_copy_65 rfl (lv_at hl 0 rfl) ?_
              refine lv_iconst (v := 2) hx hb dX11_copy_66 (by decide) ?_
              obtain ⟨hT50, h⟩ := h
              refine m_ci (m_runV (rest := []) hX hw (tX11_refuse h) mtX11_refuse k_322 ⟨k_324, k_0⟩ cl11 hT50 ⟨⟨rfl, rfl, Nat.le_of_ble_eq_true rfl, Nat.le_of_ble_eq_true rfl⟩, Nat.le_of_ble_eq_true rfl, Nat.le_of_ble_eq_true rfl⟩ rfl hl.1 rfl (Nat.le_of_ble_eq_true rfl) dX11_copy_67) hw (fun r48 σ49 H locs h hw => ?_)
              exact m_iret hX hlk hr hw h dX11_copy_70
        · have h := h.1 hc19
          refine lv_aload_n hx hb dX11_copy_40 rfl (lv_at hl 0 rfl) ?_
          refine lv_iconst (v := 1) hx hb dX11_copy_41 (by decide) ?_
          refine m_ci (m_runV (rest := []) hX hw (tX11_refuse h) mtX11_refuse k_322 ⟨k_324, k_0⟩ cl11 hT7 ⟨⟨rfl, rfl, Nat.le_of_ble_eq_true rfl, Nat.le_of_ble_eq_true rfl⟩, Nat.le_of_ble_eq_true rfl, Nat.le_of_ble_eq_true rfl⟩ rfl hl.1 rfl (Nat.le_of_ble_eq_true rfl) dX11_copy_42) hw (fun r51 σ52 H locs h hw => ?_)
          exact m_iret hX hlk hr hw h dX11_copy_45
    · have h := h.1 hc6
      refine lv_iconst (v := (-1)) hx hb dX11_copy_14 (by decide) ?_
      exact m_iret hX hlk hr hw h dX11_copy_15
theorem mtX11_copy : Mth yX11_copy cX11_copy 6 (some .int) 5 := ⟨k_336, k_43, by decide +kernel⟩
theorem tX11_copy {l : Launch} {D : va_G} {cA : Nat → ClassId} {z0 : Nat} {σ : Me} {a0 : Nat} {x1 : Int32} {x2 : Int32} {x3 : Int32} {x4 : Int32} {x5 : Int32} {Q : Int32 → Me → Prop} (h : pX11_copy σ a0 x1 x2 x3 x4 x5 Q) : Met l yX11_copy (Cond.code yX11_copy cX11_copy 6 (some .int) :: gTab) rX11_copy (PcM D cA z0 σ [.ref a0, .int x1, .int x2, .int x3, .int x4, .int x5]) (va_Qi Q (BM D cA z0) (AM z0)) 0 0 (AM z0) :=
  met_of (by decide) (Nat.le_of_ble_eq_true rfl) (fun hX hlk hr hn hw hl => wX11_copy hX hlk hr h hw hl)
abbrev rX11_mean : Room := { frames := 2, cells := 0, slots := 0, locals := 43 }
def pX11_mean (σ : Me) (a0 : Nat) (x1 : Int32) (Q : Int32 → Me → Prop) : Prop := pX11_isBook σ x1 (fun r1 σ2 => (r1 = 0 → Q ((-1 : Int32)) σ2) ∧ (¬ r1 = 0 → gT σ2 a0 = 11 ∧ ∃ b5 : Nat, gP σ2 a0 0 = some b5 ∧ gT σ2 b5 = 24 ∧ vp_in x1 (gN σ2 b5) ∧ ∃ b8 : Nat, gP σ2 b5 x1.toNatClampNeg = some b8 ∧ pX11_lackOf σ2 b8 (fun r9 σ10 => (r9 = 0 → gT σ10 a0 = 11 ∧ ∃ b13 : Nat, gP σ10 a0 0 = some b13 ∧ gT σ10 b13 = 24 ∧ vp_in x1 (gN σ10 b13) ∧ ∃ b16 : Nat, gP σ10 b13 x1.toNatClampNeg = some b16 ∧ gT σ10 b16 = 1 ∧ pX1_weightOfAll σ10 b16 (fun r17 σ18 => (r17 ≤ 0 → Q ((0 : Int32)) σ18) ∧ (¬ r17 ≤ 0 → gT σ18 a0 = 11 ∧ ∃ b23 : Nat, gP σ18 a0 0 = some b23 ∧ gT σ18 b23 = 24 ∧ vp_in x1 (gN σ18 b23) ∧ ∃ b26 : Nat, gP σ18 b23 x1.toNatClampNeg = some b26 ∧ gT σ18 b26 = 1 ∧ pX1_weightedDemands σ18 b26 (fun r27 σ28 => ¬ r17 = 0 ∧ Q (r27 / r17) σ28)))) ∧ (¬ r9 = 0 → gT σ10 a0 = 11 ∧ pX11_refuse σ10 a0 r9 (fun r31 σ32 => Q r31 σ32)))))
set_option maxHeartbeats 4000000 in
set_option maxRecDepth 100000 in
theorem wX11_mean {p : Program} {l : Launch} {e : Env} {s : State} {m : MethodId} {args : Array Value} {below : List Frame} {meth : Method} {c : Code} {D : va_G} {cA : Nat → ClassId} {z0 : Nat} (hX : Cx p m c cX11_mean 4 s args RX11 D cA) (hlk : meth.locks = false) (hr : meth.sig.returnType = (some .int)) {σ : Me} {a0 : Nat} {x1 : Int32} {Q : Int32 → Me → Prop} (h : pX11_mean σ a0 x1 Q) {H : Heap} {locs : List Loc} {ls : Array Slot} (hw : wS D cA z0 s σ H locs) (hl : lv_has ls 4 [(0, .ref a0), (1, .int x1)]) : W p l e rX11_mean s m args below meth c H locs 0 0 (MQ below (va_Qi Q (BM D cA z0) (AM z0)) args s 0 0 (AM z0)) (F0 m 0 ls []) := by
  have hx := hX.1.1
  have hb := hX.1.2.1
  have hown := hX.1.2.2.2.1
  have hts := hX.1.2.2.2.2
  unfold pX11_mean at h
  refine lv_iload_n hx hb dX11_mean_0 rfl (lv_at hl 1 rfl) ?_
  refine m_ci (m_runS (rest := []) hX hw (tX11_isBook h) mtX11_isBook k_308 k_309 ⟨⟨rfl, rfl, Nat.le_of_ble_eq_true rfl, Nat.le_of_ble_eq_true rfl⟩, Nat.le_of_ble_eq_true rfl, Nat.le_of_ble_eq_true rfl⟩ rfl hl.1 rfl (Nat.le_of_ble_eq_true rfl) dX11_mean_1) hw (fun r1 σ2 H locs h hw => ?_)
  refine lv_if_ne (tgt := 9) hx hb dX11_mean_4 (by decide) (fun hc3 => ?_) (fun hc3 => ?_)
  · have h := h.2 hc3
    refine lv_aload_n hx hb dX11_mean_9 rfl (lv_at hl 0 rfl) ?_
    obtain ⟨hT4, h⟩ := h
    obtain ⟨b5, hb5, h⟩ := h
    refine m_get hX hw cl11 hT4 0 (by decide) k_249 (fun _ h => h) (v := .ref b5) (congrArg va_rf hb5) dX11_mean_10 ?_
    refine lv_iload_n hx hb dX11_mean_13 rfl (lv_at hl 1 rfl) ?_
    obtain ⟨hT6, h⟩ := h
    obtain ⟨hc7, h⟩ := h
    refine m_aald hX hw (t := 4) (by decide) hT6 hc7 dX11_mean_14 ?_
    obtain ⟨b8, hb8, h⟩ := h
    rw [hb8]
    refine W.eq (g2 := F0 _ _ _ (.ref b8 :: _)) rfl ?_
    refine m_ci (m_runS (rest := []) hX hw (tX11_lackOf h) mtX11_lackOf k_347 k_348 ⟨⟨rfl, rfl, Nat.le_of_ble_eq_true rfl, Nat.le_of_ble_eq_true rfl⟩, Nat.le_of_ble_eq_true rfl, Nat.le_of_ble_eq_true rfl⟩ rfl hl.1 rfl (Nat.le_of_ble_eq_true rfl) dX11_mean_15) hw (fun r9 σ10 H locs h hw => ?_)
    refine lv_istore_n (lv' := [(2, _), (0, _), (1, _)]) hx hb dX11_mean_18 rfl hl (by decide) rfl (fun ls hl => ?_)
    refine lv_iload_n hx hb dX11_mean_19 rfl (lv_at hl 0 rfl) ?_
    refine lv_if_eq (tgt := 29) hx hb dX11_mean_20 (by decide) (fun hc11 => ?_) (fun hc11 => ?_)
    · have h := h.1 hc11
      refine lv_aload_n hx hb dX11_mean_29 rfl (lv_at hl 1 rfl) ?_
      obtain ⟨hT12, h⟩ := h
      obtain ⟨b13, hb13, h⟩ := h
      refine m_get hX hw cl11 hT12 0 (by decide) k_249 (fun _ h => h) (v := .ref b13) (congrArg va_rf hb13) dX11_mean_30 ?_
      refine lv_iload_n hx hb dX11_mean_33 rfl (lv_at hl 2 rfl) ?_
      obtain ⟨hT14, h⟩ := h
      obtain ⟨hc15, h⟩ := h
      refine m_aald hX hw (t := 4) (by decide) hT14 hc15 dX11_mean_34 ?_
      obtain ⟨b16, hb16, h⟩ := h
      rw [hb16]
      refine W.eq (g2 := F0 _ _ _ (.ref b16 :: _)) rfl ?_
      obtain ⟨hT19, h⟩ := h
      refine m_ci (m_runV (rest := []) hX hw (tX1_weightOfAll h) mtX1_weightOfAll k_350 ⟨k_351, k_352⟩ cl1 hT19 ⟨⟨rfl, rfl, Nat.le_of_ble_eq_true rfl, Nat.le_of_ble_eq_true rfl⟩, Nat.le_of_ble_eq_true rfl, Nat.le_of_ble_eq_true rfl⟩ rfl hl.1 rfl (Nat.le_of_ble_eq_true rfl) dX11_mean_35) hw (fun r17 σ18 H locs h hw => ?_)
      refine lv_istore_n (lv' := [(3, _), (2, _), (0, _), (1, _)]) hx hb dX11_mean_38 rfl hl (by decide) rfl (fun ls hl => ?_)
      refine lv_iload_n hx hb dX11_mean_39 rfl (lv_at hl 0 rfl) ?_
      refine lv_if_le (tgt := 57) hx hb dX11_mean_40 (by decide) (fun hc21 => ?_) (fun hc21 => ?_)
      · have h := h.1 hc21
        refine lv_iconst (v := 0) hx hb dX11_mean_57 (by decide) ?_
        exact m_iret hX hlk hr hw h dX11_mean_58
      · have h := h.2 hc21
        refine lv_aload_n hx hb dX11_mean_43 rfl (lv_at hl 2 rfl) ?_
        obtain ⟨hT22, h⟩ := h
        obtain ⟨b23, hb23, h⟩ := h
        refine m_get hX hw cl11 hT22 0 (by decide) k_249 (fun _ h => h) (v := .ref b23) (congrArg va_rf hb23) dX11_mean_44 ?_
        refine lv_iload_n hx hb dX11_mean_47 rfl (lv_at hl 3 rfl) ?_
        obtain ⟨hT24, h⟩ := h
        obtain ⟨hc25, h⟩ := h
        refine m_aald hX hw (t := 4) (by decide) hT24 hc25 dX11_mean_48 ?_
        obtain ⟨b26, hb26, h⟩ := h
        rw [hb26]
        refine W.eq (g2 := F0 _ _ _ (.ref b26 :: _)) rfl ?_
        obtain ⟨hT29, h⟩ := h
        refine m_ci (m_runV (rest := []) hX hw (tX1_weightedDemands h) mtX1_weightedDemands k_354 ⟨k_355, k_356⟩ cl1 hT29 ⟨⟨rfl, rfl, Nat.le_of_ble_eq_true rfl, Nat.le_of_ble_eq_true rfl⟩, Nat.le_of_ble_eq_true rfl, Nat.le_of_ble_eq_true rfl⟩ rfl hl.1 rfl (Nat.le_of_ble_eq_true rfl) dX11_mean_49) hw (fun r27 σ28 H locs h hw => ?_)
        refine lv_iload_n hx hb dX11_mean_52 rfl (lv_at hl 0 rfl) ?_
        obtain ⟨hc30, h⟩ := h
        refine lv_idiv hx hb dX11_mean_53 hc30 ?_
        refine lv_goto (tgt := 58) hx hb dX11_mean_54 (by decide) ?_
        exact m_iret hX hlk hr hw h dX11_mean_58
    · have h := h.2 hc11
      refine lv_aload_n hx hb dX11_mean_23 rfl (lv_at hl 1 rfl) ?_
      refine lv_iload_n hx hb dX11_mean_24 rfl (lv_at hl 0 rfl) ?_
      obtain ⟨hT33, h⟩ := h
      refine m_ci (m_runV (rest := []) hX hw (tX11_refuse h) mtX11_refuse k_322 ⟨k_324, k_0⟩ cl11 hT33 ⟨⟨rfl, rfl, Nat.le_of_ble_eq_true rfl, Nat.le_of_ble_eq_true rfl⟩, Nat.le_of_ble_eq_true rfl, Nat.le_of_ble_eq_true rfl⟩ rfl hl.1 rfl (Nat.le_of_ble_eq_true rfl) dX11_mean_25) hw (fun r31 σ32 H locs h hw => ?_)
      exact m_iret hX hlk hr hw h dX11_mean_28
  · have h := h.1 hc3
    refine lv_iconst (v := (-1)) hx hb dX11_mean_7 (by decide) ?_
    exact m_iret hX hlk hr hw h dX11_mean_8
theorem mtX11_mean : Mth yX11_mean cX11_mean 4 (some .int) 1 := ⟨k_346, k_43, by decide +kernel⟩
theorem tX11_mean {l : Launch} {D : va_G} {cA : Nat → ClassId} {z0 : Nat} {σ : Me} {a0 : Nat} {x1 : Int32} {Q : Int32 → Me → Prop} (h : pX11_mean σ a0 x1 Q) : Met l yX11_mean (Cond.code yX11_mean cX11_mean 4 (some .int) :: gTab) rX11_mean (PcM D cA z0 σ [.ref a0, .int x1]) (va_Qi Q (BM D cA z0) (AM z0)) 0 0 (AM z0) :=
  met_of (by decide) (Nat.le_of_ble_eq_true rfl) (fun hX hlk hr hn hw hl => wX11_mean hX hlk hr h hw hl)
abbrev rX11_sheet : Room := { frames := 2, cells := 0, slots := 0, locals := 43 }
def pX11_sheet (σ : Me) (a0 : Nat) (x1 : Int32) (x2 : Int32) (Q : Int32 → Me → Prop) : Prop := pX11_isSheet σ x1 (fun r1 σ2 => (r1 = 0 → Q ((-1 : Int32)) σ2) ∧ (¬ r1 = 0 → (x2 ≤ ((25 : Int32)) → (0 ≤ x2 → ∃ I27 : Nat → Me → Int32 → Prop, (∀ (n27 : Nat) (σ6 : Me) (x3_7 : Int32), I27 n27 σ6 x3_7 → gT σ6 a0 = 11 ∧ ∃ b9 : Nat, gP σ6 a0 1 = some b9 ∧ gT σ6 b9 = 26 ∧ vp_in x1 (gN σ6 b9) ∧ ∃ b12 : Nat, gP σ6 b9 x1.toNatClampNeg = some b12 ∧ gT σ6 b12 = 23 ∧ ((nI (gN σ6 b12)) ≤ x3_7 → ∃ b15 : Nat, gP σ6 a0 2 = some b15 ∧ gT σ6 b15 = 20 ∧ vp_in x1 (gN σ6 b15) ∧ ∀ σ18 : Me, σ18 = sI σ6 b15 x1.toNatClampNeg x2 → Q x2 σ18) ∧ (¬ (nI (gN σ6 b12)) ≤ x3_7 → vp_in x1 (gN σ6 b9) ∧ ∃ b20 : Nat, gP σ6 b9 x1.toNatClampNeg = some b20 ∧ gT σ6 b20 = 23 ∧ vp_in x3_7 (gN σ6 b20) ∧ ∀ σ23 : Me, σ23 = sI σ6 b20 x3_7.toNatClampNeg (vp_nar .byte ((0 : Int32))) → ∀ x3_24 : Int32, x3_24 = x3_7 + 1 → ∃ m27 : Nat, m27 < n27 ∧ I27 m27 σ23 x3_24)) ∧ ∃ n27 : Nat, I27 n27 σ2 ((0 : Int32))) ∧ (¬ 0 ≤ x2 → gT σ2 a0 = 11 ∧ pX11_refuse σ2 a0 ((5 : Int32)) (fun r25 σ26 => Q r25 σ26))) ∧ (¬ x2 ≤ ((25 : Int32)) → Q ((-1 : Int32)) σ2)))
set_option maxHeartbeats 4000000 in
set_option maxRecDepth 100000 in
theorem wX11_sheet {p : Program} {l : Launch} {e : Env} {s : State} {m : MethodId} {args : Array Value} {below : List Frame} {meth : Method} {c : Code} {D : va_G} {cA : Nat → ClassId} {z0 : Nat} (hX : Cx p m c cX11_sheet 4 s args RX11 D cA) (hlk : meth.locks = false) (hr : meth.sig.returnType = (some .int)) {σ : Me} {a0 : Nat} {x1 : Int32} {x2 : Int32} {Q : Int32 → Me → Prop} (h : pX11_sheet σ a0 x1 x2 Q) {H : Heap} {locs : List Loc} {ls : Array Slot} (hw : wS D cA z0 s σ H locs) (hl : lv_has ls 4 [(0, .ref a0), (1, .int x1), (2, .int x2)]) : W p l e rX11_sheet s m args below meth c H locs 0 0 (MQ below (va_Qi Q (BM D cA z0) (AM z0)) args s 0 0 (AM z0)) (F0 m 0 ls []) := by
  have hx := hX.1.1
  have hb := hX.1.2.1
  have hown := hX.1.2.2.2.1
  have hts := hX.1.2.2.2.2
  unfold pX11_sheet at h
  refine lv_iload_n hx hb dX11_sheet_0 rfl (lv_at hl 1 rfl) ?_
  refine m_ci (m_runS (rest := []) hX hw (tX11_isSheet h) mtX11_isSheet k_362 k_363 ⟨⟨rfl, rfl, Nat.le_of_ble_eq_true rfl, Nat.le_of_ble_eq_true rfl⟩, Nat.le_of_ble_eq_true rfl, Nat.le_of_ble_eq_true rfl⟩ rfl hl.1 rfl (Nat.le_of_ble_eq_true rfl) dX11_sheet_1) hw (fun r1 σ2 H locs h hw => ?_)
  refine lv_if_eq (tgt := 13) hx hb dX11_sheet_4 (by decide) (fun hc3 => ?_) (fun hc3 => ?_)
  · have h := h.1 hc3
    refine lv_iconst (v := (-1)) hx hb dX11_sheet_13 (by decide) ?_
    exact m_iret hX hlk hr hw h dX11_sheet_14
  · have h := h.2 hc3
    refine lv_iload_n hx hb dX11_sheet_7 rfl (lv_at hl 2 rfl) ?_
    refine lv_bipush (v := 25) hx hb dX11_sheet_8 (by decide) ?_
    refine lv_icmp_le (tgt := 15) hx hb dX11_sheet_10 (by decide) (fun hc4 => ?_) (fun hc4 => ?_)
    · have h := h.1 hc4
      refine lv_iload_n hx hb dX11_sheet_15 rfl (lv_at hl 2 rfl) ?_
      refine lv_if_ge (tgt := 25) hx hb dX11_sheet_16 (by decide) (fun hc5 => ?_) (fun hc5 => ?_)
      · have h := h.1 hc5
        refine lv_iconst (v := 0) hx hb dX11_sheet_25 (by decide) ?_
        refine lv_istore_n (lv' := [(3, _), (0, _), (1, _), (2, _)]) hx hb dX11_sheet_26 rfl hl (by decide) rfl (fun ls hl => ?_)
        obtain ⟨I27, hI27, n27, h⟩ := h
        have key27 : ∀ (n27 : Nat) (σ6 : Me) (x3_7 : Int32) (H : Heap) (locs : List Loc) (ls : Array Slot), I27 n27 σ6 x3_7 → wS D cA z0 s σ6 H locs → lv_has ls 4 [(0, .ref a0), (1, .int x1), (2, .int x2), (3, .int x3_7)] → W p l e rX11_sheet s m args below meth c H locs 0 0 (MQ below (va_Qi Q (BM D cA z0) (AM z0)) args s 0 0 (AM z0)) (F0 m 27 ls []) := by
          intro n27
          induction n27 using Nat.strongRecOn with
          | _ n27 ih27 =>
            intro σ6 x3_7 H locs ls h hw hl
            have h := hI27 _ _ _ h
            refine lv_iload_n hx hb dX11_sheet_27 rfl (lv_at hl 3 rfl) ?_
            refine lv_aload_n hx hb dX11_sheet_28 rfl (lv_at hl 0 rfl) ?_
            obtain ⟨hT8, h⟩ := h
            obtain ⟨b9, hb9, h⟩ := h
            refine m_get hX hw cl11 hT8 1 (by decide) k_250 (fun _ h => h) (v := .ref b9) (congrArg va_rf hb9) dX11_sheet_29 ?_
            refine lv_iload_n hx hb dX11_sheet_32 rfl (lv_at hl 1 rfl) ?_
            obtain ⟨hT10, h⟩ := h
            obtain ⟨hc11, h⟩ := h
            refine m_aald hX hw (t := 6) (by decide) hT10 hc11 dX11_sheet_33 ?_
            obtain ⟨b12, hb12, h⟩ := h
            rw [hb12]
            refine W.eq (g2 := F0 _ _ _ (.ref b12 :: _)) rfl ?_
            obtain ⟨hT13, h⟩ := h
            refine m_alen hX hw (t := 3) (by decide) hT13 dX11_sheet_34 ?_
            refine lv_icmp_ge (tgt := 53) hx hb dX11_sheet_35 (by decide) (fun hc14 => ?_) (fun hc14 => ?_)
            · have h := h.1 hc14
              refine lv_aload_n hx hb dX11_sheet_53 rfl (lv_at hl 0 rfl) ?_
              obtain ⟨b15, hb15, h⟩ := h
              refine m_get hX hw cl11 hT8 2 (by decide) k_251 (fun _ h => h) (v := .ref b15) (congrArg va_rf hb15) dX11_sheet_54 ?_
              refine lv_iload_n hx hb dX11_sheet_57 rfl (lv_at hl 1 rfl) ?_
              refine lv_iload_n hx hb dX11_sheet_58 rfl (lv_at hl 2 rfl) ?_
              obtain ⟨hT16, h⟩ := h
              obtain ⟨hc17, h⟩ := h
              refine m_iast hX hw hT16 hc17 dX11_sheet_59 (fun H locs hw => ?_)
              let σ18 : Me := sI σ6 b15 x1.toNatClampNeg x2
              have h := h σ18 rfl
              have hw : wS D cA z0 s σ18 H locs := hw
              refine lv_iload_n hx hb dX11_sheet_60 rfl (lv_at hl 2 rfl) ?_
              exact m_iret hX hlk hr hw h dX11_sheet_61
            · have h := h.2 hc14
              refine lv_aload_n hx hb dX11_sheet_38 rfl (lv_at hl 0 rfl) ?_
              refine m_get hX hw cl11 hT8 1 (by decide) k_250 (fun _ h => h) (v := .ref b9) (congrArg va_rf hb9) dX11_sheet_39 ?_
              refine lv_iload_n hx hb dX11_sheet_42 rfl (lv_at hl 1 rfl) ?_
              obtain ⟨hc19, h⟩ := h
              refine m_aald hX hw (t := 6) (by decide) hT10 hc19 dX11_sheet_43 ?_
              obtain ⟨b20, hb20, h⟩ := h
              rw [hb20]
              refine W.eq (g2 := F0 _ _ _ (.ref b20 :: _)) rfl ?_
              refine lv_iload_n hx hb dX11_sheet_44 rfl (lv_at hl 3 rfl) ?_
              refine lv_iconst (v := 0) hx hb dX11_sheet_45 (by decide) ?_
              obtain ⟨hT21, h⟩ := h
              obtain ⟨hc22, h⟩ := h
              refine m_bast hX hw hT21 hc22 dX11_sheet_46 (fun H locs hw => ?_)
              let σ23 : Me := sI σ6 b20 x3_7.toNatClampNeg (vp_nar .byte ((0 : Int32)))
              have h := h σ23 rfl
              have hw : wS D cA z0 s σ23 H locs := hw
              obtain ⟨x3_24, e_x3_24⟩ : ∃ y : Int32, y = x3_7 + 1 := ⟨_, rfl⟩
              have h := h x3_24 e_x3_24
              refine lv_iinc (v := x3_24) (lv' := [(3, _), (0, _), (1, _), (2, _)]) hx hb dX11_sheet_47 hl (k := 3) rfl (by rw [e_x3_24]; rfl) (by decide) rfl (fun ls hl => ?_)
              refine lv_goto (tgt := 27) hx hb dX11_sheet_50 (by decide) ?_
              obtain ⟨m27, hm27, h⟩ := h
              exact ih27 m27 hm27 _ _ _ _ _ h hw (lv_sub hl [1, 2, 3, 0] rfl)
        exact key27 _ _ _ _ _ _ h hw (lv_sub hl [1, 2, 3, 0] rfl)
      · have h := h.2 hc5
        refine lv_aload_n hx hb dX11_sheet_19 rfl (lv_at hl 0 rfl) ?_
        refine lv_iconst (v := 5) hx hb dX11_sheet_20 (by decide) ?_
        obtain ⟨hT27, h⟩ := h
        refine m_ci (m_runV (rest := []) hX hw (tX11_refuse h) mtX11_refuse k_322 ⟨k_324, k_0⟩ cl11 hT27 ⟨⟨rfl, rfl, Nat.le_of_ble_eq_true rfl, Nat.le_of_ble_eq_true rfl⟩, Nat.le_of_ble_eq_true rfl, Nat.le_of_ble_eq_true rfl⟩ rfl hl.1 rfl (Nat.le_of_ble_eq_true rfl) dX11_sheet_21) hw (fun r25 σ26 H locs h hw => ?_)
        exact m_iret hX hlk hr hw h dX11_sheet_24
    · have h := h.2 hc4
      refine lv_iconst (v := (-1)) hx hb dX11_sheet_13 (by decide) ?_
      exact m_iret hX hlk hr hw h dX11_sheet_14
theorem mtX11_sheet : Mth yX11_sheet cX11_sheet 4 (some .int) 2 := ⟨k_361, k_43, by decide +kernel⟩
theorem tX11_sheet {l : Launch} {D : va_G} {cA : Nat → ClassId} {z0 : Nat} {σ : Me} {a0 : Nat} {x1 : Int32} {x2 : Int32} {Q : Int32 → Me → Prop} (h : pX11_sheet σ a0 x1 x2 Q) : Met l yX11_sheet (Cond.code yX11_sheet cX11_sheet 4 (some .int) :: gTab) rX11_sheet (PcM D cA z0 σ [.ref a0, .int x1, .int x2]) (va_Qi Q (BM D cA z0) (AM z0)) 0 0 (AM z0) :=
  met_of (by decide) (Nat.le_of_ble_eq_true rfl) (fun hX hlk hr hn hw hl => wX11_sheet hX hlk hr h hw hl)
abbrev rX11_lay : Room := { frames := 2, cells := 0, slots := 0, locals := 43 }
def pX11_lay (σ : Me) (a0 : Nat) (x1 : Int32) (x2 : Int32) (x3 : Int32) (Q : Int32 → Me → Prop) : Prop := pX11_isSheet σ x1 (fun r1 σ2 => (r1 = 0 → Q ((-1 : Int32)) σ2) ∧ (¬ r1 = 0 → gT σ2 a0 = 11 ∧ ∃ b5 : Nat, gP σ2 a0 2 = some b5 ∧ gT σ2 b5 = 20 ∧ vp_in x1 (gN σ2 b5) ∧ (0 ≤ (gI σ2 b5 x1.toNatClampNeg) → vp_in x1 (gN σ2 b5) ∧ pX11_isWithin σ2 x2 ((0 : Int32)) ((gI σ2 b5 x1.toNatClampNeg) - ((1 : Int32))) (fun r10 σ11 => (r10 = 0 → gT σ11 a0 = 11 ∧ pX11_refuse σ11 a0 ((2 : Int32)) (fun r26 σ27 => Q r26 σ27)) ∧ (¬ r10 = 0 → gT σ11 a0 = 11 ∧ ∃ b14 : Nat, gP σ11 a0 1 = some b14 ∧ gT σ11 b14 = 26 ∧ vp_in x1 (gN σ11 b14) ∧ ∃ b17 : Nat, gP σ11 b14 x1.toNatClampNeg = some b17 ∧ gT σ11 b17 = 23 ∧ vp_in x2 (gN σ11 b17) ∧ ∀ x4_20 : Int32, x4_20 = (gI σ11 b17 x2.toNatClampNeg) → vp_in x1 (gN σ11 b14) ∧ ∃ b22 : Nat, gP σ11 b14 x1.toNatClampNeg = some b22 ∧ gT σ11 b22 = 23 ∧ vp_in x2 (gN σ11 b22) ∧ ∀ σ25 : Me, σ25 = sI σ11 b22 x2.toNatClampNeg (vp_nar .byte x3.toInt8.toInt32) → Q (x4_20 + ((1000 : Int32))) σ25))) ∧ (¬ 0 ≤ (gI σ2 b5 x1.toNatClampNeg) → pX11_refuse σ2 a0 ((1 : Int32)) (fun r29 σ30 => Q r29 σ30))))
set_option maxHeartbeats 4000000 in
set_option maxRecDepth 100000 in
theorem wX11_lay {p : Program} {l : Launch} {e : Env} {s : State} {m : MethodId} {args : Array Value} {below : List Frame} {meth : Method} {c : Code} {D : va_G} {cA : Nat → ClassId} {z0 : Nat} (hX : Cx p m c cX11_lay 5 s args RX11 D cA) (hlk : meth.locks = false) (hr : meth.sig.returnType = (some .int)) {σ : Me} {a0 : Nat} {x1 : Int32} {x2 : Int32} {x3 : Int32} {Q : Int32 → Me → Prop} (h : pX11_lay σ a0 x1 x2 x3 Q) {H : Heap} {locs : List Loc} {ls : Array Slot} (hw : wS D cA z0 s σ H locs) (hl : lv_has ls 5 [(0, .ref a0), (1, .int x1), (2, .int x2), (3, .int x3)]) : W p l e rX11_lay s m args below meth c H locs 0 0 (MQ below (va_Qi Q (BM D cA z0) (AM z0)) args s 0 0 (AM z0)) (F0 m 0 ls []) := by
  have hx := hX.1.1
  have hb := hX.1.2.1
  have hown := hX.1.2.2.2.1
  have hts := hX.1.2.2.2.2
  unfold pX11_lay at h
  refine lv_iload_n hx hb dX11_lay_0 rfl (lv_at hl 1 rfl) ?_
  refine m_ci (m_runS (rest := []) hX hw (tX11_isSheet h) mtX11_isSheet k_362 k_363 ⟨⟨rfl, rfl, Nat.le_of_ble_eq_true rfl, Nat.le_of_ble_eq_true rfl⟩, Nat.le_of_ble_eq_true rfl, Nat.le_of_ble_eq_true rfl⟩ rfl hl.1 rfl (Nat.le_of_ble_eq_true rfl) dX11_lay_1) hw (fun r1 σ2 H locs h hw => ?_)
  refine lv_if_ne (tgt := 9) hx hb dX11_lay_4 (by decide) (fun hc3 => ?_) (fun hc3 => ?_)
  · have h := h.2 hc3
    refine lv_aload_n hx hb dX11_lay_9 rfl (lv_at hl 0 rfl) ?_
    obtain ⟨hT4, h⟩ := h
    obtain ⟨b5, hb5, h⟩ := h
    refine m_get hX hw cl11 hT4 2 (by decide) k_251 (fun _ h => h) (v := .ref b5) (congrArg va_rf hb5) dX11_lay_10 ?_
    refine lv_iload_n hx hb dX11_lay_13 rfl (lv_at hl 1 rfl) ?_
    obtain ⟨hT6, h⟩ := h
    obtain ⟨hc7, h⟩ := h
    refine m_iald hX hw hT6 hc7 dX11_lay_14 ?_
    refine lv_if_ge (tgt := 24) hx hb dX11_lay_15 (by decide) (fun hc8 => ?_) (fun hc8 => ?_)
    · have h := h.1 hc8
      refine lv_iload_n hx hb dX11_lay_24 rfl (lv_at hl 2 rfl) ?_
      refine lv_iconst (v := 0) hx hb dX11_lay_25 (by decide) ?_
      refine lv_aload_n hx hb dX11_lay_26 rfl (lv_at hl 0 rfl) ?_
      refine m_get hX hw cl11 hT4 2 (by decide) k_251 (fun _ h => h) (v := .ref b5) (congrArg va_rf hb5) dX11_lay_27 ?_
      refine lv_iload_n hx hb dX11_lay_30 rfl (lv_at hl 1 rfl) ?_
      obtain ⟨hc9, h⟩ := h
      refine m_iald hX hw hT6 hc9 dX11_lay_31 ?_
      refine lv_iconst (v := 1) hx hb dX11_lay_32 (by decide) ?_
      refine lv_isub hx hb dX11_lay_33 ?_
      refine m_ci (m_runS (rest := []) hX hw (tX11_isWithin h) mtX11_isWithin k_311 k_312 ⟨⟨rfl, rfl, Nat.le_of_ble_eq_true rfl, Nat.le_of_ble_eq_true rfl⟩, Nat.le_of_ble_eq_true rfl, Nat.le_of_ble_eq_true rfl⟩ rfl hl.1 rfl (Nat.le_of_ble_eq_true rfl) dX11_lay_34) hw (fun r10 σ11 H locs h hw => ?_)
      refine lv_if_ne (tgt := 46) hx hb dX11_lay_37 (by decide) (fun hc12 => ?_) (fun hc12 => ?_)
      · have h := h.2 hc12
        refine lv_aload_n hx hb dX11_lay_46 rfl (lv_at hl 0 rfl) ?_
        obtain ⟨hT13, h⟩ := h
        obtain ⟨b14, hb14, h⟩ := h
        refine m_get hX hw cl11 hT13 1 (by decide) k_250 (fun _ h => h) (v := .ref b14) (congrArg va_rf hb14) dX11_lay_47 ?_
        refine lv_iload_n hx hb dX11_lay_50 rfl (lv_at hl 1 rfl) ?_
        obtain ⟨hT15, h⟩ := h
        obtain ⟨hc16, h⟩ := h
        refine m_aald hX hw (t := 6) (by decide) hT15 hc16 dX11_lay_51 ?_
        obtain ⟨b17, hb17, h⟩ := h
        rw [hb17]
        refine W.eq (g2 := F0 _ _ _ (.ref b17 :: _)) rfl ?_
        refine lv_iload_n hx hb dX11_lay_52 rfl (lv_at hl 2 rfl) ?_
        obtain ⟨hT18, h⟩ := h
        obtain ⟨hc19, h⟩ := h
        refine m_bald hX hw hT18 hc19 dX11_lay_53 ?_
        refine lv_topi (fun x4_20 e_x4_20 => ?_)
        have h := h x4_20 e_x4_20
        refine lv_istore (lv' := [(4, _), (0, _), (1, _), (2, _), (3, _)]) hx hb dX11_lay_54 hl (by decide) rfl (fun ls hl => ?_)
        refine lv_aload_n hx hb dX11_lay_56 rfl (lv_at hl 1 rfl) ?_
        refine m_get hX hw cl11 hT13 1 (by decide) k_250 (fun _ h => h) (v := .ref b14) (congrArg va_rf hb14) dX11_lay_57 ?_
        refine lv_iload_n hx hb dX11_lay_60 rfl (lv_at hl 2 rfl) ?_
        obtain ⟨hc21, h⟩ := h
        refine m_aald hX hw (t := 6) (by decide) hT15 hc21 dX11_lay_61 ?_
        obtain ⟨b22, hb22, h⟩ := h
        rw [hb22]
        refine W.eq (g2 := F0 _ _ _ (.ref b22 :: _)) rfl ?_
        refine lv_iload_n hx hb dX11_lay_62 rfl (lv_at hl 3 rfl) ?_
        refine lv_iload_n hx hb dX11_lay_63 rfl (lv_at hl 4 rfl) ?_
        refine lv_i2b hx hb dX11_lay_64 rfl ?_
        obtain ⟨hT23, h⟩ := h
        obtain ⟨hc24, h⟩ := h
        refine m_bast hX hw hT23 hc24 dX11_lay_65 (fun H locs hw => ?_)
        let σ25 : Me := sI σ11 b22 x2.toNatClampNeg (vp_nar .byte x3.toInt8.toInt32)
        have h := h σ25 rfl
        have hw : wS D cA z0 s σ25 H locs := hw
        refine lv_iload hx hb dX11_lay_66 (lv_at hl 0 rfl) ?_
        refine lv_sipush (v := 1000) hx hb dX11_lay_68 (by decide) ?_
        refine lv_iadd hx hb dX11_lay_71 ?_
        exact m_iret hX hlk hr hw h dX11_lay_72
      · have h := h.1 hc12
        refine lv_aload_n hx hb dX11_lay_40 rfl (lv_at hl 0 rfl) ?_
        refine lv_iconst (v := 2) hx hb dX11_lay_41 (by decide) ?_
        obtain ⟨hT28, h⟩ := h
        refine m_ci (m_runV (rest := []) hX hw (tX11_refuse h) mtX11_refuse k_322 ⟨k_324, k_0⟩ cl11 hT28 ⟨⟨rfl, rfl, Nat.le_of_ble_eq_true rfl, Nat.le_of_ble_eq_true rfl⟩, Nat.le_of_ble_eq_true rfl, Nat.le_of_ble_eq_true rfl⟩ rfl hl.1 rfl (Nat.le_of_ble_eq_true rfl) dX11_lay_42) hw (fun r26 σ27 H locs h hw => ?_)
        exact m_iret hX hlk hr hw h dX11_lay_45
    · have h := h.2 hc8
      refine lv_aload_n hx hb dX11_lay_18 rfl (lv_at hl 0 rfl) ?_
      refine lv_iconst (v := 1) hx hb dX11_lay_19 (by decide) ?_
      refine m_ci (m_runV (rest := []) hX hw (tX11_refuse h) mtX11_refuse k_322 ⟨k_324, k_0⟩ cl11 hT4 ⟨⟨rfl, rfl, Nat.le_of_ble_eq_true rfl, Nat.le_of_ble_eq_true rfl⟩, Nat.le_of_ble_eq_true rfl, Nat.le_of_ble_eq_true rfl⟩ rfl hl.1 rfl (Nat.le_of_ble_eq_true rfl) dX11_lay_20) hw (fun r29 σ30 H locs h hw => ?_)
      exact m_iret hX hlk hr hw h dX11_lay_23
  · have h := h.1 hc3
    refine lv_iconst (v := (-1)) hx hb dX11_lay_7 (by decide) ?_
    exact m_iret hX hlk hr hw h dX11_lay_8
theorem mtX11_lay : Mth yX11_lay cX11_lay 5 (some .int) 3 := ⟨k_368, k_43, by decide +kernel⟩
theorem tX11_lay {l : Launch} {D : va_G} {cA : Nat → ClassId} {z0 : Nat} {σ : Me} {a0 : Nat} {x1 : Int32} {x2 : Int32} {x3 : Int32} {Q : Int32 → Me → Prop} (h : pX11_lay σ a0 x1 x2 x3 Q) : Met l yX11_lay (Cond.code yX11_lay cX11_lay 5 (some .int) :: gTab) rX11_lay (PcM D cA z0 σ [.ref a0, .int x1, .int x2, .int x3]) (va_Qi Q (BM D cA z0) (AM z0)) 0 0 (AM z0) :=
  met_of (by decide) (Nat.le_of_ble_eq_true rfl) (fun hX hlk hr hn hw hl => wX11_lay hX hlk hr h hw hl)
abbrev rX11_tear : Room := { frames := 2, cells := 0, slots := 0, locals := 43 }
def pX11_tear (σ : Me) (a0 : Nat) (x1 : Int32) (Q : Int32 → Me → Prop) : Prop := pX11_isSheet σ x1 (fun r1 σ2 => (r1 = 0 → Q ((-1 : Int32)) σ2) ∧ (¬ r1 = 0 → gT σ2 a0 = 11 ∧ ∃ b5 : Nat, gP σ2 a0 2 = some b5 ∧ gT σ2 b5 = 20 ∧ vp_in x1 (gN σ2 b5) ∧ (0 ≤ (gI σ2 b5 x1.toNatClampNeg) → vp_in x1 (gN σ2 b5) ∧ ∀ σ10 : Me, σ10 = sI σ2 b5 x1.toNatClampNeg ((-1 : Int32)) → Q ((1 : Int32)) σ10) ∧ (¬ 0 ≤ (gI σ2 b5 x1.toNatClampNeg) → pX11_refuse σ2 a0 ((1 : Int32)) (fun r11 σ12 => Q r11 σ12))))
set_option maxHeartbeats 4000000 in
set_option maxRecDepth 100000 in
theorem wX11_tear {p : Program} {l : Launch} {e : Env} {s : State} {m : MethodId} {args : Array Value} {below : List Frame} {meth : Method} {c : Code} {D : va_G} {cA : Nat → ClassId} {z0 : Nat} (hX : Cx p m c cX11_tear 2 s args RX11 D cA) (hlk : meth.locks = false) (hr : meth.sig.returnType = (some .int)) {σ : Me} {a0 : Nat} {x1 : Int32} {Q : Int32 → Me → Prop} (h : pX11_tear σ a0 x1 Q) {H : Heap} {locs : List Loc} {ls : Array Slot} (hw : wS D cA z0 s σ H locs) (hl : lv_has ls 2 [(0, .ref a0), (1, .int x1)]) : W p l e rX11_tear s m args below meth c H locs 0 0 (MQ below (va_Qi Q (BM D cA z0) (AM z0)) args s 0 0 (AM z0)) (F0 m 0 ls []) := by
  have hx := hX.1.1
  have hb := hX.1.2.1
  have hown := hX.1.2.2.2.1
  have hts := hX.1.2.2.2.2
  unfold pX11_tear at h
  refine lv_iload_n hx hb dX11_tear_0 rfl (lv_at hl 1 rfl) ?_
  refine m_ci (m_runS (rest := []) hX hw (tX11_isSheet h) mtX11_isSheet k_362 k_363 ⟨⟨rfl, rfl, Nat.le_of_ble_eq_true rfl, Nat.le_of_ble_eq_true rfl⟩, Nat.le_of_ble_eq_true rfl, Nat.le_of_ble_eq_true rfl⟩ rfl hl.1 rfl (Nat.le_of_ble_eq_true rfl) dX11_tear_1) hw (fun r1 σ2 H locs h hw => ?_)
  refine lv_if_ne (tgt := 9) hx hb dX11_tear_4 (by decide) (fun hc3 => ?_) (fun hc3 => ?_)
  · have h := h.2 hc3
    refine lv_aload_n hx hb dX11_tear_9 rfl (lv_at hl 0 rfl) ?_
    obtain ⟨hT4, h⟩ := h
    obtain ⟨b5, hb5, h⟩ := h
    refine m_get hX hw cl11 hT4 2 (by decide) k_251 (fun _ h => h) (v := .ref b5) (congrArg va_rf hb5) dX11_tear_10 ?_
    refine lv_iload_n hx hb dX11_tear_13 rfl (lv_at hl 1 rfl) ?_
    obtain ⟨hT6, h⟩ := h
    obtain ⟨hc7, h⟩ := h
    refine m_iald hX hw hT6 hc7 dX11_tear_14 ?_
    refine lv_if_ge (tgt := 24) hx hb dX11_tear_15 (by decide) (fun hc8 => ?_) (fun hc8 => ?_)
    · have h := h.1 hc8
      refine lv_aload_n hx hb dX11_tear_24 rfl (lv_at hl 0 rfl) ?_
      refine m_get hX hw cl11 hT4 2 (by decide) k_251 (fun _ h => h) (v := .ref b5) (congrArg va_rf hb5) dX11_tear_25 ?_
      refine lv_iload_n hx hb dX11_tear_28 rfl (lv_at hl 1 rfl) ?_
      refine lv_iconst (v := (-1)) hx hb dX11_tear_29 (by decide) ?_
      obtain ⟨hc9, h⟩ := h
      refine m_iast hX hw hT6 hc9 dX11_tear_30 (fun H locs hw => ?_)
      let σ10 : Me := sI σ2 b5 x1.toNatClampNeg ((-1 : Int32))
      have h := h σ10 rfl
      have hw : wS D cA z0 s σ10 H locs := hw
      refine lv_iconst (v := 1) hx hb dX11_tear_31 (by decide) ?_
      exact m_iret hX hlk hr hw h dX11_tear_32
    · have h := h.2 hc8
      refine lv_aload_n hx hb dX11_tear_18 rfl (lv_at hl 0 rfl) ?_
      refine lv_iconst (v := 1) hx hb dX11_tear_19 (by decide) ?_
      refine m_ci (m_runV (rest := []) hX hw (tX11_refuse h) mtX11_refuse k_322 ⟨k_324, k_0⟩ cl11 hT4 ⟨⟨rfl, rfl, Nat.le_of_ble_eq_true rfl, Nat.le_of_ble_eq_true rfl⟩, Nat.le_of_ble_eq_true rfl, Nat.le_of_ble_eq_true rfl⟩ rfl hl.1 rfl (Nat.le_of_ble_eq_true rfl) dX11_tear_20) hw (fun r11 σ12 H locs h hw => ?_)
      exact m_iret hX hlk hr hw h dX11_tear_23
  · have h := h.1 hc3
    refine lv_iconst (v := (-1)) hx hb dX11_tear_7 (by decide) ?_
    exact m_iret hX hlk hr hw h dX11_tear_8
theorem mtX11_tear : Mth yX11_tear cX11_tear 2 (some .int) 1 := ⟨k_372, k_43, by decide +kernel⟩
theorem tX11_tear {l : Launch} {D : va_G} {cA : Nat → ClassId} {z0 : Nat} {σ : Me} {a0 : Nat} {x1 : Int32} {Q : Int32 → Me → Prop} (h : pX11_tear σ a0 x1 Q) : Met l yX11_tear (Cond.code yX11_tear cX11_tear 2 (some .int) :: gTab) rX11_tear (PcM D cA z0 σ [.ref a0, .int x1]) (va_Qi Q (BM D cA z0) (AM z0)) 0 0 (AM z0) :=
  met_of (by decide) (Nat.le_of_ble_eq_true rfl) (fun hX hlk hr hn hw hl => wX11_tear hX hlk hr h hw hl)
abbrev rX11_table : Room := { frames := 3, cells := 2, slots := 26, locals := 63 }
def pX11_table (σ : Me) (a0 : Nat) (x1 : Int32) (Q : Int32 → Me → Prop) : Prop := pX11_isSheet σ x1 (fun r1 σ2 => (r1 = 0 → Q ((-1 : Int32)) σ2) ∧ (¬ r1 = 0 → gT σ2 a0 = 11 ∧ ((gI σ2 a0 4) < ((12 : Int32)) → ∃ b6 : Nat, gP σ2 a0 2 = some b6 ∧ gT σ2 b6 = 20 ∧ vp_in x1 (gN σ2 b6) ∧ (0 ≤ (gI σ2 b6 x1.toNatClampNeg) → ∀ (b10 : Nat) (σ11 : Me), b10 = gz σ2 → σ11 = nw σ2 9 0 → gT σ11 a0 = 11 ∧ ∃ b13 : Nat, gP σ11 a0 1 = some b13 ∧ gT σ11 b13 = 26 ∧ vp_in x1 (gN σ11 b13) ∧ ∃ b16 : Nat, gP σ11 b13 x1.toNatClampNeg = some b16 ∧ ∃ b17 : Nat, gP σ11 a0 2 = some b17 ∧ gT σ11 b17 = 20 ∧ vp_in x1 (gN σ11 b17) ∧ pX9_init σ11 b10 b16 (gI σ11 b17 x1.toNatClampNeg) (fun σ21 => gT σ21 a0 = 11 ∧ pX11_keep σ21 a0 b10 (fun r22 σ23 => Q r22 σ23))) ∧ (¬ 0 ≤ (gI σ2 b6 x1.toNatClampNeg) → pX11_refuse σ2 a0 ((1 : Int32)) (fun r25 σ26 => Q r25 σ26))) ∧ (¬ (gI σ2 a0 4) < ((12 : Int32)) → Q ((-2 : Int32)) σ2)))
set_option maxHeartbeats 4000000 in
set_option maxRecDepth 100000 in
theorem wX11_table {p : Program} {l : Launch} {e : Env} {s : State} {m : MethodId} {args : Array Value} {below : List Frame} {meth : Method} {c : Code} {D : va_G} {cA : Nat → ClassId} {z0 : Nat} (hX : Cx p m c cX11_table 2 s args RX11 D cA) (hlk : meth.locks = false) (hr : meth.sig.returnType = (some .int)) {σ : Me} {a0 : Nat} {x1 : Int32} {Q : Int32 → Me → Prop} (h : pX11_table σ a0 x1 Q) {H : Heap} {locs : List Loc} {ls : Array Slot} (hw : wS D cA z0 s σ H locs) (hl : lv_has ls 2 [(0, .ref a0), (1, .int x1)]) : W p l e rX11_table s m args below meth c H locs 0 0 (MQ below (va_Qi Q (BM D cA z0) (AM z0)) args s 2 26 (AM z0)) (F0 m 0 ls []) := by
  have hx := hX.1.1
  have hb := hX.1.2.1
  have hown := hX.1.2.2.2.1
  have hts := hX.1.2.2.2.2
  unfold pX11_table at h
  refine lv_iload_n hx hb dX11_table_0 rfl (lv_at hl 1 rfl) ?_
  refine m_ci (m_runS (rest := []) hX hw (tX11_isSheet h) mtX11_isSheet k_362 k_363 ⟨⟨rfl, rfl, Nat.le_of_ble_eq_true rfl, Nat.le_of_ble_eq_true rfl⟩, Nat.le_of_ble_eq_true rfl, Nat.le_of_ble_eq_true rfl⟩ rfl hl.1 rfl (Nat.le_of_ble_eq_true rfl) dX11_table_1) hw (fun r1 σ2 H locs h hw => ?_)
  refine lv_if_ne (tgt := 9) hx hb dX11_table_4 (by decide) (fun hc3 => ?_) (fun hc3 => ?_)
  · have h := h.2 hc3
    refine lv_aload_n hx hb dX11_table_9 rfl (lv_at hl 0 rfl) ?_
    obtain ⟨hT4, h⟩ := h
    refine m_get hX hw cl11 hT4 4 (by decide) k_253 (fun _ h => h) (v := .int _) rfl dX11_table_10 ?_
    refine lv_bipush (v := 12) hx hb dX11_table_13 (by decide) ?_
    refine lv_icmp_lt (tgt := 21) hx hb dX11_table_15 (by decide) (fun hc5 => ?_) (fun hc5 => ?_)
    · have h := h.1 hc5
      refine lv_aload_n hx hb dX11_table_21 rfl (lv_at hl 0 rfl) ?_
      obtain ⟨b6, hb6, h⟩ := h
      refine m_get hX hw cl11 hT4 2 (by decide) k_251 (fun _ h => h) (v := .ref b6) (congrArg va_rf hb6) dX11_table_22 ?_
      refine lv_iload_n hx hb dX11_table_25 rfl (lv_at hl 1 rfl) ?_
      obtain ⟨hT7, h⟩ := h
      obtain ⟨hc8, h⟩ := h
      refine m_iald hX hw hT7 hc8 dX11_table_26 ?_
      refine lv_if_ge (tgt := 36) hx hb dX11_table_27 (by decide) (fun hc9 => ?_) (fun hc9 => ?_)
      · have h := h.1 hc9
        refine lv_aload_n hx hb dX11_table_36 rfl (lv_at hl 0 rfl) ?_
        refine m_new hX hw cl9 (by decide) k_377 k_378 k_53 ⟨Nat.le_of_ble_eq_true rfl, Nat.le_of_ble_eq_true rfl⟩ dX11_table_37 (fun H hw => ?_)
        let b10 : Nat := gz σ2
        let σ11 : Me := nw σ2 9 0
        have h := h b10 σ11 rfl rfl
        have hw : wS D cA z0 s σ11 H locs := hw
        refine lv_dup hx hb dX11_table_40 rfl ?_
        refine lv_aload_n hx hb dX11_table_41 rfl (lv_at hl 0 rfl) ?_
        obtain ⟨hT12, h⟩ := h
        obtain ⟨b13, hb13, h⟩ := h
        refine m_get hX hw cl11 hT12 1 (by decide) k_250 (fun _ h => h) (v := .ref b13) (congrArg va_rf hb13) dX11_table_42 ?_
        refine lv_iload_n hx hb dX11_table_45 rfl (lv_at hl 1 rfl) ?_
        obtain ⟨hT14, h⟩ := h
        obtain ⟨hc15, h⟩ := h
        refine m_aald hX hw (t := 6) (by decide) hT14 hc15 dX11_table_46 ?_
        obtain ⟨b16, hb16, h⟩ := h
        rw [hb16]
        refine W.eq (g2 := F0 _ _ _ (.ref b16 :: _)) rfl ?_
        refine lv_aload_n hx hb dX11_table_47 rfl (lv_at hl 0 rfl) ?_
        obtain ⟨b17, hb17, h⟩ := h
        refine m_get hX hw cl11 hT12 2 (by decide) k_251 (fun _ h => h) (v := .ref b17) (congrArg va_rf hb17) dX11_table_48 ?_
        refine lv_iload_n hx hb dX11_table_51 rfl (lv_at hl 1 rfl) ?_
        obtain ⟨hT18, h⟩ := h
        obtain ⟨hc19, h⟩ := h
        refine m_iald hX hw hT18 hc19 dX11_table_52 ?_
        refine m_cv (m_runI (rest := [_, _]) hX hw (tX9_init h) mtX9_init k_379 k_380 rfl ⟨⟨rfl, rfl, Nat.le_of_ble_eq_true rfl, Nat.le_of_ble_eq_true rfl⟩, Nat.le_of_ble_eq_true rfl, Nat.le_of_ble_eq_true rfl⟩ rfl hl.1 rfl (Nat.le_of_ble_eq_true rfl) dX11_table_53) hw (fun σ21 H locs h hw => ?_)
        obtain ⟨hT24, h⟩ := h
        refine m_ci (m_runV (rest := []) hX hw (tX11_keep h) mtX11_keep k_397 ⟨k_399, k_1⟩ cl11 hT24 ⟨⟨rfl, rfl, Nat.le_of_ble_eq_true rfl, Nat.le_of_ble_eq_true rfl⟩, Nat.le_of_ble_eq_true rfl, Nat.le_of_ble_eq_true rfl⟩ rfl hl.1 rfl (Nat.le_of_ble_eq_true rfl) dX11_table_56) hw (fun r22 σ23 H locs h hw => ?_)
        refine W.widen (k := 2) (n := 26) (Nat.le_of_ble_eq_true rfl) (Nat.le_of_ble_eq_true rfl) ?_
        exact m_iret hX hlk hr hw h dX11_table_59
      · have h := h.2 hc9
        refine lv_aload_n hx hb dX11_table_30 rfl (lv_at hl 0 rfl) ?_
        refine lv_iconst (v := 1) hx hb dX11_table_31 (by decide) ?_
        refine m_ci (m_runV (rest := []) hX hw (tX11_refuse h) mtX11_refuse k_322 ⟨k_324, k_0⟩ cl11 hT4 ⟨⟨rfl, rfl, Nat.le_of_ble_eq_true rfl, Nat.le_of_ble_eq_true rfl⟩, Nat.le_of_ble_eq_true rfl, Nat.le_of_ble_eq_true rfl⟩ rfl hl.1 rfl (Nat.le_of_ble_eq_true rfl) dX11_table_32) hw (fun r25 σ26 H locs h hw => ?_)
        refine W.widen (k := 2) (n := 26) (Nat.le_of_ble_eq_true rfl) (Nat.le_of_ble_eq_true rfl) ?_
        exact m_iret hX hlk hr hw h dX11_table_35
    · have h := h.2 hc5
      refine lv_bipush (v := (-2)) hx hb dX11_table_18 (by decide) ?_
      refine W.widen (k := 2) (n := 26) (Nat.le_of_ble_eq_true rfl) (Nat.le_of_ble_eq_true rfl) ?_
      exact m_iret hX hlk hr hw h dX11_table_20
  · have h := h.1 hc3
    refine lv_iconst (v := (-1)) hx hb dX11_table_7 (by decide) ?_
    refine W.widen (k := 2) (n := 26) (Nat.le_of_ble_eq_true rfl) (Nat.le_of_ble_eq_true rfl) ?_
    exact m_iret hX hlk hr hw h dX11_table_8
theorem mtX11_table : Mth yX11_table cX11_table 2 (some .int) 1 := ⟨k_376, k_43, by decide +kernel⟩
theorem tX11_table {l : Launch} {D : va_G} {cA : Nat → ClassId} {z0 : Nat} {σ : Me} {a0 : Nat} {x1 : Int32} {Q : Int32 → Me → Prop} (h : pX11_table σ a0 x1 Q) : Met l yX11_table (Cond.code yX11_table cX11_table 2 (some .int) :: gTab) rX11_table (PcM D cA z0 σ [.ref a0, .int x1]) (va_Qi Q (BM D cA z0) (AM z0)) 2 26 (AM z0) :=
  met_of (by decide) (Nat.le_of_ble_eq_true rfl) (fun hX hlk hr hn hw hl => wX11_table hX hlk hr h hw hl)
abbrev rX11_rule : Room := { frames := 4, cells := 1, slots := 2, locals := 83 }
def pX11_rule (σ : Me) (a0 : Nat) (x1 : Int32) (x2 : Int32) (x3 : Int32) (Q : Int32 → Me → Prop) : Prop := pX11_isRuleOf σ x1 x2 x3 (fun r1 σ2 => (r1 = 0 → Q ((-1 : Int32)) σ2) ∧ (¬ r1 = 0 → gT σ2 a0 = 11 ∧ ((gI σ2 a0 4) < ((12 : Int32)) → (x1 = ((1 : Int32)) → ∀ (b22 : Nat) (σ23 : Me), b22 = gz σ2 → σ23 = nw σ2 0 0 → pX0_init σ23 b22 x2 (fun σ25 => gT σ25 a0 = 11 ∧ pX11_keep σ25 a0 b22 (fun r26 σ27 => Q r26 σ27))) ∧ (¬ x1 = ((1 : Int32)) → (x1 = ((2 : Int32)) → ∀ (b15 : Nat) (σ16 : Me), b15 = gz σ2 → σ16 = nw σ2 3 0 → pX3_init σ16 b15 x2 x3 (fun σ18 => gT σ18 a0 = 11 ∧ pX11_keep σ18 a0 b15 (fun r19 σ20 => Q r19 σ20))) ∧ (¬ x1 = ((2 : Int32)) → ∀ (b8 : Nat) (σ9 : Me), b8 = gz σ2 → σ9 = nw σ2 2 0 → pX2_init σ9 b8 x2 x3 (fun σ11 => gT σ11 a0 = 11 ∧ pX11_keep σ11 a0 b8 (fun r12 σ13 => Q r12 σ13))))) ∧ (¬ (gI σ2 a0 4) < ((12 : Int32)) → Q ((-2 : Int32)) σ2)))
set_option maxHeartbeats 4000000 in
set_option maxRecDepth 100000 in
theorem wX11_rule {p : Program} {l : Launch} {e : Env} {s : State} {m : MethodId} {args : Array Value} {below : List Frame} {meth : Method} {c : Code} {D : va_G} {cA : Nat → ClassId} {z0 : Nat} (hX : Cx p m c cX11_rule 4 s args RX11 D cA) (hlk : meth.locks = false) (hr : meth.sig.returnType = (some .int)) {σ : Me} {a0 : Nat} {x1 : Int32} {x2 : Int32} {x3 : Int32} {Q : Int32 → Me → Prop} (h : pX11_rule σ a0 x1 x2 x3 Q) {H : Heap} {locs : List Loc} {ls : Array Slot} (hw : wS D cA z0 s σ H locs) (hl : lv_has ls 4 [(0, .ref a0), (1, .int x1), (2, .int x2), (3, .int x3)]) : W p l e rX11_rule s m args below meth c H locs 0 0 (MQ below (va_Qi Q (BM D cA z0) (AM z0)) args s 1 2 (AM z0)) (F0 m 0 ls []) := by
  have hx := hX.1.1
  have hb := hX.1.2.1
  have hown := hX.1.2.2.2.1
  have hts := hX.1.2.2.2.2
  unfold pX11_rule at h
  refine lv_iload_n hx hb dX11_rule_0 rfl (lv_at hl 1 rfl) ?_
  refine lv_iload_n hx hb dX11_rule_1 rfl (lv_at hl 2 rfl) ?_
  refine lv_iload_n hx hb dX11_rule_2 rfl (lv_at hl 3 rfl) ?_
  refine m_ci (m_runS (rest := []) hX hw (tX11_isRuleOf h) mtX11_isRuleOf k_405 k_406 ⟨⟨rfl, rfl, Nat.le_of_ble_eq_true rfl, Nat.le_of_ble_eq_true rfl⟩, Nat.le_of_ble_eq_true rfl, Nat.le_of_ble_eq_true rfl⟩ rfl hl.1 rfl (Nat.le_of_ble_eq_true rfl) dX11_rule_3) hw (fun r1 σ2 H locs h hw => ?_)
  refine lv_if_ne (tgt := 11) hx hb dX11_rule_6 (by decide) (fun hc3 => ?_) (fun hc3 => ?_)
  · have h := h.2 hc3
    refine lv_aload_n hx hb dX11_rule_11 rfl (lv_at hl 0 rfl) ?_
    obtain ⟨hT4, h⟩ := h
    refine m_get hX hw cl11 hT4 4 (by decide) k_253 (fun _ h => h) (v := .int _) rfl dX11_rule_12 ?_
    refine lv_bipush (v := 12) hx hb dX11_rule_15 (by decide) ?_
    refine lv_icmp_lt (tgt := 23) hx hb dX11_rule_17 (by decide) (fun hc5 => ?_) (fun hc5 => ?_)
    · have h := h.1 hc5
      refine lv_iload_n hx hb dX11_rule_23 rfl (lv_at hl 1 rfl) ?_
      refine lv_iconst (v := 1) hx hb dX11_rule_24 (by decide) ?_
      refine lv_icmp_ne (tgt := 41) hx hb dX11_rule_25 (by decide) (fun hc6 => ?_) (fun hc6 => ?_)
      · have h := h.2 hc6
        refine lv_iload_n hx hb dX11_rule_41 rfl (lv_at hl 1 rfl) ?_
        refine lv_iconst (v := 2) hx hb dX11_rule_42 (by decide) ?_
        refine lv_icmp_ne (tgt := 62) hx hb dX11_rule_43 (by decide) (fun hc7 => ?_) (fun hc7 => ?_)
        · have h := h.2 hc7
          refine lv_aload_n hx hb dX11_rule_62 rfl (lv_at hl 0 rfl) ?_
          refine m_new hX hw cl2 (by decide) k_434 k_435 k_57 ⟨Nat.le_of_ble_eq_true rfl, Nat.le_of_ble_eq_true rfl⟩ dX11_rule_63 (fun H hw => ?_)
          let b8 : Nat := gz σ2
          let σ9 : Me := nw σ2 2 0
          have h := h b8 σ9 rfl rfl
          have hw : wS D cA z0 s σ9 H locs := hw
          refine lv_dup hx hb dX11_rule_66 rfl ?_
          refine lv_iload_n hx hb dX11_rule_67 rfl (lv_at hl 2 rfl) ?_
          refine lv_iload_n hx hb dX11_rule_68 rfl (lv_at hl 3 rfl) ?_
          refine m_cv (m_runI (rest := [_, _]) hX hw (tX2_init h) mtX2_init k_436 k_437 rfl ⟨⟨rfl, rfl, Nat.le_of_ble_eq_true rfl, Nat.le_of_ble_eq_true rfl⟩, Nat.le_of_ble_eq_true rfl, Nat.le_of_ble_eq_true rfl⟩ rfl hl.1 rfl (Nat.le_of_ble_eq_true rfl) dX11_rule_69) hw (fun σ11 H locs h hw => ?_)
          obtain ⟨hT14, h⟩ := h
          refine m_ci (m_runV (rest := []) hX hw (tX11_keep h) mtX11_keep k_397 ⟨k_399, k_1⟩ cl11 hT14 ⟨⟨rfl, rfl, Nat.le_of_ble_eq_true rfl, Nat.le_of_ble_eq_true rfl⟩, Nat.le_of_ble_eq_true rfl, Nat.le_of_ble_eq_true rfl⟩ rfl hl.1 rfl (Nat.le_of_ble_eq_true rfl) dX11_rule_72) hw (fun r12 σ13 H locs h hw => ?_)
          refine W.widen (k := 1) (n := 2) (Nat.le_of_ble_eq_true rfl) (Nat.le_of_ble_eq_true rfl) ?_
          exact m_iret hX hlk hr hw h dX11_rule_75
        · have h := h.1 hc7
          refine lv_aload_n hx hb dX11_rule_46 rfl (lv_at hl 0 rfl) ?_
          refine m_new hX hw cl3 (by decide) k_422 k_423 k_56 ⟨Nat.le_of_ble_eq_true rfl, Nat.le_of_ble_eq_true rfl⟩ dX11_rule_47 (fun H hw => ?_)
          let b15 : Nat := gz σ2
          let σ16 : Me := nw σ2 3 0
          have h := h b15 σ16 rfl rfl
          have hw : wS D cA z0 s σ16 H locs := hw
          refine lv_dup hx hb dX11_rule_50 rfl ?_
          refine lv_iload_n hx hb dX11_rule_51 rfl (lv_at hl 2 rfl) ?_
          refine lv_iload_n hx hb dX11_rule_52 rfl (lv_at hl 3 rfl) ?_
          refine m_cv (m_runI (rest := [_, _]) hX hw (tX3_init h) mtX3_init k_424 k_425 rfl ⟨⟨rfl, rfl, Nat.le_of_ble_eq_true rfl, Nat.le_of_ble_eq_true rfl⟩, Nat.le_of_ble_eq_true rfl, Nat.le_of_ble_eq_true rfl⟩ rfl hl.1 rfl (Nat.le_of_ble_eq_true rfl) dX11_rule_53) hw (fun σ18 H locs h hw => ?_)
          obtain ⟨hT21, h⟩ := h
          refine m_ci (m_runV (rest := []) hX hw (tX11_keep h) mtX11_keep k_397 ⟨k_399, k_1⟩ cl11 hT21 ⟨⟨rfl, rfl, Nat.le_of_ble_eq_true rfl, Nat.le_of_ble_eq_true rfl⟩, Nat.le_of_ble_eq_true rfl, Nat.le_of_ble_eq_true rfl⟩ rfl hl.1 rfl (Nat.le_of_ble_eq_true rfl) dX11_rule_56) hw (fun r19 σ20 H locs h hw => ?_)
          refine lv_goto (tgt := 75) hx hb dX11_rule_59 (by decide) ?_
          refine W.widen (k := 1) (n := 2) (Nat.le_of_ble_eq_true rfl) (Nat.le_of_ble_eq_true rfl) ?_
          exact m_iret hX hlk hr hw h dX11_rule_75
      · have h := h.1 hc6
        refine lv_aload_n hx hb dX11_rule_28 rfl (lv_at hl 0 rfl) ?_
        refine m_new hX hw cl0 (by decide) k_408 k_409 k_55 ⟨Nat.le_of_ble_eq_true rfl, Nat.le_of_ble_eq_true rfl⟩ dX11_rule_29 (fun H hw => ?_)
        let b22 : Nat := gz σ2
        let σ23 : Me := nw σ2 0 0
        have h := h b22 σ23 rfl rfl
        have hw : wS D cA z0 s σ23 H locs := hw
        refine lv_dup hx hb dX11_rule_32 rfl ?_
        refine lv_iload_n hx hb dX11_rule_33 rfl (lv_at hl 2 rfl) ?_
        refine m_cv (m_runI (rest := [_, _]) hX hw (tX0_init h) mtX0_init k_410 k_411 rfl ⟨⟨rfl, rfl, Nat.le_of_ble_eq_true rfl, Nat.le_of_ble_eq_true rfl⟩, Nat.le_of_ble_eq_true rfl, Nat.le_of_ble_eq_true rfl⟩ rfl hl.1 rfl (Nat.le_of_ble_eq_true rfl) dX11_rule_34) hw (fun σ25 H locs h hw => ?_)
        obtain ⟨hT28, h⟩ := h
        refine m_ci (m_runV (rest := []) hX hw (tX11_keep h) mtX11_keep k_397 ⟨k_399, k_1⟩ cl11 hT28 ⟨⟨rfl, rfl, Nat.le_of_ble_eq_true rfl, Nat.le_of_ble_eq_true rfl⟩, Nat.le_of_ble_eq_true rfl, Nat.le_of_ble_eq_true rfl⟩ rfl hl.1 rfl (Nat.le_of_ble_eq_true rfl) dX11_rule_37) hw (fun r26 σ27 H locs h hw => ?_)
        refine W.widen (k := 1) (n := 2) (Nat.le_of_ble_eq_true rfl) (Nat.le_of_ble_eq_true rfl) ?_
        exact m_iret hX hlk hr hw h dX11_rule_40
    · have h := h.2 hc5
      refine lv_bipush (v := (-2)) hx hb dX11_rule_20 (by decide) ?_
      refine W.widen (k := 1) (n := 2) (Nat.le_of_ble_eq_true rfl) (Nat.le_of_ble_eq_true rfl) ?_
      exact m_iret hX hlk hr hw h dX11_rule_22
  · have h := h.1 hc3
    refine lv_iconst (v := (-1)) hx hb dX11_rule_9 (by decide) ?_
    refine W.widen (k := 1) (n := 2) (Nat.le_of_ble_eq_true rfl) (Nat.le_of_ble_eq_true rfl) ?_
    exact m_iret hX hlk hr hw h dX11_rule_10
theorem mtX11_rule : Mth yX11_rule cX11_rule 4 (some .int) 3 := ⟨k_404, k_43, by decide +kernel⟩
theorem tX11_rule {l : Launch} {D : va_G} {cA : Nat → ClassId} {z0 : Nat} {σ : Me} {a0 : Nat} {x1 : Int32} {x2 : Int32} {x3 : Int32} {Q : Int32 → Me → Prop} (h : pX11_rule σ a0 x1 x2 x3 Q) : Met l yX11_rule (Cond.code yX11_rule cX11_rule 4 (some .int) :: gTab) rX11_rule (PcM D cA z0 σ [.ref a0, .int x1, .int x2, .int x3]) (va_Qi Q (BM D cA z0) (AM z0)) 1 2 (AM z0) :=
  met_of (by decide) (Nat.le_of_ble_eq_true rfl) (fun hX hlk hr hn hw hl => wX11_rule hX hlk hr h hw hl)
abbrev rX11_drop : Room := { frames := 2, cells := 0, slots := 0, locals := 43 }
def pX11_drop (σ : Me) (a0 : Nat) (x1 : Int32) (Q : Int32 → Me → Prop) : Prop := gT σ a0 = 11 ∧ pX11_isRule σ a0 x1 (fun r1 σ2 => (r1 = 0 → Q ((-1 : Int32)) σ2) ∧ (¬ r1 = 0 → gT σ2 a0 = 11 ∧ ∃ b6 : Nat, gP σ2 a0 3 = some b6 ∧ gT σ2 b6 = 25 ∧ vp_in x1 (gN σ2 b6) ∧ (gP σ2 b6 x1.toNatClampNeg = none → pX11_refuse σ2 a0 ((1 : Int32)) (fun r10 σ11 => Q r10 σ11)) ∧ (∀ b9 : Nat, gP σ2 b6 x1.toNatClampNeg = some b9 → vp_in x1 (gN σ2 b6) ∧ ∀ σ13 : Me, σ13 = sP σ2 b6 x1.toNatClampNeg none → Q ((1 : Int32)) σ13)))
set_option maxHeartbeats 4000000 in
set_option maxRecDepth 100000 in
theorem wX11_drop {p : Program} {l : Launch} {e : Env} {s : State} {m : MethodId} {args : Array Value} {below : List Frame} {meth : Method} {c : Code} {D : va_G} {cA : Nat → ClassId} {z0 : Nat} (hX : Cx p m c cX11_drop 2 s args RX11 D cA) (hlk : meth.locks = false) (hr : meth.sig.returnType = (some .int)) {σ : Me} {a0 : Nat} {x1 : Int32} {Q : Int32 → Me → Prop} (h : pX11_drop σ a0 x1 Q) {H : Heap} {locs : List Loc} {ls : Array Slot} (hw : wS D cA z0 s σ H locs) (hl : lv_has ls 2 [(0, .ref a0), (1, .int x1)]) : W p l e rX11_drop s m args below meth c H locs 0 0 (MQ below (va_Qi Q (BM D cA z0) (AM z0)) args s 0 0 (AM z0)) (F0 m 0 ls []) := by
  have hx := hX.1.1
  have hb := hX.1.2.1
  have hown := hX.1.2.2.2.1
  have hts := hX.1.2.2.2.2
  unfold pX11_drop at h
  refine lv_aload_n hx hb dX11_drop_0 rfl (lv_at hl 0 rfl) ?_
  refine lv_iload_n hx hb dX11_drop_1 rfl (lv_at hl 1 rfl) ?_
  obtain ⟨hT3, h⟩ := h
  refine m_ci (m_runV (rest := []) hX hw (tX11_isRule h) mtX11_isRule k_452 ⟨k_454, k_2⟩ cl11 hT3 ⟨⟨rfl, rfl, Nat.le_of_ble_eq_true rfl, Nat.le_of_ble_eq_true rfl⟩, Nat.le_of_ble_eq_true rfl, Nat.le_of_ble_eq_true rfl⟩ rfl hl.1 rfl (Nat.le_of_ble_eq_true rfl) dX11_drop_2) hw (fun r1 σ2 H locs h hw => ?_)
  refine lv_if_ne (tgt := 10) hx hb dX11_drop_5 (by decide) (fun hc4 => ?_) (fun hc4 => ?_)
  · have h := h.2 hc4
    refine lv_aload_n hx hb dX11_drop_10 rfl (lv_at hl 0 rfl) ?_
    obtain ⟨hT5, h⟩ := h
    obtain ⟨b6, hb6, h⟩ := h
    refine m_get hX hw cl11 hT5 3 (by decide) k_252 (fun _ h => h) (v := .ref b6) (congrArg va_rf hb6) dX11_drop_11 ?_
    refine lv_iload_n hx hb dX11_drop_14 rfl (lv_at hl 1 rfl) ?_
    obtain ⟨hT7, h⟩ := h
    obtain ⟨hc8, h⟩ := h
    refine m_aald hX hw (t := 5) (by decide) hT7 hc8 dX11_drop_15 ?_
    refine m_ifnonnull (tgt := 25) hX dX11_drop_16 (by decide) (fun b9 hb9 => ?_) (fun hn => ?_)
    · have h := h.2 b9 hb9
      refine lv_aload_n hx hb dX11_drop_25 rfl (lv_at hl 0 rfl) ?_
      refine m_get hX hw cl11 hT5 3 (by decide) k_252 (fun _ h => h) (v := .ref b6) (congrArg va_rf hb6) dX11_drop_26 ?_
      refine lv_iload_n hx hb dX11_drop_29 rfl (lv_at hl 1 rfl) ?_
      refine lv_null hx hb dX11_drop_30 ?_
      obtain ⟨hc12, h⟩ := h
      refine m_aastN hX hw hT7 hc12 dX11_drop_31 (fun H locs hw => ?_)
      let σ13 : Me := sP σ2 b6 x1.toNatClampNeg none
      have h := h σ13 rfl
      have hw : wS D cA z0 s σ13 H locs := hw
      refine lv_iconst (v := 1) hx hb dX11_drop_32 (by decide) ?_
      exact m_iret hX hlk hr hw h dX11_drop_33
    · have h := h.1 hn
      refine lv_aload_n hx hb dX11_drop_19 rfl (lv_at hl 0 rfl) ?_
      refine lv_iconst (v := 1) hx hb dX11_drop_20 (by decide) ?_
      refine m_ci (m_runV (rest := []) hX hw (tX11_refuse h) mtX11_refuse k_322 ⟨k_324, k_0⟩ cl11 hT5 ⟨⟨rfl, rfl, Nat.le_of_ble_eq_true rfl, Nat.le_of_ble_eq_true rfl⟩, Nat.le_of_ble_eq_true rfl, Nat.le_of_ble_eq_true rfl⟩ rfl hl.1 rfl (Nat.le_of_ble_eq_true rfl) dX11_drop_21) hw (fun r10 σ11 H locs h hw => ?_)
      exact m_iret hX hlk hr hw h dX11_drop_24
  · have h := h.1 hc4
    refine lv_iconst (v := (-1)) hx hb dX11_drop_8 (by decide) ?_
    exact m_iret hX hlk hr hw h dX11_drop_9
theorem mtX11_drop : Mth yX11_drop cX11_drop 2 (some .int) 1 := ⟨k_451, k_43, by decide +kernel⟩
theorem tX11_drop {l : Launch} {D : va_G} {cA : Nat → ClassId} {z0 : Nat} {σ : Me} {a0 : Nat} {x1 : Int32} {Q : Int32 → Me → Prop} (h : pX11_drop σ a0 x1 Q) : Met l yX11_drop (Cond.code yX11_drop cX11_drop 2 (some .int) :: gTab) rX11_drop (PcM D cA z0 σ [.ref a0, .int x1]) (va_Qi Q (BM D cA z0) (AM z0)) 0 0 (AM z0) :=
  met_of (by decide) (Nat.le_of_ble_eq_true rfl) (fun hX hlk hr hn hw hl => wX11_drop hX hlk hr h hw hl)
abbrev rX11_mark : Room := { frames := 2, cells := 0, slots := 0, locals := 43 }
def pX11_mark (σ : Me) (a0 : Nat) (x1 : Int32) (x2 : Int32) (Q : Int32 → Me → Prop) : Prop := gT σ a0 = 11 ∧ pX11_isRule σ a0 x1 (fun r1 σ2 => (r1 = 0 → Q ((-1 : Int32)) σ2) ∧ (¬ r1 = 0 → pX11_isWithin σ2 x2 ((0 : Int32)) ((3 : Int32)) (fun r5 σ6 => (r5 = 0 → Q ((-1 : Int32)) σ6) ∧ (¬ r5 = 0 → gT σ6 a0 = 11 ∧ ∃ b9 : Nat, gP σ6 a0 3 = some b9 ∧ gT σ6 b9 = 25 ∧ vp_in x1 (gN σ6 b9) ∧ (gP σ6 b9 x1.toNatClampNeg = none → pX11_refuse σ6 a0 ((1 : Int32)) (fun r13 σ14 => Q r13 σ14)) ∧ (∀ b12 : Nat, gP σ6 b9 x1.toNatClampNeg = some b12 → (x2 = 0 → Q x1 σ6) ∧ (¬ x2 = 0 → (x2 = ((1 : Int32)) → (gT σ6 b12 = 0 ∨ gT σ6 b12 = 2 ∨ gT σ6 b12 = 3 ∨ gT σ6 b12 = 9) ∧ (((if gT σ6 b12 = 0 ∨ gT σ6 b12 = 3 then 1 else 0 : Int32)) = 0 → (x2 = ((2 : Int32)) → (gT σ6 b12 = 0 ∨ gT σ6 b12 = 2 ∨ gT σ6 b12 = 3 ∨ gT σ6 b12 = 9) ∧ (((if gT σ6 b12 = 3 then 1 else 0 : Int32)) = 0 → (x2 = ((3 : Int32)) → (gT σ6 b12 = 0 ∨ gT σ6 b12 = 2 ∨ gT σ6 b12 = 3 ∨ gT σ6 b12 = 9) ∧ (((if gT σ6 b12 = 2 then 1 else 0 : Int32)) = 0 → pX11_refuse σ6 a0 ((3 : Int32)) (fun r55 σ56 => Q r55 σ56)) ∧ (¬ ((if gT σ6 b12 = 2 then 1 else 0 : Int32)) = 0 → gT σ6 b12 = 2 ∧ Q (gI σ6 b12 1) σ6)) ∧ (¬ x2 = ((3 : Int32)) → pX11_refuse σ6 a0 ((3 : Int32)) (fun r51 σ52 => Q r51 σ52))) ∧ (¬ ((if gT σ6 b12 = 3 then 1 else 0 : Int32)) = 0 → gT σ6 b12 = 3 ∧ Q ((gI σ6 b12 0) - (gI σ6 b12 1)) σ6)) ∧ (¬ x2 = ((2 : Int32)) → (x2 = ((3 : Int32)) → (gT σ6 b12 = 0 ∨ gT σ6 b12 = 2 ∨ gT σ6 b12 = 3 ∨ gT σ6 b12 = 9) ∧ (((if gT σ6 b12 = 2 then 1 else 0 : Int32)) = 0 → pX11_refuse σ6 a0 ((3 : Int32)) (fun r45 σ46 => Q r45 σ46)) ∧ (¬ ((if gT σ6 b12 = 2 then 1 else 0 : Int32)) = 0 → gT σ6 b12 = 2 ∧ Q (gI σ6 b12 1) σ6)) ∧ (¬ x2 = ((3 : Int32)) → pX11_refuse σ6 a0 ((3 : Int32)) (fun r41 σ42 => Q r41 σ42)))) ∧ (¬ ((if gT σ6 b12 = 0 ∨ gT σ6 b12 = 3 then 1 else 0 : Int32)) = 0 → (gT σ6 b12 = 0 ∨ gT σ6 b12 = 3) ∧ Q (gI σ6 b12 0) σ6)) ∧ (¬ x2 = ((1 : Int32)) → (x2 = ((2 : Int32)) → (gT σ6 b12 = 0 ∨ gT σ6 b12 = 2 ∨ gT σ6 b12 = 3 ∨ gT σ6 b12 = 9) ∧ (((if gT σ6 b12 = 3 then 1 else 0 : Int32)) = 0 → (x2 = ((3 : Int32)) → (gT σ6 b12 = 0 ∨ gT σ6 b12 = 2 ∨ gT σ6 b12 = 3 ∨ gT σ6 b12 = 9) ∧ (((if gT σ6 b12 = 2 then 1 else 0 : Int32)) = 0 → pX11_refuse σ6 a0 ((3 : Int32)) (fun r33 σ34 => Q r33 σ34)) ∧ (¬ ((if gT σ6 b12 = 2 then 1 else 0 : Int32)) = 0 → gT σ6 b12 = 2 ∧ Q (gI σ6 b12 1) σ6)) ∧ (¬ x2 = ((3 : Int32)) → pX11_refuse σ6 a0 ((3 : Int32)) (fun r29 σ30 => Q r29 σ30))) ∧ (¬ ((if gT σ6 b12 = 3 then 1 else 0 : Int32)) = 0 → gT σ6 b12 = 3 ∧ Q ((gI σ6 b12 0) - (gI σ6 b12 1)) σ6)) ∧ (¬ x2 = ((2 : Int32)) → (x2 = ((3 : Int32)) → (gT σ6 b12 = 0 ∨ gT σ6 b12 = 2 ∨ gT σ6 b12 = 3 ∨ gT σ6 b12 = 9) ∧ (((if gT σ6 b12 = 2 then 1 else 0 : Int32)) = 0 → pX11_refuse σ6 a0 ((3 : Int32)) (fun r23 σ24 => Q r23 σ24)) ∧ (¬ ((if gT σ6 b12 = 2 then 1 else 0 : Int32)) = 0 → gT σ6 b12 = 2 ∧ Q (gI σ6 b12 1) σ6)) ∧ (¬ x2 = ((3 : Int32)) → pX11_refuse σ6 a0 ((3 : Int32)) (fun r19 σ20 => Q r19 σ20))))))))))
set_option maxHeartbeats 4000000 in
set_option maxRecDepth 100000 in
theorem wX11_mark {p : Program} {l : Launch} {e : Env} {s : State} {m : MethodId} {args : Array Value} {below : List Frame} {meth : Method} {c : Code} {D : va_G} {cA : Nat → ClassId} {z0 : Nat} (hX : Cx p m c cX11_mark 5 s args RX11 D cA) (hlk : meth.locks = false) (hr : meth.sig.returnType = (some .int)) {σ : Me} {a0 : Nat} {x1 : Int32} {x2 : Int32} {Q : Int32 → Me → Prop} (h : pX11_mark σ a0 x1 x2 Q) {H : Heap} {locs : List Loc} {ls : Array Slot} (hw : wS D cA z0 s σ H locs) (hl : lv_has ls 5 [(0, .ref a0), (1, .int x1), (2, .int x2)]) : W p l e rX11_mark s m args below meth c H locs 0 0 (MQ below (va_Qi Q (BM D cA z0) (AM z0)) args s 0 0 (AM z0)) (F0 m 0 ls []) := by
  have hx := hX.1.1
  have hb := hX.1.2.1
  have hown := hX.1.2.2.2.1
  have hts := hX.1.2.2.2.2
  unfold pX11_mark at h
  refine lv_aload_n hx hb dX11_mark_0 rfl (lv_at hl 0 rfl) ?_
  refine lv_iload_n hx hb dX11_mark_1 rfl (lv_at hl 1 rfl) ?_
  obtain ⟨hT3, h⟩ := h
  refine m_ci (m_runV (rest := []) hX hw (tX11_isRule h) mtX11_isRule k_452 ⟨k_454, k_2⟩ cl11 hT3 ⟨⟨rfl, rfl, Nat.le_of_ble_eq_true rfl, Nat.le_of_ble_eq_true rfl⟩, Nat.le_of_ble_eq_true rfl, Nat.le_of_ble_eq_true rfl⟩ rfl hl.1 rfl (Nat.le_of_ble_eq_true rfl) dX11_mark_2) hw (fun r1 σ2 H locs h hw => ?_)
  refine lv_if_eq (tgt := 17) hx hb dX11_mark_5 (by decide) (fun hc4 => ?_) (fun hc4 => ?_)
  · have h := h.1 hc4
    refine lv_iconst (v := (-1)) hx hb dX11_mark_17 (by decide) ?_
    exact m_iret hX hlk hr hw h dX11_mark_18
  · have h := h.2 hc4
    refine lv_iload_n hx hb dX11_mark_8 rfl (lv_at hl 2 rfl) ?_
    refine lv_iconst (v := 0) hx hb dX11_mark_9 (by decide) ?_
    refine lv_iconst (v := 3) hx hb dX11_mark_10 (by decide) ?_
    refine m_ci (m_runS (rest := []) hX hw (tX11_isWithin h) mtX11_isWithin k_311 k_312 ⟨⟨rfl, rfl, Nat.le_of_ble_eq_true rfl, Nat.le_of_ble_eq_true rfl⟩, Nat.le_of_ble_eq_true rfl, Nat.le_of_ble_eq_true rfl⟩ rfl hl.1 rfl (Nat.le_of_ble_eq_true rfl) dX11_mark_11) hw (fun r5 σ6 H locs h hw => ?_)
    refine lv_if_ne (tgt := 19) hx hb dX11_mark_14 (by decide) (fun hc7 => ?_) (fun hc7 => ?_)
    · have h := h.2 hc7
      refine lv_aload_n hx hb dX11_mark_19 rfl (lv_at hl 0 rfl) ?_
      obtain ⟨hT8, h⟩ := h
      obtain ⟨b9, hb9, h⟩ := h
      refine m_get hX hw cl11 hT8 3 (by decide) k_252 (fun _ h => h) (v := .ref b9) (congrArg va_rf hb9) dX11_mark_20 ?_
      refine lv_iload_n hx hb dX11_mark_23 rfl (lv_at hl 1 rfl) ?_
      obtain ⟨hT10, h⟩ := h
      obtain ⟨hc11, h⟩ := h
      refine m_aald hX hw (t := 5) (by decide) hT10 hc11 dX11_mark_24 ?_
      refine m_astoreQ_n (lv' := [(3, _), (0, _), (1, _), (2, _)]) hX dX11_mark_25 rfl hl (by decide) rfl (fun ls hl => ?_)
      refine m_aloadQ_n hX dX11_mark_26 rfl (lv_at hl 0 rfl) ?_
      refine m_ifnonnull (tgt := 36) hX dX11_mark_27 (by decide) (fun b12 hb12 => ?_) (fun hn => ?_)
      · have h := h.2 b12 hb12
        rw [hb12] at hl
        have hl : lv_has ls 5 [(3, .ref b12), (0, .ref a0), (1, .int x1), (2, .int x2)] := hl
        refine lv_iload_n hx hb dX11_mark_36 rfl (lv_at hl 3 rfl) ?_
        refine lv_if_ne (tgt := 42) hx hb dX11_mark_37 (by decide) (fun hc15 => ?_) (fun hc15 => ?_)
        · have h := h.2 hc15
          refine lv_iload_n hx hb dX11_mark_42 rfl (lv_at hl 3 rfl) ?_
          refine lv_iconst (v := 1) hx hb dX11_mark_43 (by decide) ?_
          refine lv_icmp_ne (tgt := 66) hx hb dX11_mark_44 (by decide) (fun hc16 => ?_) (fun hc16 => ?_)
          · have h := h.2 hc16
            refine lv_iload_n hx hb dX11_mark_66 rfl (lv_at hl 3 rfl) ?_
            refine lv_iconst (v := 2) hx hb dX11_mark_67 (by decide) ?_
            refine lv_icmp_ne (tgt := 96) hx hb dX11_mark_68 (by decide) (fun hc17 => ?_) (fun hc17 => ?_)
            · have h := h.2 hc17
              refine lv_iload_n hx hb dX11_mark_96 rfl (lv_at hl 3 rfl) ?_
              refine lv_iconst (v := 3) hx hb dX11_mark_97 (by decide) ?_
              refine lv_icmp_ne (tgt := 120) hx hb dX11_mark_98 (by decide) (fun hc18 => ?_) (fun hc18 => ?_)
              · have h := h.2 hc18
                refine lv_aload_n hx hb dX11_mark_120 rfl (lv_at hl 1 rfl) ?_
                refine lv_iconst (v := 3) hx hb dX11_mark_121 (by decide) ?_
                refine m_ci (m_runV (rest := []) hX hw (tX11_refuse h) mtX11_refuse k_322 ⟨k_324, k_0⟩ cl11 hT8 ⟨⟨rfl, rfl, Nat.le_of_ble_eq_true rfl, Nat.le_of_ble_eq_true rfl⟩, Nat.le_of_ble_eq_true rfl, Nat.le_of_ble_eq_true rfl⟩ rfl hl.1 rfl (Nat.le_of_ble_eq_true rfl) dX11_mark_122) hw (fun r19 σ20 H locs h hw => ?_)
                exact m_iret hX hlk hr hw h dX11_mark_125
              · have h := h.1 hc18
                refine lv_aload_n hx hb dX11_mark_101 rfl (lv_at hl 0 rfl) ?_
                obtain ⟨hc21, h⟩ := h
                refine m_instLot hX hw hc21 k_434 dX11_mark_102 ?_
                refine lv_if_eq (tgt := 120) hx hb dX11_mark_105 (by decide) (fun hc22 => ?_) (fun hc22 => ?_)
                · have h := h.1 hc22
                  refine lv_aload_n hx hb dX11_mark_120 rfl (lv_at hl 1 rfl) ?_
                  refine lv_iconst (v := 3) hx hb dX11_mark_121 (by decide) ?_
                  refine m_ci (m_runV (rest := []) hX hw (tX11_refuse h) mtX11_refuse k_322 ⟨k_324, k_0⟩ cl11 hT8 ⟨⟨rfl, rfl, Nat.le_of_ble_eq_true rfl, Nat.le_of_ble_eq_true rfl⟩, Nat.le_of_ble_eq_true rfl, Nat.le_of_ble_eq_true rfl⟩ rfl hl.1 rfl (Nat.le_of_ble_eq_true rfl) dX11_mark_122) hw (fun r23 σ24 H locs h hw => ?_)
                  exact m_iret hX hlk hr hw h dX11_mark_125
                · have h := h.2 hc22
                  refine lv_aload_n hx hb dX11_mark_108 rfl (lv_at hl 0 rfl) ?_
                  obtain ⟨hT25, h⟩ := h
                  refine m_castS hX hw cl2 hT25 k_434 dX11_mark_109 ?_
                  refine lv_astore (lv' := [(4, _), (3, _), (0, _), (1, _), (2, _)]) hx hb dX11_mark_112 hl (by decide) rfl (fun ls hl => ?_)
                  refine lv_aload hx hb dX11_mark_114 (lv_at hl 0 rfl) ?_
                  refine m_get hX hw cl2 hT25 1 (by decide) k_442 (fun _ h => h) (v := .int _) rfl dX11_mark_116 ?_
                  exact m_iret hX hlk hr hw h dX11_mark_119
            · have h := h.1 hc17
              refine lv_aload_n hx hb dX11_mark_71 rfl (lv_at hl 0 rfl) ?_
              obtain ⟨hc26, h⟩ := h
              refine m_instPair hX hw hc26 k_422 dX11_mark_72 ?_
              refine lv_if_eq (tgt := 96) hx hb dX11_mark_75 (by decide) (fun hc27 => ?_) (fun hc27 => ?_)
              · have h := h.1 hc27
                refine lv_iload_n hx hb dX11_mark_96 rfl (lv_at hl 3 rfl) ?_
                refine lv_iconst (v := 3) hx hb dX11_mark_97 (by decide) ?_
                refine lv_icmp_ne (tgt := 120) hx hb dX11_mark_98 (by decide) (fun hc28 => ?_) (fun hc28 => ?_)
                · have h := h.2 hc28
                  refine lv_aload_n hx hb dX11_mark_120 rfl (lv_at hl 1 rfl) ?_
                  refine lv_iconst (v := 3) hx hb dX11_mark_121 (by decide) ?_
                  refine m_ci (m_runV (rest := []) hX hw (tX11_refuse h) mtX11_refuse k_322 ⟨k_324, k_0⟩ cl11 hT8 ⟨⟨rfl, rfl, Nat.le_of_ble_eq_true rfl, Nat.le_of_ble_eq_true rfl⟩, Nat.le_of_ble_eq_true rfl, Nat.le_of_ble_eq_true rfl⟩ rfl hl.1 rfl (Nat.le_of_ble_eq_true rfl) dX11_mark_122) hw (fun r29 σ30 H locs h hw => ?_)
                  exact m_iret hX hlk hr hw h dX11_mark_125
                · have h := h.1 hc28
                  refine lv_aload_n hx hb dX11_mark_101 rfl (lv_at hl 0 rfl) ?_
                  obtain ⟨hc31, h⟩ := h
                  refine m_instLot hX hw hc31 k_434 dX11_mark_102 ?_
                  refine lv_if_eq (tgt := 120) hx hb dX11_mark_105 (by decide) (fun hc32 => ?_) (fun hc32 => ?_)
                  · have h := h.1 hc32
                    refine lv_aload_n hx hb dX11_mark_120 rfl (lv_at hl 1 rfl) ?_
                    refine lv_iconst (v := 3) hx hb dX11_mark_121 (by decide) ?_
                    refine m_ci (m_runV (rest := []) hX hw (tX11_refuse h) mtX11_refuse k_322 ⟨k_324, k_0⟩ cl11 hT8 ⟨⟨rfl, rfl, Nat.le_of_ble_eq_true rfl, Nat.le_of_ble_eq_true rfl⟩, Nat.le_of_ble_eq_true rfl, Nat.le_of_ble_eq_true rfl⟩ rfl hl.1 rfl (Nat.le_of_ble_eq_true rfl) dX11_mark_122) hw (fun r33 σ34 H locs h hw => ?_)
                    exact m_iret hX hlk hr hw h dX11_mark_125
                  · have h := h.2 hc32
                    refine lv_aload_n hx hb dX11_mark_108 rfl (lv_at hl 0 rfl) ?_
                    obtain ⟨hT35, h⟩ := h
                    refine m_castS hX hw cl2 hT35 k_434 dX11_mark_109 ?_
                    refine lv_astore (lv' := [(4, _), (3, _), (0, _), (1, _), (2, _)]) hx hb dX11_mark_112 hl (by decide) rfl (fun ls hl => ?_)
                    refine lv_aload hx hb dX11_mark_114 (lv_at hl 0 rfl) ?_
                    refine m_get hX hw cl2 hT35 1 (by decide) k_442 (fun _ h => h) (v := .int _) rfl dX11_mark_116 ?_
                    exact m_iret hX hlk hr hw h dX11_mark_119
              · have h := h.2 hc27
                refine lv_aload_n hx hb dX11_mark_78 rfl (lv_at hl 0 rfl) ?_
                obtain ⟨hT36, h⟩ := h
                refine m_castS hX hw cl3 hT36 k_422 dX11_mark_79 ?_
                refine lv_astore (lv' := [(4, _), (3, _), (0, _), (1, _), (2, _)]) hx hb dX11_mark_82 hl (by decide) rfl (fun ls hl => ?_)
                refine lv_aload hx hb dX11_mark_84 (lv_at hl 0 rfl) ?_
                refine m_get hX hw cl3 hT36 0 (by decide) k_418 (fun x hx => u_same (hts _ k_416) x hx) (v := .int _) rfl dX11_mark_86 ?_
                refine lv_aload hx hb dX11_mark_89 (lv_at hl 0 rfl) ?_
                refine m_get hX hw cl3 hT36 1 (by decide) k_429 (fun _ h => h) (v := .int _) rfl dX11_mark_91 ?_
                refine lv_isub hx hb dX11_mark_94 ?_
                exact m_iret hX hlk hr hw h dX11_mark_95
          · have h := h.1 hc16
            refine lv_aload_n hx hb dX11_mark_47 rfl (lv_at hl 0 rfl) ?_
            obtain ⟨hc37, h⟩ := h
            refine m_instBase hX hw hc37 k_408 dX11_mark_48 ?_
            refine lv_if_eq (tgt := 66) hx hb dX11_mark_51 (by decide) (fun hc38 => ?_) (fun hc38 => ?_)
            · have h := h.1 hc38
              refine lv_iload_n hx hb dX11_mark_66 rfl (lv_at hl 3 rfl) ?_
              refine lv_iconst (v := 2) hx hb dX11_mark_67 (by decide) ?_
              refine lv_icmp_ne (tgt := 96) hx hb dX11_mark_68 (by decide) (fun hc39 => ?_) (fun hc39 => ?_)
              · have h := h.2 hc39
                refine lv_iload_n hx hb dX11_mark_96 rfl (lv_at hl 3 rfl) ?_
                refine lv_iconst (v := 3) hx hb dX11_mark_97 (by decide) ?_
                refine lv_icmp_ne (tgt := 120) hx hb dX11_mark_98 (by decide) (fun hc40 => ?_) (fun hc40 => ?_)
                · have h := h.2 hc40
                  refine lv_aload_n hx hb dX11_mark_120 rfl (lv_at hl 1 rfl) ?_
                  refine lv_iconst (v := 3) hx hb dX11_mark_121 (by decide) ?_
                  refine m_ci (m_runV (rest := []) hX hw (tX11_refuse h) mtX11_refuse k_322 ⟨k_324, k_0⟩ cl11 hT8 ⟨⟨rfl, rfl, Nat.le_of_ble_eq_true rfl, Nat.le_of_ble_eq_true rfl⟩, Nat.le_of_ble_eq_true rfl, Nat.le_of_ble_eq_true rfl⟩ rfl hl.1 rfl (Nat.le_of_ble_eq_true rfl) dX11_mark_122) hw (fun r41 σ42 H locs h hw => ?_)
                  exact m_iret hX hlk hr hw h dX11_mark_125
                · have h := h.1 hc40
                  refine lv_aload_n hx hb dX11_mark_101 rfl (lv_at hl 0 rfl) ?_
                  obtain ⟨hc43, h⟩ := h
                  refine m_instLot hX hw hc43 k_434 dX11_mark_102 ?_
                  refine lv_if_eq (tgt := 120) hx hb dX11_mark_105 (by decide) (fun hc44 => ?_) (fun hc44 => ?_)
                  · have h := h.1 hc44
                    refine lv_aload_n hx hb dX11_mark_120 rfl (lv_at hl 1 rfl) ?_
                    refine lv_iconst (v := 3) hx hb dX11_mark_121 (by decide) ?_
                    refine m_ci (m_runV (rest := []) hX hw (tX11_refuse h) mtX11_refuse k_322 ⟨k_324, k_0⟩ cl11 hT8 ⟨⟨rfl, rfl, Nat.le_of_ble_eq_true rfl, Nat.le_of_ble_eq_true rfl⟩, Nat.le_of_ble_eq_true rfl, Nat.le_of_ble_eq_true rfl⟩ rfl hl.1 rfl (Nat.le_of_ble_eq_true rfl) dX11_mark_122) hw (fun r45 σ46 H locs h hw => ?_)
                    exact m_iret hX hlk hr hw h dX11_mark_125
                  · have h := h.2 hc44
                    refine lv_aload_n hx hb dX11_mark_108 rfl (lv_at hl 0 rfl) ?_
                    obtain ⟨hT47, h⟩ := h
                    refine m_castS hX hw cl2 hT47 k_434 dX11_mark_109 ?_
                    refine lv_astore (lv' := [(4, _), (3, _), (0, _), (1, _), (2, _)]) hx hb dX11_mark_112 hl (by decide) rfl (fun ls hl => ?_)
                    refine lv_aload hx hb dX11_mark_114 (lv_at hl 0 rfl) ?_
                    refine m_get hX hw cl2 hT47 1 (by decide) k_442 (fun _ h => h) (v := .int _) rfl dX11_mark_116 ?_
                    exact m_iret hX hlk hr hw h dX11_mark_119
              · have h := h.1 hc39
                refine lv_aload_n hx hb dX11_mark_71 rfl (lv_at hl 0 rfl) ?_
                obtain ⟨hc48, h⟩ := h
                refine m_instPair hX hw hc48 k_422 dX11_mark_72 ?_
                refine lv_if_eq (tgt := 96) hx hb dX11_mark_75 (by decide) (fun hc49 => ?_) (fun hc49 => ?_)
                · have h := h.1 hc49
                  refine lv_iload_n hx hb dX11_mark_96 rfl (lv_at hl 3 rfl) ?_
                  refine lv_iconst (v := 3) hx hb dX11_mark_97 (by decide) ?_
                  refine lv_icmp_ne (tgt := 120) hx hb dX11_mark_98 (by decide) (fun hc50 => ?_) (fun hc50 => ?_)
                  · have h := h.2 hc50
                    refine lv_aload_n hx hb dX11_mark_120 rfl (lv_at hl 1 rfl) ?_
                    refine lv_iconst (v := 3) hx hb dX11_mark_121 (by decide) ?_
                    refine m_ci (m_runV (rest := []) hX hw (tX11_refuse h) mtX11_refuse k_322 ⟨k_324, k_0⟩ cl11 hT8 ⟨⟨rfl, rfl, Nat.le_of_ble_eq_true rfl, Nat.le_of_ble_eq_true rfl⟩, Nat.le_of_ble_eq_true rfl, Nat.le_of_ble_eq_true rfl⟩ rfl hl.1 rfl (Nat.le_of_ble_eq_true rfl) dX11_mark_122) hw (fun r51 σ52 H locs h hw => ?_)
                    exact m_iret hX hlk hr hw h dX11_mark_125
                  · have h := h.1 hc50
                    refine lv_aload_n hx hb dX11_mark_101 rfl (lv_at hl 0 rfl) ?_
                    obtain ⟨hc53, h⟩ := h
                    refine m_instLot hX hw hc53 k_434 dX11_mark_102 ?_
                    refine lv_if_eq (tgt := 120) hx hb dX11_mark_105 (by decide) (fun hc54 => ?_) (fun hc54 => ?_)
                    · have h := h.1 hc54
                      refine lv_aload_n hx hb dX11_mark_120 rfl (lv_at hl 1 rfl) ?_
                      refine lv_iconst (v := 3) hx hb dX11_mark_121 (by decide) ?_
                      refine m_ci (m_runV (rest := []) hX hw (tX11_refuse h) mtX11_refuse k_322 ⟨k_324, k_0⟩ cl11 hT8 ⟨⟨rfl, rfl, Nat.le_of_ble_eq_true rfl, Nat.le_of_ble_eq_true rfl⟩, Nat.le_of_ble_eq_true rfl, Nat.le_of_ble_eq_true rfl⟩ rfl hl.1 rfl (Nat.le_of_ble_eq_true rfl) dX11_mark_122) hw (fun r55 σ56 H locs h hw => ?_)
                      exact m_iret hX hlk hr hw h dX11_mark_125
                    · have h := h.2 hc54
                      refine lv_aload_n hx hb dX11_mark_108 rfl (lv_at hl 0 rfl) ?_
                      obtain ⟨hT57, h⟩ := h
                      refine m_castS hX hw cl2 hT57 k_434 dX11_mark_109 ?_
                      refine lv_astore (lv' := [(4, _), (3, _), (0, _), (1, _), (2, _)]) hx hb dX11_mark_112 hl (by decide) rfl (fun ls hl => ?_)
                      refine lv_aload hx hb dX11_mark_114 (lv_at hl 0 rfl) ?_
                      refine m_get hX hw cl2 hT57 1 (by decide) k_442 (fun _ h => h) (v := .int _) rfl dX11_mark_116 ?_
                      exact m_iret hX hlk hr hw h dX11_mark_119
                · have h := h.2 hc49
                  refine lv_aload_n hx hb dX11_mark_78 rfl (lv_at hl 0 rfl) ?_
                  obtain ⟨hT58, h⟩ := h
                  refine m_castS hX hw cl3 hT58 k_422 dX11_mark_79 ?_
                  refine lv_astore (lv' := [(4, _), (3, _), (0, _), (1, _), (2, _)]) hx hb dX11_mark_82 hl (by decide) rfl (fun ls hl => ?_)
                  refine lv_aload hx hb dX11_mark_84 (lv_at hl 0 rfl) ?_
                  refine m_get hX hw cl3 hT58 0 (by decide) k_418 (fun x hx => u_same (hts _ k_416) x hx) (v := .int _) rfl dX11_mark_86 ?_
                  refine lv_aload hx hb dX11_mark_89 (lv_at hl 0 rfl) ?_
                  refine m_get hX hw cl3 hT58 1 (by decide) k_429 (fun _ h => h) (v := .int _) rfl dX11_mark_91 ?_
                  refine lv_isub hx hb dX11_mark_94 ?_
                  exact m_iret hX hlk hr hw h dX11_mark_95
            · have h := h.2 hc38
              refine lv_aload_n hx hb dX11_mark_54 rfl (lv_at hl 0 rfl) ?_
              obtain ⟨hc59, h⟩ := h
              refine m_castBase hX hw hc59 k_408 dX11_mark_55 ?_
              refine lv_astore (lv' := [(4, _), (3, _), (0, _), (1, _), (2, _)]) hx hb dX11_mark_58 hl (by decide) rfl (fun ls hl => ?_)
              refine lv_aload hx hb dX11_mark_60 (lv_at hl 0 rfl) ?_
              refine m_getTop hX hw hc59 k_417 dX11_mark_62 ?_
              exact m_iret hX hlk hr hw h dX11_mark_65
        · have h := h.1 hc15
          refine lv_iload_n hx hb dX11_mark_40 rfl (lv_at hl 2 rfl) ?_
          exact m_iret hX hlk hr hw h dX11_mark_41
      · have h := h.1 hn
        refine lv_aload_n hx hb dX11_mark_30 rfl (lv_at hl 1 rfl) ?_
        refine lv_iconst (v := 1) hx hb dX11_mark_31 (by decide) ?_
        refine m_ci (m_runV (rest := []) hX hw (tX11_refuse h) mtX11_refuse k_322 ⟨k_324, k_0⟩ cl11 hT8 ⟨⟨rfl, rfl, Nat.le_of_ble_eq_true rfl, Nat.le_of_ble_eq_true rfl⟩, Nat.le_of_ble_eq_true rfl, Nat.le_of_ble_eq_true rfl⟩ rfl hl.1 rfl (Nat.le_of_ble_eq_true rfl) dX11_mark_32) hw (fun r13 σ14 H locs h hw => ?_)
        exact m_iret hX hlk hr hw h dX11_mark_35
    · have h := h.1 hc7
      refine lv_iconst (v := (-1)) hx hb dX11_mark_17 (by decide) ?_
      exact m_iret hX hlk hr hw h dX11_mark_18
theorem mtX11_mark : Mth yX11_mark cX11_mark 5 (some .int) 2 := ⟨k_524, k_43, by decide +kernel⟩
theorem tX11_mark {l : Launch} {D : va_G} {cA : Nat → ClassId} {z0 : Nat} {σ : Me} {a0 : Nat} {x1 : Int32} {x2 : Int32} {Q : Int32 → Me → Prop} (h : pX11_mark σ a0 x1 x2 Q) : Met l yX11_mark (Cond.code yX11_mark cX11_mark 5 (some .int) :: gTab) rX11_mark (PcM D cA z0 σ [.ref a0, .int x1, .int x2]) (va_Qi Q (BM D cA z0) (AM z0)) 0 0 (AM z0) :=
  met_of (by decide) (Nat.le_of_ble_eq_true rfl) (fun hX hlk hr hn hw hl => wX11_mark hX hlk hr h hw hl)
abbrev rX11_shop : Room := { frames := 1, cells := 0, slots := 0, locals := 22 }
def pX11_shop (σ : Me) (a0 : Nat) (x1 : Int32) (x2 : Int32) (x3 : Int32) (Q : Int32 → Me → Prop) : Prop := pX11_isWithin σ x1 ((1 : Int32)) ((12 : Int32)) (fun r1 σ2 => (r1 = 0 → Q ((-1 : Int32)) σ2) ∧ (¬ r1 = 0 → pX11_isWithin σ2 x2 ((0 : Int32)) ((2 : Int32)) (fun r4 σ5 => (r4 = 0 → Q ((-1 : Int32)) σ5) ∧ (¬ r4 = 0 → gT σ5 a0 = 11 ∧ ∃ b8 : Nat, gP σ5 a0 5 = some b8 ∧ gT σ5 b8 = 6 ∧ ∀ σ10 : Me, σ10 = sI σ5 b8 0 x1 → ∀ σ11 : Me, σ11 = sI σ10 b8 1 x2 → (x3 = 0 ∨ x3 = 1) ∧ ∀ σ13 : Me, σ13 = sI σ11 b8 2 x3 → Q ((1 : Int32)) σ13))))
set_option maxHeartbeats 4000000 in
set_option maxRecDepth 100000 in
theorem wX11_shop {p : Program} {l : Launch} {e : Env} {s : State} {m : MethodId} {args : Array Value} {below : List Frame} {meth : Method} {c : Code} {D : va_G} {cA : Nat → ClassId} {z0 : Nat} (hX : Cx p m c cX11_shop 4 s args RX11 D cA) (hlk : meth.locks = false) (hr : meth.sig.returnType = (some .int)) {σ : Me} {a0 : Nat} {x1 : Int32} {x2 : Int32} {x3 : Int32} {Q : Int32 → Me → Prop} (h : pX11_shop σ a0 x1 x2 x3 Q) {H : Heap} {locs : List Loc} {ls : Array Slot} (hw : wS D cA z0 s σ H locs) (hl : lv_has ls 4 [(0, .ref a0), (1, .int x1), (2, .int x2), (3, .int x3)]) : W p l e rX11_shop s m args below meth c H locs 0 0 (MQ below (va_Qi Q (BM D cA z0) (AM z0)) args s 0 0 (AM z0)) (F0 m 0 ls []) := by
  have hx := hX.1.1
  have hb := hX.1.2.1
  have hown := hX.1.2.2.2.1
  have hts := hX.1.2.2.2.2
  unfold pX11_shop at h
  refine lv_iload_n hx hb dX11_shop_0 rfl (lv_at hl 1 rfl) ?_
  refine lv_iconst (v := 1) hx hb dX11_shop_1 (by decide) ?_
  refine lv_bipush (v := 12) hx hb dX11_shop_2 (by decide) ?_
  refine m_ci (m_runS (rest := []) hX hw (tX11_isWithin h) mtX11_isWithin k_311 k_312 ⟨⟨rfl, rfl, Nat.le_of_ble_eq_true rfl, Nat.le_of_ble_eq_true rfl⟩, Nat.le_of_ble_eq_true rfl, Nat.le_of_ble_eq_true rfl⟩ rfl hl.1 rfl (Nat.le_of_ble_eq_true rfl) dX11_shop_4) hw (fun r1 σ2 H locs h hw => ?_)
  refine lv_if_eq (tgt := 19) hx hb dX11_shop_7 (by decide) (fun hc3 => ?_) (fun hc3 => ?_)
  · have h := h.1 hc3
    refine lv_iconst (v := (-1)) hx hb dX11_shop_19 (by decide) ?_
    exact m_iret hX hlk hr hw h dX11_shop_20
  · have h := h.2 hc3
    refine lv_iload_n hx hb dX11_shop_10 rfl (lv_at hl 2 rfl) ?_
    refine lv_iconst (v := 0) hx hb dX11_shop_11 (by decide) ?_
    refine lv_iconst (v := 2) hx hb dX11_shop_12 (by decide) ?_
    refine m_ci (m_runS (rest := []) hX hw (tX11_isWithin h) mtX11_isWithin k_311 k_312 ⟨⟨rfl, rfl, Nat.le_of_ble_eq_true rfl, Nat.le_of_ble_eq_true rfl⟩, Nat.le_of_ble_eq_true rfl, Nat.le_of_ble_eq_true rfl⟩ rfl hl.1 rfl (Nat.le_of_ble_eq_true rfl) dX11_shop_13) hw (fun r4 σ5 H locs h hw => ?_)
    refine lv_if_ne (tgt := 21) hx hb dX11_shop_16 (by decide) (fun hc6 => ?_) (fun hc6 => ?_)
    · have h := h.2 hc6
      refine lv_aload_n hx hb dX11_shop_21 rfl (lv_at hl 0 rfl) ?_
      obtain ⟨hT7, h⟩ := h
      obtain ⟨b8, hb8, h⟩ := h
      refine m_get hX hw cl11 hT7 5 (by decide) k_254 (fun _ h => h) (v := .ref b8) (congrArg va_rf hb8) dX11_shop_22 ?_
      refine lv_iload_n hx hb dX11_shop_25 rfl (lv_at hl 1 rfl) ?_
      obtain ⟨hT9, h⟩ := h
      refine m_putI hX hw cl6 hT9 0 (by decide) k_80 (fun _ h => h) rfl rfl dX11_shop_26 (fun H locs hw => ?_)
      let σ10 : Me := sI σ5 b8 0 x1
      have h := h σ10 rfl
      have hw : wS D cA z0 s σ10 H locs := hw
      refine lv_aload_n hx hb dX11_shop_29 rfl (lv_at hl 0 rfl) ?_
      refine m_get hX hw cl11 hT7 5 (by decide) k_254 (fun _ h => h) (v := .ref b8) (congrArg va_rf hb8) dX11_shop_30 ?_
      refine lv_iload_n hx hb dX11_shop_33 rfl (lv_at hl 2 rfl) ?_
      refine m_putI hX hw cl6 hT9 1 (by decide) k_83 (fun _ h => h) rfl rfl dX11_shop_34 (fun H locs hw => ?_)
      let σ11 : Me := sI σ10 b8 1 x2
      have h := h σ11 rfl
      have hw : wS D cA z0 s σ11 H locs := hw
      refine lv_aload_n hx hb dX11_shop_37 rfl (lv_at hl 0 rfl) ?_
      refine m_get hX hw cl11 hT7 5 (by decide) k_254 (fun _ h => h) (v := .ref b8) (congrArg va_rf hb8) dX11_shop_38 ?_
      refine lv_iload_n hx hb dX11_shop_41 rfl (lv_at hl 3 rfl) ?_
      obtain ⟨hc12, h⟩ := h
      refine m_putZ hX hw cl6 hT9 2 (by decide) k_85 (fun _ h => h) rfl rfl hc12 dX11_shop_42 (fun H locs hw => ?_)
      let σ13 : Me := sI σ11 b8 2 x3
      have h := h σ13 rfl
      have hw : wS D cA z0 s σ13 H locs := hw
      refine lv_iconst (v := 1) hx hb dX11_shop_45 (by decide) ?_
      exact m_iret hX hlk hr hw h dX11_shop_46
    · have h := h.1 hc6
      refine lv_iconst (v := (-1)) hx hb dX11_shop_19 (by decide) ?_
      exact m_iret hX hlk hr hw h dX11_shop_20
theorem mtX11_shop : Mth yX11_shop cX11_shop 4 (some .int) 3 := ⟨k_558, k_43, by decide +kernel⟩
theorem tX11_shop {l : Launch} {D : va_G} {cA : Nat → ClassId} {z0 : Nat} {σ : Me} {a0 : Nat} {x1 : Int32} {x2 : Int32} {x3 : Int32} {Q : Int32 → Me → Prop} (h : pX11_shop σ a0 x1 x2 x3 Q) : Met l yX11_shop (Cond.code yX11_shop cX11_shop 4 (some .int) :: gTab) rX11_shop (PcM D cA z0 σ [.ref a0, .int x1, .int x2, .int x3]) (va_Qi Q (BM D cA z0) (AM z0)) 0 0 (AM z0) :=
  met_of (by decide) (Nat.le_of_ble_eq_true rfl) (fun hX hlk hr hn hw hl => wX11_shop hX hlk hr h hw hl)
abbrev rX11_costs : Room := { frames := 2, cells := 0, slots := 0, locals := 42 }
def pX11_costs (σ : Me) (a0 : Nat) (x1 : Int32) (x2 : Int32) (x3 : Int32) (x4 : Int32) (Q : Int32 → Me → Prop) : Prop := pX11_isPrice σ x1 (fun r1 σ2 => (r1 = 0 → Q ((-1 : Int32)) σ2) ∧ (¬ r1 = 0 → pX11_isPrice σ2 x2 (fun r4 σ5 => (r4 = 0 → Q ((-1 : Int32)) σ5) ∧ (¬ r4 = 0 → pX11_isPrice σ5 x3 (fun r7 σ8 => (r7 = 0 → Q ((-1 : Int32)) σ8) ∧ (¬ r7 = 0 → pX11_isPrice σ8 x4 (fun r10 σ11 => (r10 = 0 → Q ((-1 : Int32)) σ11) ∧ (¬ r10 = 0 → gT σ11 a0 = 11 ∧ ∃ b14 : Nat, gP σ11 a0 5 = some b14 ∧ gT σ11 b14 = 6 ∧ ∀ σ16 : Me, σ16 = sI σ11 b14 3 x1 → ∀ σ17 : Me, σ17 = sI σ16 b14 4 x2 → ∀ σ18 : Me, σ18 = sI σ17 b14 5 x3 → ∀ σ19 : Me, σ19 = sI σ18 b14 6 x4 → Q ((1 : Int32)) σ19))))))))
set_option maxHeartbeats 4000000 in
set_option maxRecDepth 100000 in
theorem wX11_costs {p : Program} {l : Launch} {e : Env} {s : State} {m : MethodId} {args : Array Value} {below : List Frame} {meth : Method} {c : Code} {D : va_G} {cA : Nat → ClassId} {z0 : Nat} (hX : Cx p m c cX11_costs 5 s args RX11 D cA) (hlk : meth.locks = false) (hr : meth.sig.returnType = (some .int)) {σ : Me} {a0 : Nat} {x1 : Int32} {x2 : Int32} {x3 : Int32} {x4 : Int32} {Q : Int32 → Me → Prop} (h : pX11_costs σ a0 x1 x2 x3 x4 Q) {H : Heap} {locs : List Loc} {ls : Array Slot} (hw : wS D cA z0 s σ H locs) (hl : lv_has ls 5 [(0, .ref a0), (1, .int x1), (2, .int x2), (3, .int x3), (4, .int x4)]) : W p l e rX11_costs s m args below meth c H locs 0 0 (MQ below (va_Qi Q (BM D cA z0) (AM z0)) args s 0 0 (AM z0)) (F0 m 0 ls []) := by
  have hx := hX.1.1
  have hb := hX.1.2.1
  have hown := hX.1.2.2.2.1
  have hts := hX.1.2.2.2.2
  unfold pX11_costs at h
  refine lv_iload_n hx hb dX11_costs_0 rfl (lv_at hl 1 rfl) ?_
  refine m_ci (m_runS (rest := []) hX hw (tX11_isPrice h) mtX11_isPrice k_563 k_564 ⟨⟨rfl, rfl, Nat.le_of_ble_eq_true rfl, Nat.le_of_ble_eq_true rfl⟩, Nat.le_of_ble_eq_true rfl, Nat.le_of_ble_eq_true rfl⟩ rfl hl.1 rfl (Nat.le_of_ble_eq_true rfl) dX11_costs_1) hw (fun r1 σ2 H locs h hw => ?_)
  refine lv_if_eq (tgt := 29) hx hb dX11_costs_4 (by decide) (fun hc3 => ?_) (fun hc3 => ?_)
  · have h := h.1 hc3
    refine lv_iconst (v := (-1)) hx hb dX11_costs_29 (by decide) ?_
    exact m_iret hX hlk hr hw h dX11_costs_30
  · have h := h.2 hc3
    refine lv_iload_n hx hb dX11_costs_7 rfl (lv_at hl 2 rfl) ?_
    refine m_ci (m_runS (rest := []) hX hw (tX11_isPrice h) mtX11_isPrice k_563 k_564 ⟨⟨rfl, rfl, Nat.le_of_ble_eq_true rfl, Nat.le_of_ble_eq_true rfl⟩, Nat.le_of_ble_eq_true rfl, Nat.le_of_ble_eq_true rfl⟩ rfl hl.1 rfl (Nat.le_of_ble_eq_true rfl) dX11_costs_8) hw (fun r4 σ5 H locs h hw => ?_)
    refine lv_if_eq (tgt := 29) hx hb dX11_costs_11 (by decide) (fun hc6 => ?_) (fun hc6 => ?_)
    · have h := h.1 hc6
      refine lv_iconst (v := (-1)) hx hb dX11_costs_29 (by decide) ?_
      exact m_iret hX hlk hr hw h dX11_costs_30
    · have h := h.2 hc6
      refine lv_iload_n hx hb dX11_costs_14 rfl (lv_at hl 3 rfl) ?_
      refine m_ci (m_runS (rest := []) hX hw (tX11_isPrice h) mtX11_isPrice k_563 k_564 ⟨⟨rfl, rfl, Nat.le_of_ble_eq_true rfl, Nat.le_of_ble_eq_true rfl⟩, Nat.le_of_ble_eq_true rfl, Nat.le_of_ble_eq_true rfl⟩ rfl hl.1 rfl (Nat.le_of_ble_eq_true rfl) dX11_costs_15) hw (fun r7 σ8 H locs h hw => ?_)
      refine lv_if_eq (tgt := 29) hx hb dX11_costs_18 (by decide) (fun hc9 => ?_) (fun hc9 => ?_)
      · have h := h.1 hc9
        refine lv_iconst (v := (-1)) hx hb dX11_costs_29 (by decide) ?_
        exact m_iret hX hlk hr hw h dX11_costs_30
      · have h := h.2 hc9
        refine lv_iload hx hb dX11_costs_21 (lv_at hl 4 rfl) ?_
        refine m_ci (m_runS (rest := []) hX hw (tX11_isPrice h) mtX11_isPrice k_563 k_564 ⟨⟨rfl, rfl, Nat.le_of_ble_eq_true rfl, Nat.le_of_ble_eq_true rfl⟩, Nat.le_of_ble_eq_true rfl, Nat.le_of_ble_eq_true rfl⟩ rfl hl.1 rfl (Nat.le_of_ble_eq_true rfl) dX11_costs_23) hw (fun r10 σ11 H locs h hw => ?_)
        refine lv_if_ne (tgt := 31) hx hb dX11_costs_26 (by decide) (fun hc12 => ?_) (fun hc12 => ?_)
        · have h := h.2 hc12
          refine lv_aload_n hx hb dX11_costs_31 rfl (lv_at hl 0 rfl) ?_
          obtain ⟨hT13, h⟩ := h
          obtain ⟨b14, hb14, h⟩ := h
          refine m_get hX hw cl11 hT13 5 (by decide) k_254 (fun _ h => h) (v := .ref b14) (congrArg va_rf hb14) dX11_costs_32 ?_
          refine lv_iload_n hx hb dX11_costs_35 rfl (lv_at hl 1 rfl) ?_
          obtain ⟨hT15, h⟩ := h
          refine m_putI hX hw cl6 hT15 3 (by decide) k_87 (fun _ h => h) rfl rfl dX11_costs_36 (fun H locs hw => ?_)
          let σ16 : Me := sI σ11 b14 3 x1
          have h := h σ16 rfl
          have hw : wS D cA z0 s σ16 H locs := hw
          refine lv_aload_n hx hb dX11_costs_39 rfl (lv_at hl 0 rfl) ?_
          refine m_get hX hw cl11 hT13 5 (by decide) k_254 (fun _ h => h) (v := .ref b14) (congrArg va_rf hb14) dX11_costs_40 ?_
          refine lv_iload_n hx hb dX11_costs_43 rfl (lv_at hl 2 rfl) ?_
          refine m_putI hX hw cl6 hT15 4 (by decide) k_89 (fun _ h => h) rfl rfl dX11_costs_44 (fun H locs hw => ?_)
          let σ17 : Me := sI σ16 b14 4 x2
          have h := h σ17 rfl
          have hw : wS D cA z0 s σ17 H locs := hw
          refine lv_aload_n hx hb dX11_costs_47 rfl (lv_at hl 0 rfl) ?_
          refine m_get hX hw cl11 hT13 5 (by decide) k_254 (fun _ h => h) (v := .ref b14) (congrArg va_rf hb14) dX11_costs_48 ?_
          refine lv_iload_n hx hb dX11_costs_51 rfl (lv_at hl 3 rfl) ?_
          refine m_putI hX hw cl6 hT15 5 (by decide) k_91 (fun _ h => h) rfl rfl dX11_costs_52 (fun H locs hw => ?_)
          let σ18 : Me := sI σ17 b14 5 x3
          have h := h σ18 rfl
          have hw : wS D cA z0 s σ18 H locs := hw
          refine lv_aload_n hx hb dX11_costs_55 rfl (lv_at hl 0 rfl) ?_
          refine m_get hX hw cl11 hT13 5 (by decide) k_254 (fun _ h => h) (v := .ref b14) (congrArg va_rf hb14) dX11_costs_56 ?_
          refine lv_iload hx hb dX11_costs_59 (lv_at hl 4 rfl) ?_
          refine m_putI hX hw cl6 hT15 6 (by decide) k_93 (fun _ h => h) rfl rfl dX11_costs_61 (fun H locs hw => ?_)
          let σ19 : Me := sI σ18 b14 6 x4
          have h := h σ19 rfl
          have hw : wS D cA z0 s σ19 H locs := hw
          refine lv_iconst (v := 1) hx hb dX11_costs_64 (by decide) ?_
          exact m_iret hX hlk hr hw h dX11_costs_65
        · have h := h.1 hc12
          refine lv_iconst (v := (-1)) hx hb dX11_costs_29 (by decide) ?_
          exact m_iret hX hlk hr hw h dX11_costs_30
theorem mtX11_costs : Mth yX11_costs cX11_costs 5 (some .int) 4 := ⟨k_562, k_43, by decide +kernel⟩
theorem tX11_costs {l : Launch} {D : va_G} {cA : Nat → ClassId} {z0 : Nat} {σ : Me} {a0 : Nat} {x1 : Int32} {x2 : Int32} {x3 : Int32} {x4 : Int32} {Q : Int32 → Me → Prop} (h : pX11_costs σ a0 x1 x2 x3 x4 Q) : Met l yX11_costs (Cond.code yX11_costs cX11_costs 5 (some .int) :: gTab) rX11_costs (PcM D cA z0 σ [.ref a0, .int x1, .int x2, .int x3, .int x4]) (va_Qi Q (BM D cA z0) (AM z0)) 0 0 (AM z0) :=
  met_of (by decide) (Nat.le_of_ble_eq_true rfl) (fun hX hlk hr hn hw hl => wX11_costs hX hlk hr h hw hl)
abbrev rX11_pairTold : Room := { frames := 1, cells := 0, slots := 0, locals := 22 }
def pX11_pairTold (σ : Me) (a0 : Nat) (x1 : Int32) (Q : Int32 → Me → Prop) : Prop := pX11_isWithin σ x1 ((0 : Int32)) ((1 : Int32)) (fun r1 σ2 => (r1 = 0 → Q ((-1 : Int32)) σ2) ∧ (¬ r1 = 0 → gT σ2 a0 = 11 ∧ ((gI σ2 a0 9) = 0 → Q ((-9 : Int32)) σ2) ∧ (¬ (gI σ2 a0 9) = 0 → ∀ v_6 : Int32, v_6 = (if x1 = 0 then (gI σ2 a0 10) else (gI σ2 a0 11)) → Q v_6 σ2)))
set_option maxHeartbeats 4000000 in
set_option maxRecDepth 100000 in
theorem wX11_pairTold {p : Program} {l : Launch} {e : Env} {s : State} {m : MethodId} {args : Array Value} {below : List Frame} {meth : Method} {c : Code} {D : va_G} {cA : Nat → ClassId} {z0 : Nat} (hX : Cx p m c cX11_pairTold 2 s args RX11 D cA) (hlk : meth.locks = false) (hr : meth.sig.returnType = (some .int)) {σ : Me} {a0 : Nat} {x1 : Int32} {Q : Int32 → Me → Prop} (h : pX11_pairTold σ a0 x1 Q) {H : Heap} {locs : List Loc} {ls : Array Slot} (hw : wS D cA z0 s σ H locs) (hl : lv_has ls 2 [(0, .ref a0), (1, .int x1)]) : W p l e rX11_pairTold s m args below meth c H locs 0 0 (MQ below (va_Qi Q (BM D cA z0) (AM z0)) args s 0 0 (AM z0)) (F0 m 0 ls []) := by
  have hx := hX.1.1
  have hb := hX.1.2.1
  have hown := hX.1.2.2.2.1
  have hts := hX.1.2.2.2.2
  unfold pX11_pairTold at h
  refine lv_iload_n hx hb dX11_pairTold_0 rfl (lv_at hl 1 rfl) ?_
  refine lv_iconst (v := 0) hx hb dX11_pairTold_1 (by decide) ?_
  refine lv_iconst (v := 1) hx hb dX11_pairTold_2 (by decide) ?_
  refine m_ci (m_runS (rest := []) hX hw (tX11_isWithin h) mtX11_isWithin k_311 k_312 ⟨⟨rfl, rfl, Nat.le_of_ble_eq_true rfl, Nat.le_of_ble_eq_true rfl⟩, Nat.le_of_ble_eq_true rfl, Nat.le_of_ble_eq_true rfl⟩ rfl hl.1 rfl (Nat.le_of_ble_eq_true rfl) dX11_pairTold_3) hw (fun r1 σ2 H locs h hw => ?_)
  refine lv_if_ne (tgt := 11) hx hb dX11_pairTold_6 (by decide) (fun hc3 => ?_) (fun hc3 => ?_)
  · have h := h.2 hc3
    refine lv_aload_n hx hb dX11_pairTold_11 rfl (lv_at hl 0 rfl) ?_
    obtain ⟨hT4, h⟩ := h
    refine m_get hX hw cl11 hT4 9 (by decide) k_258 (fun _ h => h) (v := .int _) rfl dX11_pairTold_12 ?_
    refine lv_if_ne (tgt := 21) hx hb dX11_pairTold_15 (by decide) (fun hc5 => ?_) (fun hc5 => ?_)
    · have h := h.2 hc5
      refine lv_iload_n hx hb dX11_pairTold_21 rfl (lv_at hl 1 rfl) ?_
      have kM7 : ∀ (v_6 : Int32) (ls : Array Slot), v_6 = (if x1 = 0 then (gI σ2 a0 10) else (gI σ2 a0 11)) → lv_has ls 2 [] → W p l e rX11_pairTold s m args below meth c H locs 0 0 (MQ below (va_Qi Q (BM D cA z0) (AM z0)) args s 0 0 (AM z0)) (F0 m 36 ls [.int v_6]) := by
        intro v_6 ls e_v_6 hl
        have h := h v_6 e_v_6
        exact m_iret hX hlk hr hw h dX11_pairTold_36
      refine lv_if_ne (tgt := 32) hx hb dX11_pairTold_22 (by decide) (fun hc8 => ?_) (fun hc8 => ?_)
      · refine lv_aload_n hx hb dX11_pairTold_32 rfl (lv_at hl 0 rfl) ?_
        refine m_get hX hw cl11 hT4 11 (by decide) k_260 (fun _ h => h) (v := .int _) rfl dX11_pairTold_33 ?_
        exact kM7 _ _ (by first | rfl | rw [if_neg hc8] | simp only [if_neg hc8]) (lv_sub hl [] rfl)
      · refine lv_aload_n hx hb dX11_pairTold_25 rfl (lv_at hl 0 rfl) ?_
        refine m_get hX hw cl11 hT4 10 (by decide) k_259 (fun _ h => h) (v := .int _) rfl dX11_pairTold_26 ?_
        refine lv_goto (tgt := 36) hx hb dX11_pairTold_29 (by decide) ?_
        exact kM7 _ _ (by first | rfl | rw [if_pos hc8] | simp only [if_pos hc8]) (lv_sub hl [] rfl)
    · have h := h.1 hc5
      refine lv_bipush (v := (-9)) hx hb dX11_pairTold_18 (by decide) ?_
      exact m_iret hX hlk hr hw h dX11_pairTold_20
  · have h := h.1 hc3
    refine lv_iconst (v := (-1)) hx hb dX11_pairTold_9 (by decide) ?_
    exact m_iret hX hlk hr hw h dX11_pairTold_10
theorem mtX11_pairTold : Mth yX11_pairTold cX11_pairTold 2 (some .int) 1 := ⟨k_777, k_43, by decide +kernel⟩
theorem tX11_pairTold {l : Launch} {D : va_G} {cA : Nat → ClassId} {z0 : Nat} {σ : Me} {a0 : Nat} {x1 : Int32} {Q : Int32 → Me → Prop} (h : pX11_pairTold σ a0 x1 Q) : Met l yX11_pairTold (Cond.code yX11_pairTold cX11_pairTold 2 (some .int) :: gTab) rX11_pairTold (PcM D cA z0 σ [.ref a0, .int x1]) (va_Qi Q (BM D cA z0) (AM z0)) 0 0 (AM z0) :=
  met_of (by decide) (Nat.le_of_ble_eq_true rfl) (fun hX hlk hr hn hw hl => wX11_pairTold hX hlk hr h hw hl)
abbrev rX11_see : Room := { frames := 2, cells := 0, slots := 0, locals := 42 }
def pX11_see (σ : Me) (a0 : Nat) (x1 : Int32) (Q : Int32 → Me → Prop) : Prop := pX11_isDemand σ x1 (fun r1 σ2 => (r1 = 0 → Q ((-1 : Int32)) σ2) ∧ (¬ r1 = 0 → gT σ2 a0 = 11 ∧ ∃ b5 : Nat, gP σ2 a0 12 = some b5 ∧ gT σ2 b5 = 20 ∧ ((gI σ2 a0 13) < (nI (gN σ2 b5)) → vp_in (gI σ2 a0 13) (gN σ2 b5) ∧ ∀ σ9 : Me, σ9 = sI σ2 b5 (gI σ2 a0 13).toNatClampNeg x1 → ∀ σ10 : Me, σ10 = sI σ9 a0 13 ((gI σ9 a0 13) + ((1 : Int32))) → Q (gI σ10 a0 13) σ10) ∧ (¬ (gI σ2 a0 13) < (nI (gN σ2 b5)) → Q ((-2 : Int32)) σ2)))
set_option maxHeartbeats 4000000 in
set_option maxRecDepth 100000 in
theorem wX11_see {p : Program} {l : Launch} {e : Env} {s : State} {m : MethodId} {args : Array Value} {below : List Frame} {meth : Method} {c : Code} {D : va_G} {cA : Nat → ClassId} {z0 : Nat} (hX : Cx p m c cX11_see 2 s args RX11 D cA) (hlk : meth.locks = false) (hr : meth.sig.returnType = (some .int)) {σ : Me} {a0 : Nat} {x1 : Int32} {Q : Int32 → Me → Prop} (h : pX11_see σ a0 x1 Q) {H : Heap} {locs : List Loc} {ls : Array Slot} (hw : wS D cA z0 s σ H locs) (hl : lv_has ls 2 [(0, .ref a0), (1, .int x1)]) : W p l e rX11_see s m args below meth c H locs 0 0 (MQ below (va_Qi Q (BM D cA z0) (AM z0)) args s 0 0 (AM z0)) (F0 m 0 ls []) := by
  have hx := hX.1.1
  have hb := hX.1.2.1
  have hown := hX.1.2.2.2.1
  have hts := hX.1.2.2.2.2
  unfold pX11_see at h
  refine lv_iload_n hx hb dX11_see_0 rfl (lv_at hl 1 rfl) ?_
  refine m_ci (m_runS (rest := []) hX hw (tX11_isDemand h) mtX11_isDemand k_326 k_327 ⟨⟨rfl, rfl, Nat.le_of_ble_eq_true rfl, Nat.le_of_ble_eq_true rfl⟩, Nat.le_of_ble_eq_true rfl, Nat.le_of_ble_eq_true rfl⟩ rfl hl.1 rfl (Nat.le_of_ble_eq_true rfl) dX11_see_1) hw (fun r1 σ2 H locs h hw => ?_)
  refine lv_if_ne (tgt := 9) hx hb dX11_see_4 (by decide) (fun hc3 => ?_) (fun hc3 => ?_)
  · have h := h.2 hc3
    refine lv_aload_n hx hb dX11_see_9 rfl (lv_at hl 0 rfl) ?_
    obtain ⟨hT4, h⟩ := h
    refine m_get hX hw cl11 hT4 13 (by decide) k_262 (fun _ h => h) (v := .int _) rfl dX11_see_10 ?_
    refine lv_aload_n hx hb dX11_see_13 rfl (lv_at hl 0 rfl) ?_
    obtain ⟨b5, hb5, h⟩ := h
    refine m_get hX hw cl11 hT4 12 (by decide) k_261 (fun _ h => h) (v := .ref b5) (congrArg va_rf hb5) dX11_see_14 ?_
    obtain ⟨hT6, h⟩ := h
    refine m_alen hX hw (t := 0) (by decide) hT6 dX11_see_17 ?_
    refine lv_icmp_lt (tgt := 24) hx hb dX11_see_18 (by decide) (fun hc7 => ?_) (fun hc7 => ?_)
    · have h := h.1 hc7
      refine lv_aload_n hx hb dX11_see_24 rfl (lv_at hl 0 rfl) ?_
      refine m_get hX hw cl11 hT4 12 (by decide) k_261 (fun _ h => h) (v := .ref b5) (congrArg va_rf hb5) dX11_see_25 ?_
      refine lv_aload_n hx hb dX11_see_28 rfl (lv_at hl 0 rfl) ?_
      refine m_get hX hw cl11 hT4 13 (by decide) k_262 (fun _ h => h) (v := .int _) rfl dX11_see_29 ?_
      refine lv_iload_n hx hb dX11_see_32 rfl (lv_at hl 1 rfl) ?_
      obtain ⟨hc8, h⟩ := h
      refine m_iast hX hw hT6 hc8 dX11_see_33 (fun H locs hw => ?_)
      let σ9 : Me := sI σ2 b5 (gI σ2 a0 13).toNatClampNeg x1
      have h := h σ9 rfl
      have hw : wS D cA z0 s σ9 H locs := hw
      refine lv_aload_n hx hb dX11_see_34 rfl (lv_at hl 0 rfl) ?_
      refine lv_dup hx hb dX11_see_35 rfl ?_
      refine m_get hX hw cl11 hT4 13 (by decide) k_262 (fun _ h => h) (v := .int _) rfl dX11_see_36 ?_
      refine lv_iconst (v := 1) hx hb dX11_see_39 (by decide) ?_
      refine lv_iadd hx hb dX11_see_40 ?_
      refine m_putI hX hw cl11 hT4 13 (by decide) k_262 (fun _ h => h) rfl rfl dX11_see_41 (fun H locs hw => ?_)
      let σ10 : Me := sI σ9 a0 13 ((gI σ9 a0 13) + ((1 : Int32)))
      have h := h σ10 rfl
      have hw : wS D cA z0 s σ10 H locs := hw
      refine lv_aload_n hx hb dX11_see_44 rfl (lv_at hl 0 rfl) ?_
      refine m_get hX hw cl11 hT4 13 (by decide) k_262 (fun _ h => h) (v := .int _) rfl dX11_see_45 ?_
      exact m_iret hX hlk hr hw h dX11_see_48
    · have h := h.2 hc7
      refine lv_bipush (v := (-2)) hx hb dX11_see_21 (by decide) ?_
      exact m_iret hX hlk hr hw h dX11_see_23
  · have h := h.1 hc3
    refine lv_iconst (v := (-1)) hx hb dX11_see_7 (by decide) ?_
    exact m_iret hX hlk hr hw h dX11_see_8
theorem mtX11_see : Mth yX11_see cX11_see 2 (some .int) 1 := ⟨k_811, k_43, by decide +kernel⟩
theorem tX11_see {l : Launch} {D : va_G} {cA : Nat → ClassId} {z0 : Nat} {σ : Me} {a0 : Nat} {x1 : Int32} {Q : Int32 → Me → Prop} (h : pX11_see σ a0 x1 Q) : Met l yX11_see (Cond.code yX11_see cX11_see 2 (some .int) :: gTab) rX11_see (PcM D cA z0 σ [.ref a0, .int x1]) (va_Qi Q (BM D cA z0) (AM z0)) 0 0 (AM z0) :=
  met_of (by decide) (Nat.le_of_ble_eq_true rfl) (fun hX hlk hr hn hw hl => wX11_see hX hlk hr h hw hl)
abbrev rX11_count : Room := { frames := 1, cells := 0, slots := 0, locals := 22 }
def pX11_count (σ : Me) (a0 : Nat) (x1 : Int32) (Q : Int32 → Me → Prop) : Prop := (x1 = 0 → gT σ a0 = 11 ∧ Q (gI σ a0 4) σ) ∧ (x1 = 1 → gT σ a0 = 11 ∧ pX11_rulesThere σ a0 (fun r3 σ4 => Q r3 σ4)) ∧ (x1 = 2 → gT σ a0 = 11 ∧ Q (gI σ a0 13) σ) ∧ (x1 = 3 → gT σ a0 = 11 ∧ ∃ b8 : Nat, gP σ a0 5 = some b8 ∧ gT σ b8 = 6 ∧ Q (gI σ b8 0) σ) ∧ (x1 = 4 → gT σ a0 = 11 ∧ ∃ b11 : Nat, gP σ a0 5 = some b11 ∧ gT σ b11 = 6 ∧ Q (gI σ b11 1) σ) ∧ (x1 = 5 → gT σ a0 = 11 ∧ ∃ b14 : Nat, gP σ a0 5 = some b14 ∧ gT σ b14 = 6 ∧ ∀ v_16 : Int32, v_16 = (if (gI σ b14 2) = 0 then ((0 : Int32)) else ((1 : Int32))) → Q v_16 σ) ∧ (¬ x1 = 0 → ¬ x1 = 1 → ¬ x1 = 2 → ¬ x1 = 3 → ¬ x1 = 4 → ¬ x1 = 5 → Q ((-1 : Int32)) σ)
set_option maxHeartbeats 4000000 in
set_option maxRecDepth 100000 in
theorem wX11_count {p : Program} {l : Launch} {e : Env} {s : State} {m : MethodId} {args : Array Value} {below : List Frame} {meth : Method} {c : Code} {D : va_G} {cA : Nat → ClassId} {z0 : Nat} (hX : Cx p m c cX11_count 2 s args RX11 D cA) (hlk : meth.locks = false) (hr : meth.sig.returnType = (some .int)) {σ : Me} {a0 : Nat} {x1 : Int32} {Q : Int32 → Me → Prop} (h : pX11_count σ a0 x1 Q) {H : Heap} {locs : List Loc} {ls : Array Slot} (hw : wS D cA z0 s σ H locs) (hl : lv_has ls 2 [(0, .ref a0), (1, .int x1)]) : W p l e rX11_count s m args below meth c H locs 0 0 (MQ below (va_Qi Q (BM D cA z0) (AM z0)) args s 0 0 (AM z0)) (F0 m 0 ls []) := by
  have hx := hX.1.1
  have hb := hX.1.2.1
  have hown := hX.1.2.2.2.1
  have hts := hX.1.2.2.2.2
  unfold pX11_count at h
  refine lv_iload_n hx hb dX11_count_0 rfl (lv_at hl 1 rfl) ?_
  by_cases hs1_0 : x1 = 0
  · refine lv_tableIn (off := 39) (tgt := 40) hx hb dX11_count_1 (by rw [hs1_0]; decide) (by rw [hs1_0]; decide) (by rw [hs1_0]; rfl) (by decide) ?_
    have h := h.1 hs1_0
    refine lv_aload_n hx hb dX11_count_40 rfl (lv_at hl 0 rfl) ?_
    obtain ⟨hT2, h⟩ := h
    refine m_get hX hw cl11 hT2 4 (by decide) k_253 (fun _ h => h) (v := .int _) rfl dX11_count_41 ?_
    exact m_iret hX hlk hr hw h dX11_count_44
  by_cases hs1_1 : x1 = 1
  · refine lv_tableIn (off := 44) (tgt := 45) hx hb dX11_count_1 (by rw [hs1_1]; decide) (by rw [hs1_1]; decide) (by rw [hs1_1]; rfl) (by decide) ?_
    have h := h.2.1 hs1_1
    refine lv_aload_n hx hb dX11_count_45 rfl (lv_at hl 0 rfl) ?_
    obtain ⟨hT5, h⟩ := h
    refine m_ci (m_runV (rest := []) hX hw (tX11_rulesThere h) mtX11_rulesThere k_837 ⟨k_839, k_20⟩ cl11 hT5 ⟨⟨rfl, rfl, Nat.le_of_ble_eq_true rfl, Nat.le_of_ble_eq_true rfl⟩, Nat.le_of_ble_eq_true rfl, Nat.le_of_ble_eq_true rfl⟩ rfl hl.1 rfl (Nat.le_of_ble_eq_true rfl) dX11_count_46) hw (fun r3 σ4 H locs h hw => ?_)
    exact m_iret hX hlk hr hw h dX11_count_49
  by_cases hs1_2 : x1 = 2
  · refine lv_tableIn (off := 49) (tgt := 50) hx hb dX11_count_1 (by rw [hs1_2]; decide) (by rw [hs1_2]; decide) (by rw [hs1_2]; rfl) (by decide) ?_
    have h := h.2.2.1 hs1_2
    refine lv_aload_n hx hb dX11_count_50 rfl (lv_at hl 0 rfl) ?_
    obtain ⟨hT6, h⟩ := h
    refine m_get hX hw cl11 hT6 13 (by decide) k_262 (fun _ h => h) (v := .int _) rfl dX11_count_51 ?_
    exact m_iret hX hlk hr hw h dX11_count_54
  by_cases hs1_3 : x1 = 3
  · refine lv_tableIn (off := 54) (tgt := 55) hx hb dX11_count_1 (by rw [hs1_3]; decide) (by rw [hs1_3]; decide) (by rw [hs1_3]; rfl) (by decide) ?_
    have h := h.2.2.2.1 hs1_3
    refine lv_aload_n hx hb dX11_count_55 rfl (lv_at hl 0 rfl) ?_
    obtain ⟨hT7, h⟩ := h
    obtain ⟨b8, hb8, h⟩ := h
    refine m_get hX hw cl11 hT7 5 (by decide) k_254 (fun _ h => h) (v := .ref b8) (congrArg va_rf hb8) dX11_count_56 ?_
    obtain ⟨hT9, h⟩ := h
    refine m_get hX hw cl6 hT9 0 (by decide) k_80 (fun _ h => h) (v := .int _) rfl dX11_count_59 ?_
    exact m_iret hX hlk hr hw h dX11_count_62
  by_cases hs1_4 : x1 = 4
  · refine lv_tableIn (off := 62) (tgt := 63) hx hb dX11_count_1 (by rw [hs1_4]; decide) (by rw [hs1_4]; decide) (by rw [hs1_4]; rfl) (by decide) ?_
    have h := h.2.2.2.2.1 hs1_4
    refine lv_aload_n hx hb dX11_count_63 rfl (lv_at hl 0 rfl) ?_
    obtain ⟨hT10, h⟩ := h
    obtain ⟨b11, hb11, h⟩ := h
    refine m_get hX hw cl11 hT10 5 (by decide) k_254 (fun _ h => h) (v := .ref b11) (congrArg va_rf hb11) dX11_count_64 ?_
    obtain ⟨hT12, h⟩ := h
    refine m_get hX hw cl6 hT12 1 (by decide) k_83 (fun _ h => h) (v := .int _) rfl dX11_count_67 ?_
    exact m_iret hX hlk hr hw h dX11_count_70
  by_cases hs1_5 : x1 = 5
  · refine lv_tableIn (off := 70) (tgt := 71) hx hb dX11_count_1 (by rw [hs1_5]; decide) (by rw [hs1_5]; decide) (by rw [hs1_5]; rfl) (by decide) ?_
    have h := h.2.2.2.2.2.1 hs1_5
    refine lv_aload_n hx hb dX11_count_71 rfl (lv_at hl 0 rfl) ?_
    obtain ⟨hT13, h⟩ := h
    obtain ⟨b14, hb14, h⟩ := h
    refine m_get hX hw cl11 hT13 5 (by decide) k_254 (fun _ h => h) (v := .ref b14) (congrArg va_rf hb14) dX11_count_72 ?_
    obtain ⟨hT15, h⟩ := h
    refine m_get hX hw cl6 hT15 2 (by decide) k_85 (fun _ h => h) (v := .int _) rfl dX11_count_75 ?_
    have kM17 : ∀ (v_16 : Int32) (ls : Array Slot), v_16 = (if (gI σ b14 2) = 0 then ((0 : Int32)) else ((1 : Int32))) → lv_has ls 2 [] → W p l e rX11_count s m args below meth c H locs 0 0 (MQ below (va_Qi Q (BM D cA z0) (AM z0)) args s 0 0 (AM z0)) (F0 m 86 ls [.int v_16]) := by
      intro v_16 ls e_v_16 hl
      have h := h v_16 e_v_16
      exact m_iret hX hlk hr hw h dX11_count_86
    refine lv_if_eq (tgt := 85) hx hb dX11_count_78 (by decide) (fun hc18 => ?_) (fun hc18 => ?_)
    · refine lv_iconst (v := 0) hx hb dX11_count_85 (by decide) ?_
      exact kM17 _ _ (by first | rfl | rw [if_pos hc18] | simp only [if_pos hc18]) (lv_sub hl [] rfl)
    · refine lv_iconst (v := 1) hx hb dX11_count_81 (by decide) ?_
      refine lv_goto (tgt := 86) hx hb dX11_count_82 (by decide) ?_
      exact kM17 _ _ (by first | rfl | rw [if_neg hc18] | simp only [if_neg hc18]) (lv_sub hl [] rfl)
  refine lv_tableOut (tgt := 87) hx hb dX11_count_1 (by have q0 := lv_neT hs1_0 (show (0 : Int32).toInt = 0 by decide); have q1 := lv_neT hs1_1 (show (1 : Int32).toInt = 1 by decide); have q2 := lv_neT hs1_2 (show (2 : Int32).toInt = 2 by decide); have q3 := lv_neT hs1_3 (show (3 : Int32).toInt = 3 by decide); have q4 := lv_neT hs1_4 (show (4 : Int32).toInt = 4 by decide); have q5 := lv_neT hs1_5 (show (5 : Int32).toInt = 5 by decide); omega) (by decide) ?_
  have h := h.2.2.2.2.2.2 hs1_0 hs1_1 hs1_2 hs1_3 hs1_4 hs1_5
  refine lv_iconst (v := (-1)) hx hb dX11_count_87 (by decide) ?_
  exact m_iret hX hlk hr hw h dX11_count_88
theorem mtX11_count : Mth yX11_count cX11_count 2 (some .int) 1 := ⟨k_836, k_43, by decide +kernel⟩
theorem tX11_count {l : Launch} {D : va_G} {cA : Nat → ClassId} {z0 : Nat} {σ : Me} {a0 : Nat} {x1 : Int32} {Q : Int32 → Me → Prop} (h : pX11_count σ a0 x1 Q) : Met l yX11_count (Cond.code yX11_count cX11_count 2 (some .int) :: gTab) rX11_count (PcM D cA z0 σ [.ref a0, .int x1]) (va_Qi Q (BM D cA z0) (AM z0)) 0 0 (AM z0) :=
  met_of (by decide) (Nat.le_of_ble_eq_true rfl) (fun hX hlk hr hn hw hl => wX11_count hX hlk hr h hw hl)
