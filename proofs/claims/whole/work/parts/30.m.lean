abbrev rX11_isWithin : Room := { frames := 0, cells := 0, slots := 0, locals := 0 }
def pX11_isWithin (σ : Me) (x0 : Int32) (x1 : Int32) (x2 : Int32) (Q : Int32 → Me → Prop) : Prop := ∀ v_1 : Int32, v_1 = (if x0 < x1 then ((0 : Int32)) else (if x2 < x0 then ((0 : Int32)) else ((1 : Int32)))) → (v_1 = 0 ∨ v_1 = 1) ∧ Q v_1 σ
set_option maxHeartbeats 4000000 in
set_option maxRecDepth 100000 in
theorem wX11_isWithin {p : Program} {l : Launch} {e : Env} {s : State} {m : MethodId} {args : Array Value} {below : List Frame} {meth : Method} {c : Code} {D : va_G} {cA : Nat → ClassId} {z0 : Nat} (hX : Cx p m c cX11_isWithin 3 s args RX11 D cA) (hlk : meth.locks = false) (hr : meth.sig.returnType = (some .boolean)) {σ : Me} {x0 : Int32} {x1 : Int32} {x2 : Int32} {Q : Int32 → Me → Prop} (h : pX11_isWithin σ x0 x1 x2 Q) {H : Heap} {locs : List Loc} {ls : Array Slot} (hw : wS D cA z0 s σ H locs) (hl : lv_has ls 3 [(0, .int x0), (1, .int x1), (2, .int x2)]) : W p l e rX11_isWithin s m args below meth c H locs 0 0 (MQ below (va_Qi Q (BM D cA z0) (AM z0)) args s 0 0 (AM z0)) (F0 m 0 ls []) := by
  have hx := hX.1.1
  have hb := hX.1.2.1
  have hown := hX.1.2.2.2.1
  have hts := hX.1.2.2.2.2
  unfold pX11_isWithin at h
  refine lv_iload_n hx hb dX11_isWithin_0 rfl (lv_at hl 0 rfl) ?_
  refine lv_iload_n hx hb dX11_isWithin_1 rfl (lv_at hl 1 rfl) ?_
  have kM2 : ∀ (v_1 : Int32) (ls : Array Slot), v_1 = (if x0 < x1 then ((0 : Int32)) else (if x2 < x0 then ((0 : Int32)) else ((1 : Int32)))) → lv_has ls 3 [] → W p l e rX11_isWithin s m args below meth c H locs 0 0 (MQ below (va_Qi Q (BM D cA z0) (AM z0)) args s 0 0 (AM z0)) (F0 m 15 ls [.int v_1]) := by
    intro v_1 ls e_v_1 hl
    have h := h v_1 e_v_1
    exact m_zret hX hlk hr hw h.1 h.2 dX11_isWithin_15
  refine lv_icmp_lt (tgt := 14) hx hb dX11_isWithin_2 (by decide) (fun hc3 => ?_) (fun hc3 => ?_)
  · refine lv_iconst (v := 0) hx hb dX11_isWithin_14 (by decide) ?_
    exact kM2 _ _ (by first | rfl | rw [if_pos hc3] | simp only [if_pos hc3]) (lv_sub hl [] rfl)
  · refine lv_iload_n hx hb dX11_isWithin_5 rfl (lv_at hl 0 rfl) ?_
    refine lv_iload_n hx hb dX11_isWithin_6 rfl (lv_at hl 2 rfl) ?_
    refine lv_icmp_gt (tgt := 14) hx hb dX11_isWithin_7 (by decide) (fun hc4 => ?_) (fun hc4 => ?_)
    · refine lv_iconst (v := 0) hx hb dX11_isWithin_14 (by decide) ?_
      exact kM2 _ _ (by first | rfl | rw [if_neg hc3, if_pos hc4] | simp only [if_neg hc3, if_pos hc4]) (lv_sub hl [] rfl)
    · refine lv_iconst (v := 1) hx hb dX11_isWithin_10 (by decide) ?_
      refine lv_goto (tgt := 15) hx hb dX11_isWithin_11 (by decide) ?_
      exact kM2 _ _ (by first | rfl | rw [if_neg hc3, if_neg hc4] | simp only [if_neg hc3, if_neg hc4]) (lv_sub hl [] rfl)
theorem mtX11_isWithin : Mth yX11_isWithin cX11_isWithin 3 (some .boolean) 3 := ⟨k_313, k_43, by decide +kernel⟩
theorem tX11_isWithin {l : Launch} {D : va_G} {cA : Nat → ClassId} {z0 : Nat} {σ : Me} {x0 : Int32} {x1 : Int32} {x2 : Int32} {Q : Int32 → Me → Prop} (h : pX11_isWithin σ x0 x1 x2 Q) : Met l yX11_isWithin (Cond.code yX11_isWithin cX11_isWithin 3 (some .boolean) :: gTab) rX11_isWithin (PcM D cA z0 σ [.int x0, .int x1, .int x2]) (va_Qi Q (BM D cA z0) (AM z0)) 0 0 (AM z0) :=
  met_of (by decide) (Nat.le_of_ble_eq_true rfl) (fun hX hlk hr hn hw hl => wX11_isWithin hX hlk hr h hw hl)
abbrev rX11_isBook : Room := { frames := 1, cells := 0, slots := 0, locals := 22 }
def pX11_isBook (σ : Me) (x0 : Int32) (Q : Int32 → Me → Prop) : Prop := pX11_isWithin σ x0 ((0 : Int32)) ((3 : Int32)) (fun r1 σ2 => (r1 = 0 ∨ r1 = 1) ∧ Q r1 σ2)
set_option maxHeartbeats 4000000 in
set_option maxRecDepth 100000 in
theorem wX11_isBook {p : Program} {l : Launch} {e : Env} {s : State} {m : MethodId} {args : Array Value} {below : List Frame} {meth : Method} {c : Code} {D : va_G} {cA : Nat → ClassId} {z0 : Nat} (hX : Cx p m c cX11_isBook 1 s args RX11 D cA) (hlk : meth.locks = false) (hr : meth.sig.returnType = (some .boolean)) {σ : Me} {x0 : Int32} {Q : Int32 → Me → Prop} (h : pX11_isBook σ x0 Q) {H : Heap} {locs : List Loc} {ls : Array Slot} (hw : wS D cA z0 s σ H locs) (hl : lv_has ls 1 [(0, .int x0)]) : W p l e rX11_isBook s m args below meth c H locs 0 0 (MQ below (va_Qi Q (BM D cA z0) (AM z0)) args s 0 0 (AM z0)) (F0 m 0 ls []) := by
  have hx := hX.1.1
  have hb := hX.1.2.1
  have hown := hX.1.2.2.2.1
  have hts := hX.1.2.2.2.2
  unfold pX11_isBook at h
  refine lv_iload_n hx hb dX11_isBook_0 rfl (lv_at hl 0 rfl) ?_
  refine lv_iconst (v := 0) hx hb dX11_isBook_1 (by decide) ?_
  refine lv_iconst (v := 3) hx hb dX11_isBook_2 (by decide) ?_
  refine m_ci (m_runS (rest := []) hX hw (tX11_isWithin h) mtX11_isWithin k_311 k_312 ⟨⟨rfl, rfl, Nat.le_of_ble_eq_true rfl, Nat.le_of_ble_eq_true rfl⟩, Nat.le_of_ble_eq_true rfl, Nat.le_of_ble_eq_true rfl⟩ rfl hl.1 rfl (Nat.le_of_ble_eq_true rfl) dX11_isBook_3) hw (fun r1 σ2 H locs h hw => ?_)
  exact m_zret hX hlk hr hw h.1 h.2 dX11_isBook_6
theorem mtX11_isBook : Mth yX11_isBook cX11_isBook 1 (some .boolean) 1 := ⟨k_310, k_43, by decide +kernel⟩
theorem tX11_isBook {l : Launch} {D : va_G} {cA : Nat → ClassId} {z0 : Nat} {σ : Me} {x0 : Int32} {Q : Int32 → Me → Prop} (h : pX11_isBook σ x0 Q) : Met l yX11_isBook (Cond.code yX11_isBook cX11_isBook 1 (some .boolean) :: gTab) rX11_isBook (PcM D cA z0 σ [.int x0]) (va_Qi Q (BM D cA z0) (AM z0)) 0 0 (AM z0) :=
  met_of (by decide) (Nat.le_of_ble_eq_true rfl) (fun hX hlk hr hn hw hl => wX11_isBook hX hlk hr h hw hl)
abbrev rX1_weightOfAll : Room := { frames := 0, cells := 0, slots := 0, locals := 0 }
def pX1_weightOfAll (σ : Me) (a0 : Nat) (Q : Int32 → Me → Prop) : Prop := ∃ I4 : Nat → Me → Int32 → Int32 → Prop, (∀ (n4 : Nat) (σ1 : Me) (x1_2 : Int32) (x2_3 : Int32), I4 n4 σ1 x1_2 x2_3 → gT σ1 a0 = 1 ∧ ∃ b5 : Nat, gP σ1 a0 1 = some b5 ∧ gT σ1 b5 = 20 ∧ ((nI (gN σ1 b5)) ≤ x2_3 → Q x1_2 σ1) ∧ (¬ (nI (gN σ1 b5)) ≤ x2_3 → vp_in x2_3 (gN σ1 b5) ∧ ∀ x1_9 : Int32, x1_9 = x1_2 + (gI σ1 b5 x2_3.toNatClampNeg) → ∀ x2_10 : Int32, x2_10 = x2_3 + 1 → ∃ m4 : Nat, m4 < n4 ∧ I4 m4 σ1 x1_9 x2_10)) ∧ ∃ n4 : Nat, I4 n4 σ ((0 : Int32)) ((0 : Int32))
set_option maxHeartbeats 4000000 in
set_option maxRecDepth 100000 in
theorem wX1_weightOfAll {p : Program} {l : Launch} {e : Env} {s : State} {m : MethodId} {args : Array Value} {below : List Frame} {meth : Method} {c : Code} {D : va_G} {cA : Nat → ClassId} {z0 : Nat} (hX : Cx p m c cX1_weightOfAll 3 s args RX1 D cA) (hlk : meth.locks = false) (hr : meth.sig.returnType = (some .int)) {σ : Me} {a0 : Nat} {Q : Int32 → Me → Prop} (h : pX1_weightOfAll σ a0 Q) {H : Heap} {locs : List Loc} {ls : Array Slot} (hw : wS D cA z0 s σ H locs) (hl : lv_has ls 3 [(0, .ref a0)]) : W p l e rX1_weightOfAll s m args below meth c H locs 0 0 (MQ below (va_Qi Q (BM D cA z0) (AM z0)) args s 0 0 (AM z0)) (F0 m 0 ls []) := by
  have hx := hX.1.1
  have hb := hX.1.2.1
  have hown := hX.1.2.2.2.1
  have hts := hX.1.2.2.2.2
  unfold pX1_weightOfAll at h
  refine lv_iconst (v := 0) hx hb dX1_weightOfAll_0 (by decide) ?_
  refine lv_istore_n (lv' := [(1, _), (0, _)]) hx hb dX1_weightOfAll_1 rfl hl (by decide) rfl (fun ls hl => ?_)
  refine lv_iconst (v := 0) hx hb dX1_weightOfAll_2 (by decide) ?_
  refine lv_istore_n (lv' := [(2, _), (1, _), (0, _)]) hx hb dX1_weightOfAll_3 rfl hl (by decide) rfl (fun ls hl => ?_)
  obtain ⟨I4, hI4, n4, h⟩ := h
  have key4 : ∀ (n4 : Nat) (σ1 : Me) (x1_2 : Int32) (x2_3 : Int32) (H : Heap) (locs : List Loc) (ls : Array Slot), I4 n4 σ1 x1_2 x2_3 → wS D cA z0 s σ1 H locs → lv_has ls 3 [(0, .ref a0), (1, .int x1_2), (2, .int x2_3)] → W p l e rX1_weightOfAll s m args below meth c H locs 0 0 (MQ below (va_Qi Q (BM D cA z0) (AM z0)) args s 0 0 (AM z0)) (F0 m 4 ls []) := by
    intro n4
    induction n4 using Nat.strongRecOn with
    | _ n4 ih4 =>
      intro σ1 x1_2 x2_3 H locs ls h hw hl
      have h := hI4 _ _ _ _ h
      refine lv_iload_n hx hb dX1_weightOfAll_4 rfl (lv_at hl 2 rfl) ?_
      refine lv_aload_n hx hb dX1_weightOfAll_5 rfl (lv_at hl 0 rfl) ?_
      obtain ⟨hT4, h⟩ := h
      obtain ⟨b5, hb5, h⟩ := h
      refine m_get hX hw cl1 hT4 1 (by decide) k_127 (fun _ h => h) (v := .ref b5) (congrArg va_rf hb5) dX1_weightOfAll_6 ?_
      obtain ⟨hT6, h⟩ := h
      refine m_alen hX hw (t := 0) (by decide) hT6 dX1_weightOfAll_9 ?_
      refine lv_icmp_ge (tgt := 28) hx hb dX1_weightOfAll_10 (by decide) (fun hc7 => ?_) (fun hc7 => ?_)
      · have h := h.1 hc7
        refine lv_iload_n hx hb dX1_weightOfAll_28 rfl (lv_at hl 1 rfl) ?_
        exact m_iret hX hlk hr hw h dX1_weightOfAll_29
      · have h := h.2 hc7
        refine lv_iload_n hx hb dX1_weightOfAll_13 rfl (lv_at hl 1 rfl) ?_
        refine lv_aload_n hx hb dX1_weightOfAll_14 rfl (lv_at hl 0 rfl) ?_
        refine m_get hX hw cl1 hT4 1 (by decide) k_127 (fun _ h => h) (v := .ref b5) (congrArg va_rf hb5) dX1_weightOfAll_15 ?_
        refine lv_iload_n hx hb dX1_weightOfAll_18 rfl (lv_at hl 2 rfl) ?_
        obtain ⟨hc8, h⟩ := h
        refine m_iald hX hw hT6 hc8 dX1_weightOfAll_19 ?_
        refine lv_iadd hx hb dX1_weightOfAll_20 ?_
        refine lv_topi (fun x1_9 e_x1_9 => ?_)
        have h := h x1_9 e_x1_9
        refine lv_istore_n (lv' := [(1, _), (0, _), (2, _)]) hx hb dX1_weightOfAll_21 rfl hl (by decide) rfl (fun ls hl => ?_)
        obtain ⟨x2_10, e_x2_10⟩ : ∃ y : Int32, y = x2_3 + 1 := ⟨_, rfl⟩
        have h := h x2_10 e_x2_10
        refine lv_iinc (v := x2_10) (lv' := [(2, _), (1, _), (0, _)]) hx hb dX1_weightOfAll_22 hl (k := 2) rfl (by rw [e_x2_10]; rfl) (by decide) rfl (fun ls hl => ?_)
        refine lv_goto (tgt := 4) hx hb dX1_weightOfAll_25 (by decide) ?_
        obtain ⟨m4, hm4, h⟩ := h
        exact ih4 m4 hm4 _ _ _ _ _ _ h hw (lv_sub hl [2, 1, 0] rfl)
  exact key4 _ _ _ _ _ _ _ h hw (lv_sub hl [2, 1, 0] rfl)
theorem mtX1_weightOfAll : Mth yX1_weightOfAll cX1_weightOfAll 3 (some .int) 0 := ⟨k_353, k_45, by decide +kernel⟩
theorem tX1_weightOfAll {l : Launch} {D : va_G} {cA : Nat → ClassId} {z0 : Nat} {σ : Me} {a0 : Nat} {Q : Int32 → Me → Prop} (h : pX1_weightOfAll σ a0 Q) : Met l yX1_weightOfAll (Cond.code yX1_weightOfAll cX1_weightOfAll 3 (some .int) :: gTab) rX1_weightOfAll (PcM D cA z0 σ [.ref a0]) (va_Qi Q (BM D cA z0) (AM z0)) 0 0 (AM z0) :=
  met_of (by decide) (Nat.le_of_ble_eq_true rfl) (fun hX hlk hr hn hw hl => wX1_weightOfAll hX hlk hr h hw hl)
abbrev rX8_add : Room := { frames := 0, cells := 0, slots := 0, locals := 0 }
def pX8_add (σ : Me) (a0 : Nat) (x1 : Int32) (y2 : Int64) (Q : Me → Prop) : Prop := (x1 < 0 → Q σ) ∧ (¬ x1 < 0 → (((481 : Int32)) ≤ x1 → Q σ) ∧ (¬ ((481 : Int32)) ≤ x1 → (((0 : Int64)) < y2 → gT σ a0 = 8 ∧ ∃ b43 : Nat, gP σ a0 1 = some b43 ∧ gT σ b43 = 21 ∧ vp_in x1 (gN σ b43) ∧ ((gL σ b43 x1.toNatClampNeg) = ((0 : Int64)) → (((481 : Int32)) ≤ (gI σ a0 5) → vp_in x1 (gN σ b43) ∧ vp_in x1 (gN σ b43) ∧ ∀ σ69 : Me, σ69 = sL σ b43 x1.toNatClampNeg ((gL σ b43 x1.toNatClampNeg) + y2) → Q σ69) ∧ (¬ ((481 : Int32)) ≤ (gI σ a0 5) → ∃ b70 : Nat, gP σ a0 3 = some b70 ∧ gT σ b70 = 20 ∧ vp_in (gI σ a0 5) (gN σ b70) ∧ ∀ σ73 : Me, σ73 = sI σ b70 (gI σ a0 5).toNatClampNeg x1 → ∀ σ74 : Me, σ74 = sI σ73 a0 5 ((gI σ73 a0 5) + ((1 : Int32))) → vp_in x1 (gN σ74 b43) ∧ vp_in x1 (gN σ74 b43) ∧ ∀ σ77 : Me, σ77 = sL σ74 b43 x1.toNatClampNeg ((gL σ74 b43 x1.toNatClampNeg) + y2) → Q σ77)) ∧ (¬ (gL σ b43 x1.toNatClampNeg) = ((0 : Int64)) → vp_in x1 (gN σ b43) ∧ vp_in x1 (gN σ b43) ∧ ∀ σ65 : Me, σ65 = sL σ b43 x1.toNatClampNeg ((gL σ b43 x1.toNatClampNeg) + y2) → Q σ65)) ∧ (¬ ((0 : Int64)) < y2 → Q σ)))
set_option maxHeartbeats 4000000 in
set_option maxRecDepth 100000 in
theorem wX8_add {p : Program} {l : Launch} {e : Env} {s : State} {m : MethodId} {args : Array Value} {below : List Frame} {meth : Method} {c : Code} {D : va_G} {cA : Nat → ClassId} {z0 : Nat} (hX : Cx p m c cX8_add 4 s args RX8 D cA) (hlk : meth.locks = false) (hr : meth.sig.returnType = none) {σ : Me} {a0 : Nat} {x1 : Int32} {y2 : Int64} {Q : Me → Prop} (h : pX8_add σ a0 x1 y2 Q) {H : Heap} {locs : List Loc} {ls : Array Slot} (hw : wS D cA z0 s σ H locs) (hl : lv_has ls 4 [(0, .ref a0), (1, .int x1), (2, .long y2)]) : W p l e rX8_add s m args below meth c H locs 0 0 (MQ below (va_Qv Q (BM D cA z0) (AM z0)) args s 0 0 (AM z0)) (F0 m 0 ls []) := by
  have hx := hX.1.1
  have hb := hX.1.2.1
  have hown := hX.1.2.2.2.1
  have hts := hX.1.2.2.2.2
  unfold pX8_add at h
  refine lv_iload_n hx hb dX8_add_0 rfl (lv_at hl 1 rfl) ?_
  refine lv_if_lt (tgt := 17) hx hb dX8_add_1 (by decide) (fun hc1 => ?_) (fun hc1 => ?_)
  · have h := h.1 hc1
    exact m_vret hX hlk hr hw h dX8_add_17
  · have h := h.2 hc1
    refine lv_iload_n hx hb dX8_add_4 rfl (lv_at hl 1 rfl) ?_
    refine lv_sipush (v := 481) hx hb dX8_add_5 (by decide) ?_
    refine lv_icmp_ge (tgt := 17) hx hb dX8_add_8 (by decide) (fun hc2 => ?_) (fun hc2 => ?_)
    · have h := h.1 hc2
      exact m_vret hX hlk hr hw h dX8_add_17
    · have h := h.2 hc2
      refine lv_lload_n hx hb dX8_add_11 rfl (lv_at hl 2 rfl) ?_
      refine lv_lconst (v := 0) hx hb dX8_add_12 (by decide) ?_
      refine m_lgt (tgt := 18) hX dX8_add_13 dX8_add_14 (by decide) (fun hc41 => ?_) (fun hc41 => ?_)
      · have h := h.1 hc41
        refine lv_aload_n hx hb dX8_add_18 rfl (lv_at hl 0 rfl) ?_
        obtain ⟨hT42, h⟩ := h
        obtain ⟨b43, hb43, h⟩ := h
        refine m_get hX hw cl8 hT42 1 (by decide) k_141 (fun _ h => h) (v := .ref b43) (congrArg va_rf hb43) dX8_add_19 ?_
        refine lv_iload_n hx hb dX8_add_22 rfl (lv_at hl 1 rfl) ?_
        obtain ⟨hT44, h⟩ := h
        obtain ⟨hc45, h⟩ := h
        refine m_lald hX hw hT44 hc45 dX8_add_23 ?_
        refine lv_lconst (v := 0) hx hb dX8_add_24 (by decide) ?_
        refine m_lne (tgt := 59) hX dX8_add_25 dX8_add_26 (by decide) (fun hc62 => ?_) (fun hc62 => ?_)
        · have h := h.2 hc62
          refine lv_aload_n hx hb dX8_add_59 rfl (lv_at hl 0 rfl) ?_
          refine m_get hX hw cl8 hT42 1 (by decide) k_141 (fun _ h => h) (v := .ref b43) (congrArg va_rf hb43) dX8_add_60 ?_
          refine lv_iload_n hx hb dX8_add_63 rfl (lv_at hl 1 rfl) ?_
          refine lv_dup2_11 hx hb dX8_add_64 rfl rfl ?_
          obtain ⟨hc63, h⟩ := h
          refine m_lald hX hw hT44 hc63 dX8_add_65 ?_
          refine lv_lload_n hx hb dX8_add_66 rfl (lv_at hl 2 rfl) ?_
          refine lv_ladd hx hb dX8_add_67 ?_
          obtain ⟨hc64, h⟩ := h
          refine m_last hX hw hT44 hc64 dX8_add_68 (fun H locs hw => ?_)
          let σ65 : Me := sL σ b43 x1.toNatClampNeg ((gL σ b43 x1.toNatClampNeg) + y2)
          have h := h σ65 rfl
          have hw : wS D cA z0 s σ65 H locs := hw
          exact m_vret hX hlk hr hw h dX8_add_69
        · have h := h.1 hc62
          refine lv_aload_n hx hb dX8_add_29 rfl (lv_at hl 0 rfl) ?_
          refine m_get hX hw cl8 hT42 5 (by decide) k_145 (fun _ h => h) (v := .int _) rfl dX8_add_30 ?_
          refine lv_sipush (v := 481) hx hb dX8_add_33 (by decide) ?_
          refine lv_icmp_ge (tgt := 59) hx hb dX8_add_36 (by decide) (fun hc66 => ?_) (fun hc66 => ?_)
          · have h := h.1 hc66
            refine lv_aload_n hx hb dX8_add_59 rfl (lv_at hl 0 rfl) ?_
            refine m_get hX hw cl8 hT42 1 (by decide) k_141 (fun _ h => h) (v := .ref b43) (congrArg va_rf hb43) dX8_add_60 ?_
            refine lv_iload_n hx hb dX8_add_63 rfl (lv_at hl 1 rfl) ?_
            refine lv_dup2_11 hx hb dX8_add_64 rfl rfl ?_
            obtain ⟨hc67, h⟩ := h
            refine m_lald hX hw hT44 hc67 dX8_add_65 ?_
            refine lv_lload_n hx hb dX8_add_66 rfl (lv_at hl 2 rfl) ?_
            refine lv_ladd hx hb dX8_add_67 ?_
            obtain ⟨hc68, h⟩ := h
            refine m_last hX hw hT44 hc68 dX8_add_68 (fun H locs hw => ?_)
            let σ69 : Me := sL σ b43 x1.toNatClampNeg ((gL σ b43 x1.toNatClampNeg) + y2)
            have h := h σ69 rfl
            have hw : wS D cA z0 s σ69 H locs := hw
            exact m_vret hX hlk hr hw h dX8_add_69
          · have h := h.2 hc66
            refine lv_aload_n hx hb dX8_add_39 rfl (lv_at hl 0 rfl) ?_
            obtain ⟨b70, hb70, h⟩ := h
            refine m_get hX hw cl8 hT42 3 (by decide) k_143 (fun _ h => h) (v := .ref b70) (congrArg va_rf hb70) dX8_add_40 ?_
            refine lv_aload_n hx hb dX8_add_43 rfl (lv_at hl 0 rfl) ?_
            refine m_get hX hw cl8 hT42 5 (by decide) k_145 (fun _ h => h) (v := .int _) rfl dX8_add_44 ?_
            refine lv_iload_n hx hb dX8_add_47 rfl (lv_at hl 1 rfl) ?_
            obtain ⟨hT71, h⟩ := h
            obtain ⟨hc72, h⟩ := h
            refine m_iast hX hw hT71 hc72 dX8_add_48 (fun H locs hw => ?_)
            let σ73 : Me := sI σ b70 (gI σ a0 5).toNatClampNeg x1
            have h := h σ73 rfl
            have hw : wS D cA z0 s σ73 H locs := hw
            refine lv_aload_n hx hb dX8_add_49 rfl (lv_at hl 0 rfl) ?_
            refine lv_dup hx hb dX8_add_50 rfl ?_
            refine m_get hX hw cl8 hT42 5 (by decide) k_145 (fun _ h => h) (v := .int _) rfl dX8_add_51 ?_
            refine lv_iconst (v := 1) hx hb dX8_add_54 (by decide) ?_
            refine lv_iadd hx hb dX8_add_55 ?_
            refine m_putI hX hw cl8 hT42 5 (by decide) k_145 (fun _ h => h) rfl rfl dX8_add_56 (fun H locs hw => ?_)
            let σ74 : Me := sI σ73 a0 5 ((gI σ73 a0 5) + ((1 : Int32)))
            have h := h σ74 rfl
            have hw : wS D cA z0 s σ74 H locs := hw
            refine lv_aload_n hx hb dX8_add_59 rfl (lv_at hl 0 rfl) ?_
            refine m_get hX hw cl8 hT42 1 (by decide) k_141 (fun _ h => h) (v := .ref b43) (congrArg va_rf hb43) dX8_add_60 ?_
            refine lv_iload_n hx hb dX8_add_63 rfl (lv_at hl 1 rfl) ?_
            refine lv_dup2_11 hx hb dX8_add_64 rfl rfl ?_
            obtain ⟨hc75, h⟩ := h
            refine m_lald hX hw hT44 hc75 dX8_add_65 ?_
            refine lv_lload_n hx hb dX8_add_66 rfl (lv_at hl 2 rfl) ?_
            refine lv_ladd hx hb dX8_add_67 ?_
            obtain ⟨hc76, h⟩ := h
            refine m_last hX hw hT44 hc76 dX8_add_68 (fun H locs hw => ?_)
            let σ77 : Me := sL σ74 b43 x1.toNatClampNeg ((gL σ74 b43 x1.toNatClampNeg) + y2)
            have h := h σ77 rfl
            have hw : wS D cA z0 s σ77 H locs := hw
            exact m_vret hX hlk hr hw h dX8_add_69
      · have h := h.2 hc41
        exact m_vret hX hlk hr hw h dX8_add_17
theorem mtX8_add : Mth yX8_add cX8_add 4 none 2 := ⟨k_627, k_46, by decide +kernel⟩
theorem tX8_add {l : Launch} {D : va_G} {cA : Nat → ClassId} {z0 : Nat} {σ : Me} {a0 : Nat} {x1 : Int32} {y2 : Int64} {Q : Me → Prop} (h : pX8_add σ a0 x1 y2 Q) : Met l yX8_add (Cond.code yX8_add cX8_add 4 none :: gTab) rX8_add (PcM D cA z0 σ [.ref a0, .int x1, .long y2]) (va_Qv Q (BM D cA z0) (AM z0)) 0 0 (AM z0) :=
  met_of (by decide) (Nat.le_of_ble_eq_true rfl) (fun hX hlk hr hn hw hl => wX8_add hX hlk hr h hw hl)
abbrev rX8_isPlace : Room := { frames := 0, cells := 0, slots := 0, locals := 0 }
def pX8_isPlace (σ : Me) (x0 : Int32) (Q : Int32 → Me → Prop) : Prop := ∀ v_1 : Int32, v_1 = (if x0 < 0 then ((0 : Int32)) else (if ((481 : Int32)) ≤ x0 then ((0 : Int32)) else ((1 : Int32)))) → (v_1 = 0 ∨ v_1 = 1) ∧ Q v_1 σ
set_option maxHeartbeats 4000000 in
set_option maxRecDepth 100000 in
theorem wX8_isPlace {p : Program} {l : Launch} {e : Env} {s : State} {m : MethodId} {args : Array Value} {below : List Frame} {meth : Method} {c : Code} {D : va_G} {cA : Nat → ClassId} {z0 : Nat} (hX : Cx p m c cX8_isPlace 1 s args RX8 D cA) (hlk : meth.locks = false) (hr : meth.sig.returnType = (some .boolean)) {σ : Me} {x0 : Int32} {Q : Int32 → Me → Prop} (h : pX8_isPlace σ x0 Q) {H : Heap} {locs : List Loc} {ls : Array Slot} (hw : wS D cA z0 s σ H locs) (hl : lv_has ls 1 [(0, .int x0)]) : W p l e rX8_isPlace s m args below meth c H locs 0 0 (MQ below (va_Qi Q (BM D cA z0) (AM z0)) args s 0 0 (AM z0)) (F0 m 0 ls []) := by
  have hx := hX.1.1
  have hb := hX.1.2.1
  have hown := hX.1.2.2.2.1
  have hts := hX.1.2.2.2.2
  unfold pX8_isPlace at h
  refine lv_iload_n hx hb dX8_isPlace_0 rfl (lv_at hl 0 rfl) ?_
  have kM2 : ∀ (v_1 : Int32) (ls : Array Slot), v_1 = (if x0 < 0 then ((0 : Int32)) else (if ((481 : Int32)) ≤ x0 then ((0 : Int32)) else ((1 : Int32)))) → lv_has ls 1 [] → W p l e rX8_isPlace s m args below meth c H locs 0 0 (MQ below (va_Qi Q (BM D cA z0) (AM z0)) args s 0 0 (AM z0)) (F0 m 16 ls [.int v_1]) := by
    intro v_1 ls e_v_1 hl
    have h := h v_1 e_v_1
    exact m_zret hX hlk hr hw h.1 h.2 dX8_isPlace_16
  refine lv_if_lt (tgt := 15) hx hb dX8_isPlace_1 (by decide) (fun hc3 => ?_) (fun hc3 => ?_)
  · refine lv_iconst (v := 0) hx hb dX8_isPlace_15 (by decide) ?_
    exact kM2 _ _ (by first | rfl | rw [if_pos hc3] | simp only [if_pos hc3]) (lv_sub hl [] rfl)
  · refine lv_iload_n hx hb dX8_isPlace_4 rfl (lv_at hl 0 rfl) ?_
    refine lv_sipush (v := 481) hx hb dX8_isPlace_5 (by decide) ?_
    refine lv_icmp_ge (tgt := 15) hx hb dX8_isPlace_8 (by decide) (fun hc4 => ?_) (fun hc4 => ?_)
    · refine lv_iconst (v := 0) hx hb dX8_isPlace_15 (by decide) ?_
      exact kM2 _ _ (by first | rfl | rw [if_neg hc3, if_pos hc4] | simp only [if_neg hc3, if_pos hc4]) (lv_sub hl [] rfl)
    · refine lv_iconst (v := 1) hx hb dX8_isPlace_11 (by decide) ?_
      refine lv_goto (tgt := 16) hx hb dX8_isPlace_12 (by decide) ?_
      exact kM2 _ _ (by first | rfl | rw [if_neg hc3, if_neg hc4] | simp only [if_neg hc3, if_neg hc4]) (lv_sub hl [] rfl)
theorem mtX8_isPlace : Mth yX8_isPlace cX8_isPlace 1 (some .boolean) 1 := ⟨k_638, k_46, by decide +kernel⟩
theorem tX8_isPlace {l : Launch} {D : va_G} {cA : Nat → ClassId} {z0 : Nat} {σ : Me} {x0 : Int32} {Q : Int32 → Me → Prop} (h : pX8_isPlace σ x0 Q) : Met l yX8_isPlace (Cond.code yX8_isPlace cX8_isPlace 1 (some .boolean) :: gTab) rX8_isPlace (PcM D cA z0 σ [.int x0]) (va_Qi Q (BM D cA z0) (AM z0)) 0 0 (AM z0) :=
  met_of (by decide) (Nat.le_of_ble_eq_true rfl) (fun hX hlk hr hn hw hl => wX8_isPlace hX hlk hr h hw hl)
abbrev rX8_placeAt : Room := { frames := 1, cells := 0, slots := 0, locals := 20 }
def pX8_placeAt (σ : Me) (a0 : Nat) (x1 : Int32) (Q : Int32 → Me → Prop) : Prop := pX8_isPlace σ x1 (fun r1 σ2 => (r1 = 0 → Q ((0 : Int32)) σ2) ∧ (¬ r1 = 0 → gT σ2 a0 = 8 ∧ ∃ b6 : Nat, gP σ2 a0 2 = some b6 ∧ gT σ2 b6 = 20 ∧ vp_in x1 (gN σ2 b6) ∧ Q (gI σ2 b6 x1.toNatClampNeg) σ2))
set_option maxHeartbeats 4000000 in
set_option maxRecDepth 100000 in
theorem wX8_placeAt {p : Program} {l : Launch} {e : Env} {s : State} {m : MethodId} {args : Array Value} {below : List Frame} {meth : Method} {c : Code} {D : va_G} {cA : Nat → ClassId} {z0 : Nat} (hX : Cx p m c cX8_placeAt 2 s args RX8 D cA) (hlk : meth.locks = false) (hr : meth.sig.returnType = (some .int)) {σ : Me} {a0 : Nat} {x1 : Int32} {Q : Int32 → Me → Prop} (h : pX8_placeAt σ a0 x1 Q) {H : Heap} {locs : List Loc} {ls : Array Slot} (hw : wS D cA z0 s σ H locs) (hl : lv_has ls 2 [(0, .ref a0), (1, .int x1)]) : W p l e rX8_placeAt s m args below meth c H locs 0 0 (MQ below (va_Qi Q (BM D cA z0) (AM z0)) args s 0 0 (AM z0)) (F0 m 0 ls []) := by
  have hx := hX.1.1
  have hb := hX.1.2.1
  have hown := hX.1.2.2.2.1
  have hts := hX.1.2.2.2.2
  unfold pX8_placeAt at h
  refine lv_iload_n hx hb dX8_placeAt_0 rfl (lv_at hl 1 rfl) ?_
  refine m_ci (m_runS (rest := []) hX hw (tX8_isPlace h) mtX8_isPlace k_636 k_637 ⟨⟨rfl, rfl, Nat.le_of_ble_eq_true rfl, Nat.le_of_ble_eq_true rfl⟩, Nat.le_of_ble_eq_true rfl, Nat.le_of_ble_eq_true rfl⟩ rfl hl.1 rfl (Nat.le_of_ble_eq_true rfl) dX8_placeAt_1) hw (fun r1 σ2 H locs h hw => ?_)
  refine lv_if_eq (tgt := 16) hx hb dX8_placeAt_4 (by decide) (fun hc4 => ?_) (fun hc4 => ?_)
  · have h := h.1 hc4
    refine lv_iconst (v := 0) hx hb dX8_placeAt_16 (by decide) ?_
    exact m_iret hX hlk hr hw h dX8_placeAt_17
  · have h := h.2 hc4
    refine lv_aload_n hx hb dX8_placeAt_7 rfl (lv_at hl 0 rfl) ?_
    obtain ⟨hT5, h⟩ := h
    obtain ⟨b6, hb6, h⟩ := h
    refine m_get hX hw cl8 hT5 2 (by decide) k_142 (fun _ h => h) (v := .ref b6) (congrArg va_rf hb6) dX8_placeAt_8 ?_
    refine lv_iload_n hx hb dX8_placeAt_11 rfl (lv_at hl 1 rfl) ?_
    obtain ⟨hT7, h⟩ := h
    obtain ⟨hc8, h⟩ := h
    refine m_iald hX hw hT7 hc8 dX8_placeAt_12 ?_
    refine lv_goto (tgt := 17) hx hb dX8_placeAt_13 (by decide) ?_
    exact m_iret hX hlk hr hw h dX8_placeAt_17
theorem mtX8_placeAt : Mth yX8_placeAt cX8_placeAt 2 (some .int) 1 := ⟨k_635, k_46, by decide +kernel⟩
theorem tX8_placeAt {l : Launch} {D : va_G} {cA : Nat → ClassId} {z0 : Nat} {σ : Me} {a0 : Nat} {x1 : Int32} {Q : Int32 → Me → Prop} (h : pX8_placeAt σ a0 x1 Q) : Met l yX8_placeAt (Cond.code yX8_placeAt cX8_placeAt 2 (some .int) :: gTab) rX8_placeAt (PcM D cA z0 σ [.ref a0, .int x1]) (va_Qi Q (BM D cA z0) (AM z0)) 0 0 (AM z0) :=
  met_of (by decide) (Nat.le_of_ble_eq_true rfl) (fun hX hlk hr hn hw hl => wX8_placeAt hX hlk hr h hw hl)
abbrev rX8_turnToTomorrow : Room := { frames := 2, cells := 0, slots := 0, locals := 41 }
def pX8_turnToTomorrow (σ : Me) (a0 : Nat) (Q : Me → Prop) : Prop := ∃ I2 : Nat → Me → Int32 → Prop, (∀ (n2 : Nat) (σ1 : Me) (x1_2 : Int32), I2 n2 σ1 x1_2 → gT σ1 a0 = 8 ∧ ((gI σ1 a0 4) ≤ x1_2 → ∃ b19 : Nat, gP σ1 a0 0 = some b19 ∧ ∃ b20 : Nat, gP σ1 a0 1 = some b20 ∧ ∀ σ21 : Me, σ21 = sP σ1 a0 0 (some b20) → ∀ σ22 : Me, σ22 = sP σ21 a0 1 (some b19) → ∃ b23 : Nat, gP σ22 a0 2 = some b23 ∧ ∃ b24 : Nat, gP σ22 a0 3 = some b24 ∧ ∀ σ25 : Me, σ25 = sP σ22 a0 2 (some b24) → ∀ σ26 : Me, σ26 = sP σ25 a0 3 (some b23) → ∀ σ27 : Me, σ27 = sI σ26 a0 4 (gI σ26 a0 5) → ∀ σ28 : Me, σ28 = sI σ27 a0 5 ((0 : Int32)) → Q σ28) ∧ (¬ (gI σ1 a0 4) ≤ x1_2 → pX8_placeAt σ1 a0 x1_2 (fun r29 σ30 => pX8_isPlace σ30 r29 (fun r31 σ32 => (r31 = 0 → ∀ x1_35 : Int32, x1_35 = x1_2 + 1 → ∃ m2 : Nat, m2 < n2 ∧ I2 m2 σ32 x1_35) ∧ (¬ r31 = 0 → gT σ32 a0 = 8 ∧ ∃ b37 : Nat, gP σ32 a0 0 = some b37 ∧ gT σ32 b37 = 21 ∧ vp_in r29 (gN σ32 b37) ∧ ∀ σ40 : Me, σ40 = sL σ32 b37 r29.toNatClampNeg ((0 : Int64)) → ∀ x1_41 : Int32, x1_41 = x1_2 + 1 → ∃ m2 : Nat, m2 < n2 ∧ I2 m2 σ40 x1_41))))) ∧ ∃ n2 : Nat, I2 n2 σ ((0 : Int32))
set_option maxHeartbeats 4000000 in
set_option maxRecDepth 100000 in
theorem wX8_turnToTomorrow {p : Program} {l : Launch} {e : Env} {s : State} {m : MethodId} {args : Array Value} {below : List Frame} {meth : Method} {c : Code} {D : va_G} {cA : Nat → ClassId} {z0 : Nat} (hX : Cx p m c cX8_turnToTomorrow 3 s args RX8 D cA) (hlk : meth.locks = false) (hr : meth.sig.returnType = none) {σ : Me} {a0 : Nat} {Q : Me → Prop} (h : pX8_turnToTomorrow σ a0 Q) {H : Heap} {locs : List Loc} {ls : Array Slot} (hw : wS D cA z0 s σ H locs) (hl : lv_has ls 3 [(0, .ref a0)]) : W p l e rX8_turnToTomorrow s m args below meth c H locs 0 0 (MQ below (va_Qv Q (BM D cA z0) (AM z0)) args s 0 0 (AM z0)) (F0 m 0 ls []) := by
  have hx := hX.1.1
  have hb := hX.1.2.1
  have hown := hX.1.2.2.2.1
  have hts := hX.1.2.2.2.2
  unfold pX8_turnToTomorrow at h
  refine lv_iconst (v := 0) hx hb dX8_turnToTomorrow_0 (by decide) ?_
  refine lv_istore_n (lv' := [(1, _), (0, _)]) hx hb dX8_turnToTomorrow_1 rfl hl (by decide) rfl (fun ls hl => ?_)
  obtain ⟨I2, hI2, n2, h⟩ := h
  have key2 : ∀ (n2 : Nat) (σ1 : Me) (x1_2 : Int32) (H : Heap) (locs : List Loc) (ls : Array Slot), I2 n2 σ1 x1_2 → wS D cA z0 s σ1 H locs → lv_has ls 3 [(0, .ref a0), (1, .int x1_2)] → W p l e rX8_turnToTomorrow s m args below meth c H locs 0 0 (MQ below (va_Qv Q (BM D cA z0) (AM z0)) args s 0 0 (AM z0)) (F0 m 2 ls []) := by
    intro n2
    induction n2 using Nat.strongRecOn with
    | _ n2 ih2 =>
      intro σ1 x1_2 H locs ls h hw hl
      have h := hI2 _ _ _ h
      refine lv_iload_n hx hb dX8_turnToTomorrow_2 rfl (lv_at hl 1 rfl) ?_
      refine lv_aload_n hx hb dX8_turnToTomorrow_3 rfl (lv_at hl 0 rfl) ?_
      obtain ⟨hT3, h⟩ := h
      refine m_get hX hw cl8 hT3 4 (by decide) k_144 (fun _ h => h) (v := .int _) rfl dX8_turnToTomorrow_4 ?_
      refine lv_icmp_ge (tgt := 36) hx hb dX8_turnToTomorrow_7 (by decide) (fun hc18 => ?_) (fun hc18 => ?_)
      · have h := h.1 hc18
        refine lv_aload_n hx hb dX8_turnToTomorrow_36 rfl (lv_at hl 0 rfl) ?_
        obtain ⟨b19, hb19, h⟩ := h
        refine m_get hX hw cl8 hT3 0 (by decide) k_140 (fun _ h => h) (v := .ref b19) (congrArg va_rf hb19) dX8_turnToTomorrow_37 ?_
        refine lv_astore_n (lv' := [(1, _), (0, _)]) hx hb dX8_turnToTomorrow_40 rfl hl (by decide) rfl (fun ls hl => ?_)
        refine lv_aload_n hx hb dX8_turnToTomorrow_41 rfl (lv_at hl 1 rfl) ?_
        refine lv_aload_n hx hb dX8_turnToTomorrow_42 rfl (lv_at hl 1 rfl) ?_
        obtain ⟨b20, hb20, h⟩ := h
        refine m_get hX hw cl8 hT3 1 (by decide) k_141 (fun _ h => h) (v := .ref b20) (congrArg va_rf hb20) dX8_turnToTomorrow_43 ?_
        refine m_putP hX hw cl8 hT3 0 (by decide) k_140 (fun _ h => h) rfl rfl rfl rfl dX8_turnToTomorrow_46 (fun H locs hw => ?_)
        let σ21 : Me := sP σ1 a0 0 (some b20)
        have h := h σ21 rfl
        have hw : wS D cA z0 s σ21 H locs := hw
        refine lv_aload_n hx hb dX8_turnToTomorrow_49 rfl (lv_at hl 1 rfl) ?_
        refine lv_aload_n hx hb dX8_turnToTomorrow_50 rfl (lv_at hl 0 rfl) ?_
        refine m_putP hX hw cl8 hT3 1 (by decide) k_141 (fun _ h => h) rfl rfl rfl rfl dX8_turnToTomorrow_51 (fun H locs hw => ?_)
        let σ22 : Me := sP σ21 a0 1 (some b19)
        have h := h σ22 rfl
        have hw : wS D cA z0 s σ22 H locs := hw
        refine lv_aload_n hx hb dX8_turnToTomorrow_54 rfl (lv_at hl 1 rfl) ?_
        obtain ⟨b23, hb23, h⟩ := h
        refine m_get hX hw cl8 hT3 2 (by decide) k_142 (fun _ h => h) (v := .ref b23) (congrArg va_rf hb23) dX8_turnToTomorrow_55 ?_
        refine lv_astore_n (lv' := [(2, _), (1, _), (0, _)]) hx hb dX8_turnToTomorrow_58 rfl hl (by decide) rfl (fun ls hl => ?_)
        refine lv_aload_n hx hb dX8_turnToTomorrow_59 rfl (lv_at hl 2 rfl) ?_
        refine lv_aload_n hx hb dX8_turnToTomorrow_60 rfl (lv_at hl 2 rfl) ?_
        obtain ⟨b24, hb24, h⟩ := h
        refine m_get hX hw cl8 hT3 3 (by decide) k_143 (fun _ h => h) (v := .ref b24) (congrArg va_rf hb24) dX8_turnToTomorrow_61 ?_
        refine m_putP hX hw cl8 hT3 2 (by decide) k_142 (fun _ h => h) rfl rfl rfl rfl dX8_turnToTomorrow_64 (fun H locs hw => ?_)
        let σ25 : Me := sP σ22 a0 2 (some b24)
        have h := h σ25 rfl
        have hw : wS D cA z0 s σ25 H locs := hw
        refine lv_aload_n hx hb dX8_turnToTomorrow_67 rfl (lv_at hl 2 rfl) ?_
        refine lv_aload_n hx hb dX8_turnToTomorrow_68 rfl (lv_at hl 0 rfl) ?_
        refine m_putP hX hw cl8 hT3 3 (by decide) k_143 (fun _ h => h) rfl rfl rfl rfl dX8_turnToTomorrow_69 (fun H locs hw => ?_)
        let σ26 : Me := sP σ25 a0 3 (some b23)
        have h := h σ26 rfl
        have hw : wS D cA z0 s σ26 H locs := hw
        refine lv_aload_n hx hb dX8_turnToTomorrow_72 rfl (lv_at hl 2 rfl) ?_
        refine lv_aload_n hx hb dX8_turnToTomorrow_73 rfl (lv_at hl 2 rfl) ?_
        refine m_get hX hw cl8 hT3 5 (by decide) k_145 (fun _ h => h) (v := .int _) rfl dX8_turnToTomorrow_74 ?_
        refine m_putI hX hw cl8 hT3 4 (by decide) k_144 (fun _ h => h) rfl rfl dX8_turnToTomorrow_77 (fun H locs hw => ?_)
        let σ27 : Me := sI σ26 a0 4 (gI σ26 a0 5)
        have h := h σ27 rfl
        have hw : wS D cA z0 s σ27 H locs := hw
        refine lv_aload_n hx hb dX8_turnToTomorrow_80 rfl (lv_at hl 2 rfl) ?_
        refine lv_iconst (v := 0) hx hb dX8_turnToTomorrow_81 (by decide) ?_
        refine m_putI hX hw cl8 hT3 5 (by decide) k_145 (fun _ h => h) rfl rfl dX8_turnToTomorrow_82 (fun H locs hw => ?_)
        let σ28 : Me := sI σ27 a0 5 ((0 : Int32))
        have h := h σ28 rfl
        have hw : wS D cA z0 s σ28 H locs := hw
        exact m_vret hX hlk hr hw h dX8_turnToTomorrow_85
      · have h := h.2 hc18
        refine lv_aload_n hx hb dX8_turnToTomorrow_10 rfl (lv_at hl 0 rfl) ?_
        refine lv_iload_n hx hb dX8_turnToTomorrow_11 rfl (lv_at hl 1 rfl) ?_
        refine m_ci (m_runV (rest := []) hX hw (tX8_placeAt h) mtX8_placeAt k_632 ⟨k_633, k_634⟩ cl8 hT3 ⟨⟨rfl, rfl, Nat.le_of_ble_eq_true rfl, Nat.le_of_ble_eq_true rfl⟩, Nat.le_of_ble_eq_true rfl, Nat.le_of_ble_eq_true rfl⟩ rfl hl.1 rfl (Nat.le_of_ble_eq_true rfl) dX8_turnToTomorrow_12) hw (fun r29 σ30 H locs h hw => ?_)
        refine lv_istore_n (lv' := [(2, _), (0, _), (1, _)]) hx hb dX8_turnToTomorrow_15 rfl hl (by decide) rfl (fun ls hl => ?_)
        refine lv_iload_n hx hb dX8_turnToTomorrow_16 rfl (lv_at hl 0 rfl) ?_
        refine m_ci (m_runS (rest := []) hX hw (tX8_isPlace h) mtX8_isPlace k_636 k_637 ⟨⟨rfl, rfl, Nat.le_of_ble_eq_true rfl, Nat.le_of_ble_eq_true rfl⟩, Nat.le_of_ble_eq_true rfl, Nat.le_of_ble_eq_true rfl⟩ rfl hl.1 rfl (Nat.le_of_ble_eq_true rfl) dX8_turnToTomorrow_17) hw (fun r31 σ32 H locs h hw => ?_)
        refine lv_if_eq (tgt := 30) hx hb dX8_turnToTomorrow_20 (by decide) (fun hc34 => ?_) (fun hc34 => ?_)
        · have h := h.1 hc34
          obtain ⟨x1_35, e_x1_35⟩ : ∃ y : Int32, y = x1_2 + 1 := ⟨_, rfl⟩
          have h := h x1_35 e_x1_35
          refine lv_iinc (v := x1_35) (lv' := [(1, _), (2, _), (0, _)]) hx hb dX8_turnToTomorrow_30 hl (k := 2) rfl (by rw [e_x1_35]; rfl) (by decide) rfl (fun ls hl => ?_)
          refine lv_goto (tgt := 2) hx hb dX8_turnToTomorrow_33 (by decide) ?_
          obtain ⟨m2, hm2, h⟩ := h
          exact ih2 m2 hm2 _ _ _ _ _ h hw (lv_sub hl [2, 0] rfl)
        · have h := h.2 hc34
          refine lv_aload_n hx hb dX8_turnToTomorrow_23 rfl (lv_at hl 1 rfl) ?_
          obtain ⟨hT36, h⟩ := h
          obtain ⟨b37, hb37, h⟩ := h
          refine m_get hX hw cl8 hT36 0 (by decide) k_140 (fun _ h => h) (v := .ref b37) (congrArg va_rf hb37) dX8_turnToTomorrow_24 ?_
          refine lv_iload_n hx hb dX8_turnToTomorrow_27 rfl (lv_at hl 0 rfl) ?_
          refine lv_lconst (v := 0) hx hb dX8_turnToTomorrow_28 (by decide) ?_
          obtain ⟨hT38, h⟩ := h
          obtain ⟨hc39, h⟩ := h
          refine m_last hX hw hT38 hc39 dX8_turnToTomorrow_29 (fun H locs hw => ?_)
          let σ40 : Me := sL σ32 b37 r29.toNatClampNeg ((0 : Int64))
          have h := h σ40 rfl
          have hw : wS D cA z0 s σ40 H locs := hw
          obtain ⟨x1_41, e_x1_41⟩ : ∃ y : Int32, y = x1_2 + 1 := ⟨_, rfl⟩
          have h := h x1_41 e_x1_41
          refine lv_iinc (v := x1_41) (lv' := [(1, _), (2, _), (0, _)]) hx hb dX8_turnToTomorrow_30 hl (k := 2) rfl (by rw [e_x1_41]; rfl) (by decide) rfl (fun ls hl => ?_)
          refine lv_goto (tgt := 2) hx hb dX8_turnToTomorrow_33 (by decide) ?_
          obtain ⟨m2, hm2, h⟩ := h
          exact ih2 m2 hm2 _ _ _ _ _ h hw (lv_sub hl [2, 0] rfl)
  exact key2 _ _ _ _ _ _ h hw (lv_sub hl [1, 0] rfl)
theorem mtX8_turnToTomorrow : Mth yX8_turnToTomorrow cX8_turnToTomorrow 3 none 0 := ⟨k_631, k_46, by decide +kernel⟩
theorem tX8_turnToTomorrow {l : Launch} {D : va_G} {cA : Nat → ClassId} {z0 : Nat} {σ : Me} {a0 : Nat} {Q : Me → Prop} (h : pX8_turnToTomorrow σ a0 Q) : Met l yX8_turnToTomorrow (Cond.code yX8_turnToTomorrow cX8_turnToTomorrow 3 none :: gTab) rX8_turnToTomorrow (PcM D cA z0 σ [.ref a0]) (va_Qv Q (BM D cA z0) (AM z0)) 0 0 (AM z0) :=
  met_of (by decide) (Nat.le_of_ble_eq_true rfl) (fun hX hlk hr hn hw hl => wX8_turnToTomorrow hX hlk hr h hw hl)
abbrev rX11_refuse : Room := { frames := 1, cells := 0, slots := 0, locals := 22 }
def pX11_refuse (σ : Me) (a0 : Nat) (x1 : Int32) (Q : Int32 → Me → Prop) : Prop := gT σ a0 = 11 ∧ ∀ σ2 : Me, σ2 = sI σ a0 16 x1 → pX11_isWithin σ2 x1 ((1 : Int32)) ((5 : Int32)) (fun r3 σ4 => (r3 = 0 → Q ((-3 : Int32)) σ4) ∧ (¬ r3 = 0 → gT σ4 a0 = 11 ∧ ∃ b8 : Nat, gP σ4 a0 17 = some b8 ∧ gT σ4 b8 = 20 ∧ vp_in x1 (gN σ4 b8) ∧ vp_in x1 (gN σ4 b8) ∧ ∀ σ12 : Me, σ12 = sI σ4 b8 x1.toNatClampNeg ((gI σ4 b8 x1.toNatClampNeg) + ((1 : Int32))) → Q ((-3 : Int32)) σ12))
set_option maxHeartbeats 4000000 in
set_option maxRecDepth 100000 in
theorem wX11_refuse {p : Program} {l : Launch} {e : Env} {s : State} {m : MethodId} {args : Array Value} {below : List Frame} {meth : Method} {c : Code} {D : va_G} {cA : Nat → ClassId} {z0 : Nat} (hX : Cx p m c cX11_refuse 2 s args RX11 D cA) (hlk : meth.locks = false) (hr : meth.sig.returnType = (some .int)) {σ : Me} {a0 : Nat} {x1 : Int32} {Q : Int32 → Me → Prop} (h : pX11_refuse σ a0 x1 Q) {H : Heap} {locs : List Loc} {ls : Array Slot} (hw : wS D cA z0 s σ H locs) (hl : lv_has ls 2 [(0, .ref a0), (1, .int x1)]) : W p l e rX11_refuse s m args below meth c H locs 0 0 (MQ below (va_Qi Q (BM D cA z0) (AM z0)) args s 0 0 (AM z0)) (F0 m 0 ls []) := by
  have hx := hX.1.1
  have hb := hX.1.2.1
  have hown := hX.1.2.2.2.1
  have hts := hX.1.2.2.2.2
  unfold pX11_refuse at h
  refine lv_aload_n hx hb dX11_refuse_0 rfl (lv_at hl 0 rfl) ?_
  refine lv_iload_n hx hb dX11_refuse_1 rfl (lv_at hl 1 rfl) ?_
  obtain ⟨hT1, h⟩ := h
  refine m_putI hX hw cl11 hT1 16 (by decide) k_265 (fun _ h => h) rfl rfl dX11_refuse_2 (fun H locs hw => ?_)
  let σ2 : Me := sI σ a0 16 x1
  have h := h σ2 rfl
  have hw : wS D cA z0 s σ2 H locs := hw
  refine lv_iload_n hx hb dX11_refuse_5 rfl (lv_at hl 1 rfl) ?_
  refine lv_iconst (v := 1) hx hb dX11_refuse_6 (by decide) ?_
  refine lv_iconst (v := 5) hx hb dX11_refuse_7 (by decide) ?_
  refine m_ci (m_runS (rest := []) hX hw (tX11_isWithin h) mtX11_isWithin k_311 k_312 ⟨⟨rfl, rfl, Nat.le_of_ble_eq_true rfl, Nat.le_of_ble_eq_true rfl⟩, Nat.le_of_ble_eq_true rfl, Nat.le_of_ble_eq_true rfl⟩ rfl hl.1 rfl (Nat.le_of_ble_eq_true rfl) dX11_refuse_8) hw (fun r3 σ4 H locs h hw => ?_)
  refine lv_if_eq (tgt := 24) hx hb dX11_refuse_11 (by decide) (fun hc6 => ?_) (fun hc6 => ?_)
  · have h := h.1 hc6
    refine lv_bipush (v := (-3)) hx hb dX11_refuse_24 (by decide) ?_
    exact m_iret hX hlk hr hw h dX11_refuse_26
  · have h := h.2 hc6
    refine lv_aload_n hx hb dX11_refuse_14 rfl (lv_at hl 0 rfl) ?_
    obtain ⟨hT7, h⟩ := h
    obtain ⟨b8, hb8, h⟩ := h
    refine m_get hX hw cl11 hT7 17 (by decide) k_266 (fun _ h => h) (v := .ref b8) (congrArg va_rf hb8) dX11_refuse_15 ?_
    refine lv_iload_n hx hb dX11_refuse_18 rfl (lv_at hl 1 rfl) ?_
    refine lv_dup2_11 hx hb dX11_refuse_19 rfl rfl ?_
    obtain ⟨hT9, h⟩ := h
    obtain ⟨hc10, h⟩ := h
    refine m_iald hX hw hT9 hc10 dX11_refuse_20 ?_
    refine lv_iconst (v := 1) hx hb dX11_refuse_21 (by decide) ?_
    refine lv_iadd hx hb dX11_refuse_22 ?_
    obtain ⟨hc11, h⟩ := h
    refine m_iast hX hw hT9 hc11 dX11_refuse_23 (fun H locs hw => ?_)
    let σ12 : Me := sI σ4 b8 x1.toNatClampNeg ((gI σ4 b8 x1.toNatClampNeg) + ((1 : Int32)))
    have h := h σ12 rfl
    have hw : wS D cA z0 s σ12 H locs := hw
    refine lv_bipush (v := (-3)) hx hb dX11_refuse_24 (by decide) ?_
    exact m_iret hX hlk hr hw h dX11_refuse_26
theorem mtX11_refuse : Mth yX11_refuse cX11_refuse 2 (some .int) 1 := ⟨k_325, k_43, by decide +kernel⟩
theorem tX11_refuse {l : Launch} {D : va_G} {cA : Nat → ClassId} {z0 : Nat} {σ : Me} {a0 : Nat} {x1 : Int32} {Q : Int32 → Me → Prop} (h : pX11_refuse σ a0 x1 Q) : Met l yX11_refuse (Cond.code yX11_refuse cX11_refuse 2 (some .int) :: gTab) rX11_refuse (PcM D cA z0 σ [.ref a0, .int x1]) (va_Qi Q (BM D cA z0) (AM z0)) 0 0 (AM z0) :=
  met_of (by decide) (Nat.le_of_ble_eq_true rfl) (fun hX hlk hr hn hw hl => wX11_refuse hX hlk hr h hw hl)
abbrev rX12_day : Room := { frames := 0, cells := 0, slots := 0, locals := 0 }
def pX12_day (σ : Me) (a0 : Nat) (x1 : Int32) (x2 : Int32) (x3 : Int32) (x4 : Int32) (x5 : Int32) (Q : Me → Prop) : Prop := gT σ a0 = 12 ∧ ∀ v_2 : Int32, v_2 = (if (gI σ a0 18) = 0 then x4 else x2) → ∀ v_4 : Int32, v_4 = (if (gI σ a0 18) = 0 then ((0 : Int32)) else (if (gI σ a0 18) = ((1 : Int32)) then x4 else x3)) → ∀ σ6 : Me, σ6 = sI σ a0 25 v_4 → ∀ v_7 : Int32, v_7 = (if (gI σ6 a0 18) = ((2 : Int32)) then x4 else ((0 : Int32))) → ∀ σ9 : Me, σ9 = sI σ6 a0 26 v_7 → ∀ v_10 : Int32, v_10 = (if (x1 + v_2) ≤ (gI σ9 a0 17) then (x1 + v_2) else (gI σ9 a0 17)) → ∀ v_12 : Int32, v_12 = (if v_10 ≤ 0 then ((0 : Int32)) else v_10) → ∀ v_14 : Int32, v_14 = (if v_12 ≤ x5 then v_12 else x5) → ∀ σ16 : Me, σ16 = sI σ9 a0 28 v_14 → ∀ σ17 : Me, σ17 = sI σ16 a0 29 (x5 - (gI σ16 a0 28)) → ∀ x7_18 : Int32, x7_18 = v_10 - x5 → ∀ v_19 : Int32, v_19 = (if (gI σ17 a0 19) = 0 then ((0 : Int32)) else ((-12 : Int32))) → ∀ v_21 : Int32, v_21 = (if v_19 ≤ x7_18 then x7_18 else v_19) → ∀ σ23 : Me, σ23 = sI σ17 a0 24 v_21 → ∀ v_24 : Int32, v_24 = (if x4 ≤ 0 then ((0 : Int32)) else (gI σ23 a0 20)) → ∀ v_26 : Int32, v_26 = (if (gI σ23 a0 24) ≤ 0 then ((0 : Int32)) else (gI σ23 a0 24)) → ∀ σ28 : Me, σ28 = sI σ23 a0 27 (((v_24 + ((gI σ23 a0 21) * x4)) + ((gI σ23 a0 22) * v_26)) + ((gI σ23 a0 23) * (gI σ23 a0 29))) → Q σ28
set_option maxHeartbeats 4000000 in
set_option maxRecDepth 100000 in
theorem wX12_day {p : Program} {l : Launch} {e : Env} {s : State} {m : MethodId} {args : Array Value} {below : List Frame} {meth : Method} {c : Code} {D : va_G} {cA : Nat → ClassId} {z0 : Nat} (hX : Cx p m c cX12_day 10 s args RX12 D cA) (hlk : meth.locks = false) (hr : meth.sig.returnType = none) {σ : Me} {a0 : Nat} {x1 : Int32} {x2 : Int32} {x3 : Int32} {x4 : Int32} {x5 : Int32} {Q : Me → Prop} (h : pX12_day σ a0 x1 x2 x3 x4 x5 Q) {H : Heap} {locs : List Loc} {ls : Array Slot} (hw : wS D cA z0 s σ H locs) (hl : lv_has ls 10 [(0, .ref a0), (1, .int x1), (2, .int x2), (3, .int x3), (4, .int x4), (5, .int x5)]) : W p l e rX12_day s m args below meth c H locs 0 0 (MQ below (va_Qv Q (BM D cA z0) (AM z0)) args s 0 0 (AM z0)) (F0 m 0 ls []) := by
  have hx := hX.1.1
  have hb := hX.1.2.1
  have hown := hX.1.2.2.2.1
  have hts := hX.1.2.2.2.2
  unfold pX12_day at h
  refine lv_aload_n hx hb dX12_day_0 rfl (lv_at hl 0 rfl) ?_
  obtain ⟨hT1, h⟩ := h
  refine m_get hX hw cl12 hT1 18 (by decide) k_892 (fun _ h => h) (v := .int _) rfl dX12_day_1 ?_
  have kM3 : ∀ (v_2 : Int32) (ls : Array Slot), v_2 = (if (gI σ a0 18) = 0 then x4 else x2) → lv_has ls 10 [(0, .ref a0), (1, .int x1), (3, .int x3), (4, .int x4), (5, .int x5)] → W p l e rX12_day s m args below meth c H locs 0 0 (MQ below (va_Qv Q (BM D cA z0) (AM z0)) args s 0 0 (AM z0)) (F0 m 13 ls [.int v_2]) := by
    intro v_2 ls e_v_2 hl
    have h := h v_2 e_v_2
    refine lv_istore (lv' := [(6, _), (0, _), (1, _), (3, _), (4, _), (5, _)]) hx hb dX12_day_13 hl (by decide) rfl (fun ls hl => ?_)
    refine lv_aload_n hx hb dX12_day_15 rfl (lv_at hl 1 rfl) ?_
    refine lv_aload_n hx hb dX12_day_16 rfl (lv_at hl 1 rfl) ?_
    refine m_get hX hw cl12 hT1 18 (by decide) k_892 (fun _ h => h) (v := .int _) rfl dX12_day_17 ?_
    have kM5 : ∀ (v_4 : Int32) (ls : Array Slot), v_4 = (if (gI σ a0 18) = 0 then ((0 : Int32)) else (if (gI σ a0 18) = ((1 : Int32)) then x4 else x3)) → lv_has ls 10 [(6, .int v_2), (0, .ref a0), (1, .int x1), (4, .int x4), (5, .int x5)] → W p l e rX12_day s m args below meth c H locs 0 0 (MQ below (va_Qv Q (BM D cA z0) (AM z0)) args s 0 0 (AM z0)) (F0 m 41 ls [.int v_4, .ref a0]) := by
      intro v_4 ls e_v_4 hl
      have h := h v_4 e_v_4
      refine m_putI hX hw cl12 hT1 25 (by decide) k_899 (fun _ h => h) rfl rfl dX12_day_41 (fun H locs hw => ?_)
      let σ6 : Me := sI σ a0 25 v_4
      have h := h σ6 rfl
      have hw : wS D cA z0 s σ6 H locs := hw
      refine lv_aload_n hx hb dX12_day_44 rfl (lv_at hl 1 rfl) ?_
      refine lv_aload_n hx hb dX12_day_45 rfl (lv_at hl 1 rfl) ?_
      refine m_get hX hw cl12 hT1 18 (by decide) k_892 (fun _ h => h) (v := .int _) rfl dX12_day_46 ?_
      refine lv_iconst (v := 2) hx hb dX12_day_49 (by decide) ?_
      have kM8 : ∀ (v_7 : Int32) (ls : Array Slot), v_7 = (if (gI σ6 a0 18) = ((2 : Int32)) then x4 else ((0 : Int32))) → lv_has ls 10 [(6, .int v_2), (0, .ref a0), (1, .int x1), (4, .int x4), (5, .int x5)] → W p l e rX12_day s m args below meth c H locs 0 0 (MQ below (va_Qv Q (BM D cA z0) (AM z0)) args s 0 0 (AM z0)) (F0 m 59 ls [.int v_7, .ref a0]) := by
        intro v_7 ls e_v_7 hl
        have h := h v_7 e_v_7
        refine m_putI hX hw cl12 hT1 26 (by decide) k_900 (fun _ h => h) rfl rfl dX12_day_59 (fun H locs hw => ?_)
        let σ9 : Me := sI σ6 a0 26 v_7
        have h := h σ9 rfl
        have hw : wS D cA z0 s σ9 H locs := hw
        refine lv_iload_n hx hb dX12_day_62 rfl (lv_at hl 2 rfl) ?_
        refine lv_iload hx hb dX12_day_63 (lv_at hl 0 rfl) ?_
        refine lv_iadd hx hb dX12_day_65 ?_
        refine lv_aload_n hx hb dX12_day_66 rfl (lv_at hl 1 rfl) ?_
        refine m_get hX hw cl12 hT1 17 (by decide) k_891 (fun _ h => h) (v := .int _) rfl dX12_day_67 ?_
        have kM11 : ∀ (v_10 : Int32) (ls : Array Slot), v_10 = (if (x1 + v_2) ≤ (gI σ9 a0 17) then (x1 + v_2) else (gI σ9 a0 17)) → lv_has ls 10 [(0, .ref a0), (4, .int x4), (5, .int x5)] → W p l e rX12_day s m args below meth c H locs 0 0 (MQ below (va_Qv Q (BM D cA z0) (AM z0)) args s 0 0 (AM z0)) (F0 m 84 ls [.int v_10]) := by
          intro v_10 ls e_v_10 hl
          have h := h v_10 e_v_10
          refine lv_istore (lv' := [(7, _), (0, _), (4, _), (5, _)]) hx hb dX12_day_84 hl (by decide) rfl (fun ls hl => ?_)
          refine lv_iload hx hb dX12_day_86 (lv_at hl 0 rfl) ?_
          have kM13 : ∀ (v_12 : Int32) (ls : Array Slot), v_12 = (if v_10 ≤ 0 then ((0 : Int32)) else v_10) → lv_has ls 10 [(7, .int v_10), (0, .ref a0), (4, .int x4), (5, .int x5)] → W p l e rX12_day s m args below meth c H locs 0 0 (MQ below (va_Qv Q (BM D cA z0) (AM z0)) args s 0 0 (AM z0)) (F0 m 97 ls [.int v_12]) := by
            intro v_12 ls e_v_12 hl
            have h := h v_12 e_v_12
            refine lv_istore (lv' := [(8, _), (7, _), (0, _), (4, _), (5, _)]) hx hb dX12_day_97 hl (by decide) rfl (fun ls hl => ?_)
            refine lv_aload_n hx hb dX12_day_99 rfl (lv_at hl 2 rfl) ?_
            refine lv_iload hx hb dX12_day_100 (lv_at hl 4 rfl) ?_
            refine lv_iload hx hb dX12_day_102 (lv_at hl 0 rfl) ?_
            have kM15 : ∀ (v_14 : Int32) (ls : Array Slot), v_14 = (if v_12 ≤ x5 then v_12 else x5) → lv_has ls 10 [(7, .int v_10), (0, .ref a0), (4, .int x4), (5, .int x5)] → W p l e rX12_day s m args below meth c H locs 0 0 (MQ below (va_Qv Q (BM D cA z0) (AM z0)) args s 0 0 (AM z0)) (F0 m 114 ls [.int v_14, .ref a0]) := by
              intro v_14 ls e_v_14 hl
              have h := h v_14 e_v_14
              refine m_putI hX hw cl12 hT1 28 (by decide) k_902 (fun _ h => h) rfl rfl dX12_day_114 (fun H locs hw => ?_)
              let σ16 : Me := sI σ9 a0 28 v_14
              have h := h σ16 rfl
              have hw : wS D cA z0 s σ16 H locs := hw
              refine lv_aload_n hx hb dX12_day_117 rfl (lv_at hl 1 rfl) ?_
              refine lv_iload hx hb dX12_day_118 (lv_at hl 3 rfl) ?_
              refine lv_aload_n hx hb dX12_day_120 rfl (lv_at hl 1 rfl) ?_
              refine m_get hX hw cl12 hT1 28 (by decide) k_902 (fun _ h => h) (v := .int _) rfl dX12_day_121 ?_
              refine lv_isub hx hb dX12_day_124 ?_
              refine m_putI hX hw cl12 hT1 29 (by decide) k_903 (fun _ h => h) rfl rfl dX12_day_125 (fun H locs hw => ?_)
              let σ17 : Me := sI σ16 a0 29 (x5 - (gI σ16 a0 28))
              have h := h σ17 rfl
              have hw : wS D cA z0 s σ17 H locs := hw
              refine lv_iload hx hb dX12_day_128 (lv_at hl 0 rfl) ?_
              refine lv_iload hx hb dX12_day_130 (lv_at hl 3 rfl) ?_
              refine lv_isub hx hb dX12_day_132 ?_
              refine lv_topi (fun x7_18 e_x7_18 => ?_)
              have h := h x7_18 e_x7_18
              refine lv_istore (lv' := [(7, _), (0, _), (4, _), (5, _)]) hx hb dX12_day_133 hl (by decide) rfl (fun ls hl => ?_)
              refine lv_aload_n hx hb dX12_day_135 rfl (lv_at hl 1 rfl) ?_
              refine m_get hX hw cl12 hT1 19 (by decide) k_893 (fun _ h => h) (v := .int _) rfl dX12_day_136 ?_
              have kM20 : ∀ (v_19 : Int32) (ls : Array Slot), v_19 = (if (gI σ17 a0 19) = 0 then ((0 : Int32)) else ((-12 : Int32))) → lv_has ls 10 [(7, .int x7_18), (0, .ref a0), (4, .int x4)] → W p l e rX12_day s m args below meth c H locs 0 0 (MQ below (va_Qv Q (BM D cA z0) (AM z0)) args s 0 0 (AM z0)) (F0 m 148 ls [.int v_19]) := by
                intro v_19 ls e_v_19 hl
                have h := h v_19 e_v_19
                refine lv_istore (lv' := [(9, _), (7, _), (0, _), (4, _)]) hx hb dX12_day_148 hl (by decide) rfl (fun ls hl => ?_)
                refine lv_aload_n hx hb dX12_day_150 rfl (lv_at hl 2 rfl) ?_
                refine lv_iload hx hb dX12_day_151 (lv_at hl 1 rfl) ?_
                refine lv_iload hx hb dX12_day_153 (lv_at hl 0 rfl) ?_
                have kM22 : ∀ (v_21 : Int32) (ls : Array Slot), v_21 = (if v_19 ≤ x7_18 then x7_18 else v_19) → lv_has ls 10 [(0, .ref a0), (4, .int x4)] → W p l e rX12_day s m args below meth c H locs 0 0 (MQ below (va_Qv Q (BM D cA z0) (AM z0)) args s 0 0 (AM z0)) (F0 m 165 ls [.int v_21, .ref a0]) := by
                  intro v_21 ls e_v_21 hl
                  have h := h v_21 e_v_21
                  refine m_putI hX hw cl12 hT1 24 (by decide) k_898 (fun _ h => h) rfl rfl dX12_day_165 (fun H locs hw => ?_)
                  let σ23 : Me := sI σ17 a0 24 v_21
                  have h := h σ23 rfl
                  have hw : wS D cA z0 s σ23 H locs := hw
                  refine lv_aload_n hx hb dX12_day_168 rfl (lv_at hl 0 rfl) ?_
                  refine lv_iload hx hb dX12_day_169 (lv_at hl 1 rfl) ?_
                  have kM25 : ∀ (v_24 : Int32) (ls : Array Slot), v_24 = (if x4 ≤ 0 then ((0 : Int32)) else (gI σ23 a0 20)) → lv_has ls 10 [(0, .ref a0), (4, .int x4)] → W p l e rX12_day s m args below meth c H locs 0 0 (MQ below (va_Qv Q (BM D cA z0) (AM z0)) args s 0 0 (AM z0)) (F0 m 182 ls [.int v_24, .ref a0]) := by
                    intro v_24 ls e_v_24 hl
                    have h := h v_24 e_v_24
                    refine lv_aload_n hx hb dX12_day_182 rfl (lv_at hl 0 rfl) ?_
                    refine m_get hX hw cl12 hT1 21 (by decide) k_895 (fun _ h => h) (v := .int _) rfl dX12_day_183 ?_
                    refine lv_iload hx hb dX12_day_186 (lv_at hl 1 rfl) ?_
                    refine lv_imul hx hb dX12_day_188 ?_
                    refine lv_iadd hx hb dX12_day_189 ?_
                    refine lv_aload_n hx hb dX12_day_190 rfl (lv_at hl 0 rfl) ?_
                    refine m_get hX hw cl12 hT1 22 (by decide) k_896 (fun _ h => h) (v := .int _) rfl dX12_day_191 ?_
                    refine lv_aload_n hx hb dX12_day_194 rfl (lv_at hl 0 rfl) ?_
                    refine m_get hX hw cl12 hT1 24 (by decide) k_898 (fun _ h => h) (v := .int _) rfl dX12_day_195 ?_
                    have kM27 : ∀ (v_26 : Int32) (ls : Array Slot), v_26 = (if (gI σ23 a0 24) ≤ 0 then ((0 : Int32)) else (gI σ23 a0 24)) → lv_has ls 10 [(0, .ref a0)] → W p l e rX12_day s m args below meth c H locs 0 0 (MQ below (va_Qv Q (BM D cA z0) (AM z0)) args s 0 0 (AM z0)) (F0 m 209 ls [.int v_26, .int (gI σ23 a0 22), .int (v_24 + ((gI σ23 a0 21) * x4)), .ref a0]) := by
                      intro v_26 ls e_v_26 hl
                      have h := h v_26 e_v_26
                      refine lv_imul hx hb dX12_day_209 ?_
                      refine lv_iadd hx hb dX12_day_210 ?_
                      refine lv_aload_n hx hb dX12_day_211 rfl (lv_at hl 0 rfl) ?_
                      refine m_get hX hw cl12 hT1 23 (by decide) k_897 (fun _ h => h) (v := .int _) rfl dX12_day_212 ?_
                      refine lv_aload_n hx hb dX12_day_215 rfl (lv_at hl 0 rfl) ?_
                      refine m_get hX hw cl12 hT1 29 (by decide) k_903 (fun _ h => h) (v := .int _) rfl dX12_day_216 ?_
                      refine lv_imul hx hb dX12_day_219 ?_
                      refine lv_iadd hx hb dX12_day_220 ?_
                      refine m_putI hX hw cl12 hT1 27 (by decide) k_901 (fun _ h => h) rfl rfl dX12_day_221 (fun H locs hw => ?_)
                      let σ28 : Me := sI σ23 a0 27 (((v_24 + ((gI σ23 a0 21) * x4)) + ((gI σ23 a0 22) * v_26)) + ((gI σ23 a0 23) * (gI σ23 a0 29)))
                      have h := h σ28 rfl
                      have hw : wS D cA z0 s σ28 H locs := hw
                      exact m_vret hX hlk hr hw h dX12_day_224
                    refine lv_if_le (tgt := 208) hx hb dX12_day_198 (by decide) (fun hc29 => ?_) (fun hc29 => ?_)
                    · refine lv_iconst (v := 0) hx hb dX12_day_208 (by decide) ?_
                      exact kM27 _ _ (by first | rfl | rw [if_pos hc29] | simp only [if_pos hc29]) (lv_sub hl [0] rfl)
                    · refine lv_aload_n hx hb dX12_day_201 rfl (lv_at hl 0 rfl) ?_
                      refine m_get hX hw cl12 hT1 24 (by decide) k_898 (fun _ h => h) (v := .int _) rfl dX12_day_202 ?_
                      refine lv_goto (tgt := 209) hx hb dX12_day_205 (by decide) ?_
                      exact kM27 _ _ (by first | rfl | rw [if_neg hc29] | simp only [if_neg hc29]) (lv_sub hl [0] rfl)
                  refine lv_if_le (tgt := 181) hx hb dX12_day_171 (by decide) (fun hc30 => ?_) (fun hc30 => ?_)
                  · refine lv_iconst (v := 0) hx hb dX12_day_181 (by decide) ?_
                    exact kM25 _ _ (by first | rfl | rw [if_pos hc30] | simp only [if_pos hc30]) (lv_sub hl [0, 1] rfl)
                  · refine lv_aload_n hx hb dX12_day_174 rfl (lv_at hl 0 rfl) ?_
                    refine m_get hX hw cl12 hT1 20 (by decide) k_894 (fun _ h => h) (v := .int _) rfl dX12_day_175 ?_
                    refine lv_goto (tgt := 182) hx hb dX12_day_178 (by decide) ?_
                    exact kM25 _ _ (by first | rfl | rw [if_neg hc30] | simp only [if_neg hc30]) (lv_sub hl [0, 1] rfl)
                refine lv_icmp_ge (tgt := 163) hx hb dX12_day_155 (by decide) (fun hc31 => ?_) (fun hc31 => ?_)
                · refine lv_iload hx hb dX12_day_163 (lv_at hl 1 rfl) ?_
                  exact kM22 _ _ (by first | rfl | rw [if_pos hc31] | simp only [if_pos hc31]) (lv_sub hl [2, 3] rfl)
                · refine lv_iload hx hb dX12_day_158 (lv_at hl 0 rfl) ?_
                  refine lv_goto (tgt := 165) hx hb dX12_day_160 (by decide) ?_
                  exact kM22 _ _ (by first | rfl | rw [if_neg hc31] | simp only [if_neg hc31]) (lv_sub hl [2, 3] rfl)
              refine lv_if_eq (tgt := 147) hx hb dX12_day_139 (by decide) (fun hc32 => ?_) (fun hc32 => ?_)
              · refine lv_iconst (v := 0) hx hb dX12_day_147 (by decide) ?_
                exact kM20 _ _ (by first | rfl | rw [if_pos hc32] | simp only [if_pos hc32]) (lv_sub hl [0, 1, 2] rfl)
              · refine lv_bipush (v := (-12)) hx hb dX12_day_142 (by decide) ?_
                refine lv_goto (tgt := 148) hx hb dX12_day_144 (by decide) ?_
                exact kM20 _ _ (by first | rfl | rw [if_neg hc32] | simp only [if_neg hc32]) (lv_sub hl [0, 1, 2] rfl)
            refine lv_icmp_ge (tgt := 112) hx hb dX12_day_104 (by decide) (fun hc33 => ?_) (fun hc33 => ?_)
            · refine lv_iload hx hb dX12_day_112 (lv_at hl 0 rfl) ?_
              exact kM15 _ _ (by first | rfl | rw [if_pos hc33] | simp only [if_pos hc33]) (lv_sub hl [1, 2, 3, 4] rfl)
            · refine lv_iload hx hb dX12_day_107 (lv_at hl 4 rfl) ?_
              refine lv_goto (tgt := 114) hx hb dX12_day_109 (by decide) ?_
              exact kM15 _ _ (by first | rfl | rw [if_neg hc33] | simp only [if_neg hc33]) (lv_sub hl [1, 2, 3, 4] rfl)
          refine lv_if_le (tgt := 96) hx hb dX12_day_88 (by decide) (fun hc34 => ?_) (fun hc34 => ?_)
          · refine lv_iconst (v := 0) hx hb dX12_day_96 (by decide) ?_
            exact kM13 _ _ (by first | rfl | rw [if_pos hc34] | simp only [if_pos hc34]) (lv_sub hl [0, 1, 2, 3] rfl)
          · refine lv_iload hx hb dX12_day_91 (lv_at hl 0 rfl) ?_
            refine lv_goto (tgt := 97) hx hb dX12_day_93 (by decide) ?_
            exact kM13 _ _ (by first | rfl | rw [if_neg hc34] | simp only [if_neg hc34]) (lv_sub hl [0, 1, 2, 3] rfl)
        refine lv_icmp_le (tgt := 80) hx hb dX12_day_70 (by decide) (fun hc35 => ?_) (fun hc35 => ?_)
        · refine lv_iload_n hx hb dX12_day_80 rfl (lv_at hl 2 rfl) ?_
          refine lv_iload hx hb dX12_day_81 (lv_at hl 0 rfl) ?_
          refine lv_iadd hx hb dX12_day_83 ?_
          exact kM11 _ _ (by first | rfl | rw [if_pos hc35] | simp only [if_pos hc35]) (lv_sub hl [1, 3, 4] rfl)
        · refine lv_aload_n hx hb dX12_day_73 rfl (lv_at hl 1 rfl) ?_
          refine m_get hX hw cl12 hT1 17 (by decide) k_891 (fun _ h => h) (v := .int _) rfl dX12_day_74 ?_
          refine lv_goto (tgt := 84) hx hb dX12_day_77 (by decide) ?_
          exact kM11 _ _ (by first | rfl | rw [if_neg hc35] | simp only [if_neg hc35]) (lv_sub hl [1, 3, 4] rfl)
      refine lv_icmp_ne (tgt := 58) hx hb dX12_day_50 (by decide) (fun hc36 => ?_) (fun hc36 => ?_)
      · refine lv_iconst (v := 0) hx hb dX12_day_58 (by decide) ?_
        exact kM8 _ _ (by first | rfl | rw [if_neg hc36] | simp only [if_neg hc36]) (lv_sub hl [0, 1, 2, 3, 4] rfl)
      · refine lv_iload hx hb dX12_day_53 (lv_at hl 3 rfl) ?_
        refine lv_goto (tgt := 59) hx hb dX12_day_55 (by decide) ?_
        exact kM8 _ _ (by first | rfl | rw [if_pos hc36] | simp only [if_pos hc36]) (lv_sub hl [0, 1, 2, 3, 4] rfl)
    refine lv_if_ne (tgt := 27) hx hb dX12_day_20 (by decide) (fun hc37 => ?_) (fun hc37 => ?_)
    · refine lv_aload_n hx hb dX12_day_27 rfl (lv_at hl 1 rfl) ?_
      refine m_get hX hw cl12 hT1 18 (by decide) k_892 (fun _ h => h) (v := .int _) rfl dX12_day_28 ?_
      refine lv_iconst (v := 1) hx hb dX12_day_31 (by decide) ?_
      refine lv_icmp_ne (tgt := 40) hx hb dX12_day_32 (by decide) (fun hc38 => ?_) (fun hc38 => ?_)
      · refine lv_iload_n hx hb dX12_day_40 rfl (lv_at hl 3 rfl) ?_
        exact kM5 _ _ (by first | rfl | rw [if_neg hc37, if_neg hc38] | simp only [if_neg hc37, if_neg hc38]) (lv_sub hl [0, 1, 2, 4, 5] rfl)
      · refine lv_iload hx hb dX12_day_35 (lv_at hl 4 rfl) ?_
        refine lv_goto (tgt := 41) hx hb dX12_day_37 (by decide) ?_
        exact kM5 _ _ (by first | rfl | rw [if_neg hc37, if_pos hc38] | simp only [if_neg hc37, if_pos hc38]) (lv_sub hl [0, 1, 2, 4, 5] rfl)
    · refine lv_iconst (v := 0) hx hb dX12_day_23 (by decide) ?_
      refine lv_goto (tgt := 41) hx hb dX12_day_24 (by decide) ?_
      exact kM5 _ _ (by first | rfl | rw [if_pos hc37] | simp only [if_pos hc37]) (lv_sub hl [0, 1, 2, 4, 5] rfl)
  refine lv_if_ne (tgt := 12) hx hb dX12_day_4 (by decide) (fun hc39 => ?_) (fun hc39 => ?_)
  · refine lv_iload_n hx hb dX12_day_12 rfl (lv_at hl 2 rfl) ?_
    exact kM3 _ _ (by first | rfl | rw [if_neg hc39] | simp only [if_neg hc39]) (lv_sub hl [0, 1, 3, 4, 5] rfl)
  · refine lv_iload hx hb dX12_day_7 (lv_at hl 4 rfl) ?_
    refine lv_goto (tgt := 13) hx hb dX12_day_9 (by decide) ?_
    exact kM3 _ _ (by first | rfl | rw [if_pos hc39] | simp only [if_pos hc39]) (lv_sub hl [0, 1, 3, 4, 5] rfl)
theorem mtX12_day : Mth yX12_day cX12_day 10 none 5 := ⟨k_1191, k_50, by decide +kernel⟩
theorem tX12_day {l : Launch} {D : va_G} {cA : Nat → ClassId} {z0 : Nat} {σ : Me} {a0 : Nat} {x1 : Int32} {x2 : Int32} {x3 : Int32} {x4 : Int32} {x5 : Int32} {Q : Me → Prop} (h : pX12_day σ a0 x1 x2 x3 x4 x5 Q) : Met l yX12_day (Cond.code yX12_day cX12_day 10 none :: gTab) rX12_day (PcM D cA z0 σ [.ref a0, .int x1, .int x2, .int x3, .int x4, .int x5]) (va_Qv Q (BM D cA z0) (AM z0)) 0 0 (AM z0) :=
  met_of (by decide) (Nat.le_of_ble_eq_true rfl) (fun hX hlk hr hn hw hl => wX12_day hX hlk hr h hw hl)
