abbrev rX10_placeOf : Room := { frames := 0, cells := 0, slots := 0, locals := 0 }
def pX10_placeOf (σ : Me) (x0 : Int32) (x1 : Int32) (Q : Int32 → Me → Prop) : Prop := Q (((x1 * ((37 : Int32))) + x0) - ((-12 : Int32))) σ
set_option maxHeartbeats 4000000 in
set_option maxRecDepth 100000 in
theorem wX10_placeOf {p : Program} {l : Launch} {e : Env} {s : State} {m : MethodId} {args : Array Value} {below : List Frame} {meth : Method} {c : Code} {D : va_G} {cA : Nat → ClassId} {z0 : Nat} (hX : Cx p m c cX10_placeOf 2 s args RX10 D cA) (hlk : meth.locks = false) (hr : meth.sig.returnType = (some .int)) {σ : Me} {x0 : Int32} {x1 : Int32} {Q : Int32 → Me → Prop} (h : pX10_placeOf σ x0 x1 Q) {H : Heap} {locs : List Loc} {ls : Array Slot} (hw : wS D cA z0 s σ H locs) (hl : lv_has ls 2 [(0, .int x0), (1, .int x1)]) : W p l e rX10_placeOf s m args below meth c H locs 0 0 (MQ below (va_Qi Q (BM D cA z0) (AM z0)) args s 0 0 (AM z0)) (F0 m 0 ls []) := by
  have hx := hX.1.1
  have hb := hX.1.2.1
  have hown := hX.1.2.2.2.1
  have hts := hX.1.2.2.2.2
  unfold pX10_placeOf at h
  refine lv_iload_n hx hb dX10_placeOf_0 rfl (lv_at hl 1 rfl) ?_
  refine lv_bipush (v := 37) hx hb dX10_placeOf_1 (by decide) ?_
  refine lv_imul hx hb dX10_placeOf_3 ?_
  refine lv_iload_n hx hb dX10_placeOf_4 rfl (lv_at hl 0 rfl) ?_
  refine lv_iadd hx hb dX10_placeOf_5 ?_
  refine lv_bipush (v := (-12)) hx hb dX10_placeOf_6 (by decide) ?_
  refine lv_isub hx hb dX10_placeOf_8 ?_
  exact m_iret hX hlk hr hw h dX10_placeOf_9
theorem mtX10_placeOf : Mth yX10_placeOf cX10_placeOf 2 (some .int) 2 := ⟨k_619, k_47, by decide +kernel⟩
theorem tX10_placeOf {l : Launch} {D : va_G} {cA : Nat → ClassId} {z0 : Nat} {σ : Me} {x0 : Int32} {x1 : Int32} {Q : Int32 → Me → Prop} (h : pX10_placeOf σ x0 x1 Q) : Met l yX10_placeOf (Cond.code yX10_placeOf cX10_placeOf 2 (some .int) :: gTab) rX10_placeOf (PcM D cA z0 σ [.int x0, .int x1]) (va_Qi Q (BM D cA z0) (AM z0)) 0 0 (AM z0) :=
  met_of (by decide) (Nat.le_of_ble_eq_true rfl) (fun hX hlk hr hn hw hl => wX10_placeOf hX hlk hr h hw hl)
abbrev rX11_forget : Room := { frames := 0, cells := 0, slots := 0, locals := 0 }
def pX11_forget (σ : Me) (a0 : Nat) (Q : Int32 → Me → Prop) : Prop := gT σ a0 = 11 ∧ ∀ x1_2 : Int32, x1_2 = (gI σ a0 13) → ∀ σ3 : Me, σ3 = sI σ a0 13 ((0 : Int32)) → Q x1_2 σ3
set_option maxHeartbeats 4000000 in
set_option maxRecDepth 100000 in
theorem wX11_forget {p : Program} {l : Launch} {e : Env} {s : State} {m : MethodId} {args : Array Value} {below : List Frame} {meth : Method} {c : Code} {D : va_G} {cA : Nat → ClassId} {z0 : Nat} (hX : Cx p m c cX11_forget 2 s args RX11 D cA) (hlk : meth.locks = false) (hr : meth.sig.returnType = (some .int)) {σ : Me} {a0 : Nat} {Q : Int32 → Me → Prop} (h : pX11_forget σ a0 Q) {H : Heap} {locs : List Loc} {ls : Array Slot} (hw : wS D cA z0 s σ H locs) (hl : lv_has ls 2 [(0, .ref a0)]) : W p l e rX11_forget s m args below meth c H locs 0 0 (MQ below (va_Qi Q (BM D cA z0) (AM z0)) args s 0 0 (AM z0)) (F0 m 0 ls []) := by
  have hx := hX.1.1
  have hb := hX.1.2.1
  have hown := hX.1.2.2.2.1
  have hts := hX.1.2.2.2.2
  unfold pX11_forget at h
  refine lv_aload_n hx hb dX11_forget_0 rfl (lv_at hl 0 rfl) ?_
  obtain ⟨hT1, h⟩ := h
  refine m_get hX hw cl11 hT1 13 (by decide) k_262 (fun _ h => h) (v := .int _) rfl dX11_forget_1 ?_
  refine lv_topi (fun x1_2 e_x1_2 => ?_)
  have h := h x1_2 e_x1_2
  refine lv_istore_n (lv' := [(1, _), (0, _)]) hx hb dX11_forget_4 rfl hl (by decide) rfl (fun ls hl => ?_)
  refine lv_aload_n hx hb dX11_forget_5 rfl (lv_at hl 1 rfl) ?_
  refine lv_iconst (v := 0) hx hb dX11_forget_6 (by decide) ?_
  refine m_putI hX hw cl11 hT1 13 (by decide) k_262 (fun _ h => h) rfl rfl dX11_forget_7 (fun H locs hw => ?_)
  let σ3 : Me := sI σ a0 13 ((0 : Int32))
  have h := h σ3 rfl
  have hw : wS D cA z0 s σ3 H locs := hw
  refine lv_iload_n hx hb dX11_forget_10 rfl (lv_at hl 0 rfl) ?_
  exact m_iret hX hlk hr hw h dX11_forget_11
theorem mtX11_forget : Mth yX11_forget cX11_forget 2 (some .int) 0 := ⟨k_815, k_43, by decide +kernel⟩
theorem tX11_forget {l : Launch} {D : va_G} {cA : Nat → ClassId} {z0 : Nat} {σ : Me} {a0 : Nat} {Q : Int32 → Me → Prop} (h : pX11_forget σ a0 Q) : Met l yX11_forget (Cond.code yX11_forget cX11_forget 2 (some .int) :: gTab) rX11_forget (PcM D cA z0 σ [.ref a0]) (va_Qi Q (BM D cA z0) (AM z0)) 0 0 (AM z0) :=
  met_of (by decide) (Nat.le_of_ble_eq_true rfl) (fun hX hlk hr hn hw hl => wX11_forget hX hlk hr h hw hl)
abbrev rX11_upper : Room := { frames := 0, cells := 0, slots := 0, locals := 0 }
def pX11_upper (σ : Me) (a0 : Nat) (Q : Int64 → Me → Prop) : Prop := gT σ a0 = 11 ∧ Q (gL σ a0 14) σ
set_option maxHeartbeats 4000000 in
set_option maxRecDepth 100000 in
theorem wX11_upper {p : Program} {l : Launch} {e : Env} {s : State} {m : MethodId} {args : Array Value} {below : List Frame} {meth : Method} {c : Code} {D : va_G} {cA : Nat → ClassId} {z0 : Nat} (hX : Cx p m c cX11_upper 1 s args RX11 D cA) (hlk : meth.locks = false) (hr : meth.sig.returnType = (some .long)) {σ : Me} {a0 : Nat} {Q : Int64 → Me → Prop} (h : pX11_upper σ a0 Q) {H : Heap} {locs : List Loc} {ls : Array Slot} (hw : wS D cA z0 s σ H locs) (hl : lv_has ls 1 [(0, .ref a0)]) : W p l e rX11_upper s m args below meth c H locs 0 0 (MQ below (va_Ql Q (BM D cA z0) (AM z0)) args s 0 0 (AM z0)) (F0 m 0 ls []) := by
  have hx := hX.1.1
  have hb := hX.1.2.1
  have hown := hX.1.2.2.2.1
  have hts := hX.1.2.2.2.2
  unfold pX11_upper at h
  refine lv_aload_n hx hb dX11_upper_0 rfl (lv_at hl 0 rfl) ?_
  obtain ⟨hT1, h⟩ := h
  refine m_get hX hw cl11 hT1 14 (by decide) k_263 (fun _ h => h) (v := .long _) rfl dX11_upper_1 ?_
  exact m_lret hX hlk hr hw h dX11_upper_4
theorem mtX11_upper : Mth yX11_upper cX11_upper 1 (some .long) 0 := ⟨k_828, k_43, by decide +kernel⟩
theorem tX11_upper {l : Launch} {D : va_G} {cA : Nat → ClassId} {z0 : Nat} {σ : Me} {a0 : Nat} {Q : Int64 → Me → Prop} (h : pX11_upper σ a0 Q) : Met l yX11_upper (Cond.code yX11_upper cX11_upper 1 (some .long) :: gTab) rX11_upper (PcM D cA z0 σ [.ref a0]) (va_Ql Q (BM D cA z0) (AM z0)) 0 0 (AM z0) :=
  met_of (by decide) (Nat.le_of_ble_eq_true rfl) (fun hX hlk hr hn hw hl => wX11_upper hX hlk hr h hw hl)
abbrev rX11_lower : Room := { frames := 0, cells := 0, slots := 0, locals := 0 }
def pX11_lower (σ : Me) (a0 : Nat) (Q : Int64 → Me → Prop) : Prop := gT σ a0 = 11 ∧ Q (gL σ a0 15) σ
set_option maxHeartbeats 4000000 in
set_option maxRecDepth 100000 in
theorem wX11_lower {p : Program} {l : Launch} {e : Env} {s : State} {m : MethodId} {args : Array Value} {below : List Frame} {meth : Method} {c : Code} {D : va_G} {cA : Nat → ClassId} {z0 : Nat} (hX : Cx p m c cX11_lower 1 s args RX11 D cA) (hlk : meth.locks = false) (hr : meth.sig.returnType = (some .long)) {σ : Me} {a0 : Nat} {Q : Int64 → Me → Prop} (h : pX11_lower σ a0 Q) {H : Heap} {locs : List Loc} {ls : Array Slot} (hw : wS D cA z0 s σ H locs) (hl : lv_has ls 1 [(0, .ref a0)]) : W p l e rX11_lower s m args below meth c H locs 0 0 (MQ below (va_Ql Q (BM D cA z0) (AM z0)) args s 0 0 (AM z0)) (F0 m 0 ls []) := by
  have hx := hX.1.1
  have hb := hX.1.2.1
  have hown := hX.1.2.2.2.1
  have hts := hX.1.2.2.2.2
  unfold pX11_lower at h
  refine lv_aload_n hx hb dX11_lower_0 rfl (lv_at hl 0 rfl) ?_
  obtain ⟨hT1, h⟩ := h
  refine m_get hX hw cl11 hT1 15 (by decide) k_264 (fun _ h => h) (v := .long _) rfl dX11_lower_1 ?_
  exact m_lret hX hlk hr hw h dX11_lower_4
theorem mtX11_lower : Mth yX11_lower cX11_lower 1 (some .long) 0 := ⟨k_832, k_43, by decide +kernel⟩
theorem tX11_lower {l : Launch} {D : va_G} {cA : Nat → ClassId} {z0 : Nat} {σ : Me} {a0 : Nat} {Q : Int64 → Me → Prop} (h : pX11_lower σ a0 Q) : Met l yX11_lower (Cond.code yX11_lower cX11_lower 1 (some .long) :: gTab) rX11_lower (PcM D cA z0 σ [.ref a0]) (va_Ql Q (BM D cA z0) (AM z0)) 0 0 (AM z0) :=
  met_of (by decide) (Nat.le_of_ble_eq_true rfl) (fun hX hlk hr hn hw hl => wX11_lower hX hlk hr h hw hl)
abbrev rX11_finding : Room := { frames := 0, cells := 0, slots := 0, locals := 0 }
def pX11_finding (σ : Me) (a0 : Nat) (Q : Int32 → Me → Prop) : Prop := gT σ a0 = 11 ∧ Q (gI σ a0 16) σ
set_option maxHeartbeats 4000000 in
set_option maxRecDepth 100000 in
theorem wX11_finding {p : Program} {l : Launch} {e : Env} {s : State} {m : MethodId} {args : Array Value} {below : List Frame} {meth : Method} {c : Code} {D : va_G} {cA : Nat → ClassId} {z0 : Nat} (hX : Cx p m c cX11_finding 1 s args RX11 D cA) (hlk : meth.locks = false) (hr : meth.sig.returnType = (some .int)) {σ : Me} {a0 : Nat} {Q : Int32 → Me → Prop} (h : pX11_finding σ a0 Q) {H : Heap} {locs : List Loc} {ls : Array Slot} (hw : wS D cA z0 s σ H locs) (hl : lv_has ls 1 [(0, .ref a0)]) : W p l e rX11_finding s m args below meth c H locs 0 0 (MQ below (va_Qi Q (BM D cA z0) (AM z0)) args s 0 0 (AM z0)) (F0 m 0 ls []) := by
  have hx := hX.1.1
  have hb := hX.1.2.1
  have hown := hX.1.2.2.2.1
  have hts := hX.1.2.2.2.2
  unfold pX11_finding at h
  refine lv_aload_n hx hb dX11_finding_0 rfl (lv_at hl 0 rfl) ?_
  obtain ⟨hT1, h⟩ := h
  refine m_get hX hw cl11 hT1 16 (by decide) k_265 (fun _ h => h) (v := .int _) rfl dX11_finding_1 ?_
  exact m_iret hX hlk hr hw h dX11_finding_4
theorem mtX11_finding : Mth yX11_finding cX11_finding 1 (some .int) 0 := ⟨k_844, k_43, by decide +kernel⟩
theorem tX11_finding {l : Launch} {D : va_G} {cA : Nat → ClassId} {z0 : Nat} {σ : Me} {a0 : Nat} {Q : Int32 → Me → Prop} (h : pX11_finding σ a0 Q) : Met l yX11_finding (Cond.code yX11_finding cX11_finding 1 (some .int) :: gTab) rX11_finding (PcM D cA z0 σ [.ref a0]) (va_Qi Q (BM D cA z0) (AM z0)) 0 0 (AM z0) :=
  met_of (by decide) (Nat.le_of_ble_eq_true rfl) (fun hX hlk hr hn hw hl => wX11_finding hX hlk hr h hw hl)
abbrev rX11_isWithin : Room := { frames := 0, cells := 0, slots := 0, locals := 0 }
def pX11_isWithin (σ : Me) (x0 : Int32) (x1 : Int32) (x2 : Int32) (Q : Int32 → Me → Prop) : Prop := ∀ v_1 : Int32, v_1 = (if x0 < x1 then ((0 : Int32)) else (if x2 < x0 then ((0 : Int32)) else ((1 : Int32)))) → (v_1 = 0 ∨ v_1 = 1) ∧ Q v_1 σ
set_option maxHeartbeats 4000000 in
set_option maxRecDepth 100000 in
theorem wX11_isWithin {p : Program} {l : Launch} {e : Env} {s : State} {m : MethodId} {args : Array Value} {below : List Frame} {meth : Method} {c : Code} {D : va_G} {cA : Nat → ClassId} {z0 : Nat} (hX : Cx p m c cX11_isWithin 3 s args RX11 D cA) (hlk : meth.locks = false) (hr : meth.sig.returnType = (some .boolean)) {σ : Me} {x0 : Int32} {x1 : Int32} {x2 : Int32} {Q : Int32 → Me → Prop} (h : pX11_isWithin σ x0 x1 x2 Q) {H : Heap} {locs : List Loc} {ls : Array Slot} (hw : wS D cA z0 s σ H locs) (hl : lv_has ls 3 [(0, .int x0), (1, .int x1), (2, .int x2)]) : W p l e rX11_isWithin s m args below meth c H locs 0 0 (MQ below (va_Qi Q (BM D cA z0) (AM z0)) args s 0 0 (AM z0)) (F0 m 0 ls []) := by
  have hx := hX.1.1
  have hb := hX.1.2.1
  have hown := hX.1.2.2.2.1
  have hts := hX.1.2.2.2.2
  unfold pX11_isWithin at h
  refine lv_iload_n hx hb dX11_isWithin_0 rfl (lv_at hl 0 rfl) ?_
  refine lv_iload_n hx hb dX11_isWithin_1 rfl (lv_at hl 1 rfl) ?_
  have kM2 : ∀ (v_1 : Int32) (ls : Array Slot), v_1 = (if x0 < x1 then ((0 : Int32)) else (if x2 < x0 then ((0 : Int32)) else ((1 : Int32)))) → lv_has ls 3 [] → W p l e rX11_isWithin s m args below meth c H locs 0 0 (MQ below (va_Qi Q (BM D cA z0) (AM z0)) args s 0 0 (AM z0)) (F0 m 15 ls [.int v_1]) := by
    intro v_1 ls e_v_1 hl
    have h := h v_1 e_v_1
    exact m_zret hX hlk hr hw h.1 h.2 dX11_isWithin_15
  refine lv_icmp_lt (tgt := 14) hx hb dX11_isWithin_2 (by decide) (fun hc3 => ?_) (fun hc3 => ?_)
  · refine lv_iconst (v := 0) hx hb dX11_isWithin_14 (by decide) ?_
    exact kM2 _ _ (by first | rfl | rw [if_pos hc3] | simp only [if_pos hc3]) (lv_sub hl [] rfl)
  · refine lv_iload_n hx hb dX11_isWithin_5 rfl (lv_at hl 0 rfl) ?_
    refine lv_iload_n hx hb dX11_isWithin_6 rfl (lv_at hl 2 rfl) ?_
    refine lv_icmp_gt (tgt := 14) hx hb dX11_isWithin_7 (by decide) (fun hc4 => ?_) (fun hc4 => ?_)
    · refine lv_iconst (v := 0) hx hb dX11_isWithin_14 (by decide) ?_
      exact kM2 _ _ (by first | rfl | rw [if_neg hc3, if_pos hc4] | simp only [if_neg hc3, if_pos hc4]) (lv_sub hl [] rfl)
    · refine lv_iconst (v := 1) hx hb dX11_isWithin_10 (by decide) ?_
      refine lv_goto (tgt := 15) hx hb dX11_isWithin_11 (by decide) ?_
      exact kM2 _ _ (by first | rfl | rw [if_neg hc3, if_neg hc4] | simp only [if_neg hc3, if_neg hc4]) (lv_sub hl [] rfl)
theorem mtX11_isWithin : Mth yX11_isWithin cX11_isWithin 3 (some .boolean) 3 := ⟨k_313, k_43, by decide +kernel⟩
theorem tX11_isWithin {l : Launch} {D : va_G} {cA : Nat → ClassId} {z0 : Nat} {σ : Me} {x0 : Int32} {x1 : Int32} {x2 : Int32} {Q : Int32 → Me → Prop} (h : pX11_isWithin σ x0 x1 x2 Q) : Met l yX11_isWithin (Cond.code yX11_isWithin cX11_isWithin 3 (some .boolean) :: gTab) rX11_isWithin (PcM D cA z0 σ [.int x0, .int x1, .int x2]) (va_Qi Q (BM D cA z0) (AM z0)) 0 0 (AM z0) :=
  met_of (by decide) (Nat.le_of_ble_eq_true rfl) (fun hX hlk hr hn hw hl => wX11_isWithin hX hlk hr h hw hl)
abbrev rX11_isBook : Room := { frames := 1, cells := 0, slots := 0, locals := 22 }
def pX11_isBook (σ : Me) (x0 : Int32) (Q : Int32 → Me → Prop) : Prop := pX11_isWithin σ x0 ((0 : Int32)) ((3 : Int32)) (fun r1 σ2 => (r1 = 0 ∨ r1 = 1) ∧ Q r1 σ2)
set_option maxHeartbeats 4000000 in
set_option maxRecDepth 100000 in
theorem wX11_isBook {p : Program} {l : Launch} {e : Env} {s : State} {m : MethodId} {args : Array Value} {below : List Frame} {meth : Method} {c : Code} {D : va_G} {cA : Nat → ClassId} {z0 : Nat} (hX : Cx p m c cX11_isBook 1 s args RX11 D cA) (hlk : meth.locks = false) (hr : meth.sig.returnType = (some .boolean)) {σ : Me} {x0 : Int32} {Q : Int32 → Me → Prop} (h : pX11_isBook σ x0 Q) {H : Heap} {locs : List Loc} {ls : Array Slot} (hw : wS D cA z0 s σ H locs) (hl : lv_has ls 1 [(0, .int x0)]) : W p l e rX11_isBook s m args below meth c H locs 0 0 (MQ below (va_Qi Q (BM D cA z0) (AM z0)) args s 0 0 (AM z0)) (F0 m 0 ls []) := by
  have hx := hX.1.1
  have hb := hX.1.2.1
  have hown := hX.1.2.2.2.1
  have hts := hX.1.2.2.2.2
  unfold pX11_isBook at h
  refine lv_iload_n hx hb dX11_isBook_0 rfl (lv_at hl 0 rfl) ?_
  refine lv_iconst (v := 0) hx hb dX11_isBook_1 (by decide) ?_
  refine lv_iconst (v := 3) hx hb dX11_isBook_2 (by decide) ?_
  refine m_ci (m_runS (rest := []) hX hw (tX11_isWithin h) mtX11_isWithin k_311 k_312 ⟨⟨rfl, rfl, Nat.le_of_ble_eq_true rfl, Nat.le_of_ble_eq_true rfl⟩, Nat.le_of_ble_eq_true rfl, Nat.le_of_ble_eq_true rfl⟩ rfl hl.1 rfl (Nat.le_of_ble_eq_true rfl) dX11_isBook_3) hw (fun r1 σ2 H locs h hw => ?_)
  exact m_zret hX hlk hr hw h.1 h.2 dX11_isBook_6
theorem mtX11_isBook : Mth yX11_isBook cX11_isBook 1 (some .boolean) 1 := ⟨k_310, k_43, by decide +kernel⟩
theorem tX11_isBook {l : Launch} {D : va_G} {cA : Nat → ClassId} {z0 : Nat} {σ : Me} {x0 : Int32} {Q : Int32 → Me → Prop} (h : pX11_isBook σ x0 Q) : Met l yX11_isBook (Cond.code yX11_isBook cX11_isBook 1 (some .boolean) :: gTab) rX11_isBook (PcM D cA z0 σ [.int x0]) (va_Qi Q (BM D cA z0) (AM z0)) 0 0 (AM z0) :=
  met_of (by decide) (Nat.le_of_ble_eq_true rfl) (fun hX hlk hr hn hw hl => wX11_isBook hX hlk hr h hw hl)
abbrev rX11_isDemand : Room := { frames := 1, cells := 0, slots := 0, locals := 22 }
def pX11_isDemand (σ : Me) (x0 : Int32) (Q : Int32 → Me → Prop) : Prop := pX11_isWithin σ x0 ((0 : Int32)) ((6 : Int32)) (fun r1 σ2 => (r1 = 0 ∨ r1 = 1) ∧ Q r1 σ2)
set_option maxHeartbeats 4000000 in
set_option maxRecDepth 100000 in
theorem wX11_isDemand {p : Program} {l : Launch} {e : Env} {s : State} {m : MethodId} {args : Array Value} {below : List Frame} {meth : Method} {c : Code} {D : va_G} {cA : Nat → ClassId} {z0 : Nat} (hX : Cx p m c cX11_isDemand 1 s args RX11 D cA) (hlk : meth.locks = false) (hr : meth.sig.returnType = (some .boolean)) {σ : Me} {x0 : Int32} {Q : Int32 → Me → Prop} (h : pX11_isDemand σ x0 Q) {H : Heap} {locs : List Loc} {ls : Array Slot} (hw : wS D cA z0 s σ H locs) (hl : lv_has ls 1 [(0, .int x0)]) : W p l e rX11_isDemand s m args below meth c H locs 0 0 (MQ below (va_Qi Q (BM D cA z0) (AM z0)) args s 0 0 (AM z0)) (F0 m 0 ls []) := by
  have hx := hX.1.1
  have hb := hX.1.2.1
  have hown := hX.1.2.2.2.1
  have hts := hX.1.2.2.2.2
  unfold pX11_isDemand at h
  refine lv_iload_n hx hb dX11_isDemand_0 rfl (lv_at hl 0 rfl) ?_
  refine lv_iconst (v := 0) hx hb dX11_isDemand_1 (by decide) ?_
  refine lv_bipush (v := 6) hx hb dX11_isDemand_2 (by decide) ?_
  refine m_ci (m_runS (rest := []) hX hw (tX11_isWithin h) mtX11_isWithin k_311 k_312 ⟨⟨rfl, rfl, Nat.le_of_ble_eq_true rfl, Nat.le_of_ble_eq_true rfl⟩, Nat.le_of_ble_eq_true rfl, Nat.le_of_ble_eq_true rfl⟩ rfl hl.1 rfl (Nat.le_of_ble_eq_true rfl) dX11_isDemand_4) hw (fun r1 σ2 H locs h hw => ?_)
  exact m_zret hX hlk hr hw h.1 h.2 dX11_isDemand_7
theorem mtX11_isDemand : Mth yX11_isDemand cX11_isDemand 1 (some .boolean) 1 := ⟨k_328, k_43, by decide +kernel⟩
theorem tX11_isDemand {l : Launch} {D : va_G} {cA : Nat → ClassId} {z0 : Nat} {σ : Me} {x0 : Int32} {Q : Int32 → Me → Prop} (h : pX11_isDemand σ x0 Q) : Met l yX11_isDemand (Cond.code yX11_isDemand cX11_isDemand 1 (some .boolean) :: gTab) rX11_isDemand (PcM D cA z0 σ [.int x0]) (va_Qi Q (BM D cA z0) (AM z0)) 0 0 (AM z0) :=
  met_of (by decide) (Nat.le_of_ble_eq_true rfl) (fun hX hlk hr hn hw hl => wX11_isDemand hX hlk hr h hw hl)
abbrev rX11_isSheet : Room := { frames := 1, cells := 0, slots := 0, locals := 22 }
def pX11_isSheet (σ : Me) (x0 : Int32) (Q : Int32 → Me → Prop) : Prop := pX11_isWithin σ x0 ((0 : Int32)) ((3 : Int32)) (fun r1 σ2 => (r1 = 0 ∨ r1 = 1) ∧ Q r1 σ2)
set_option maxHeartbeats 4000000 in
set_option maxRecDepth 100000 in
theorem wX11_isSheet {p : Program} {l : Launch} {e : Env} {s : State} {m : MethodId} {args : Array Value} {below : List Frame} {meth : Method} {c : Code} {D : va_G} {cA : Nat → ClassId} {z0 : Nat} (hX : Cx p m c cX11_isSheet 1 s args RX11 D cA) (hlk : meth.locks = false) (hr : meth.sig.returnType = (some .boolean)) {σ : Me} {x0 : Int32} {Q : Int32 → Me → Prop} (h : pX11_isSheet σ x0 Q) {H : Heap} {locs : List Loc} {ls : Array Slot} (hw : wS D cA z0 s σ H locs) (hl : lv_has ls 1 [(0, .int x0)]) : W p l e rX11_isSheet s m args below meth c H locs 0 0 (MQ below (va_Qi Q (BM D cA z0) (AM z0)) args s 0 0 (AM z0)) (F0 m 0 ls []) := by
  have hx := hX.1.1
  have hb := hX.1.2.1
  have hown := hX.1.2.2.2.1
  have hts := hX.1.2.2.2.2
  unfold pX11_isSheet at h
  refine lv_iload_n hx hb dX11_isSheet_0 rfl (lv_at hl 0 rfl) ?_
  refine lv_iconst (v := 0) hx hb dX11_isSheet_1 (by decide) ?_
  refine lv_iconst (v := 3) hx hb dX11_isSheet_2 (by decide) ?_
  refine m_ci (m_runS (rest := []) hX hw (tX11_isWithin h) mtX11_isWithin k_311 k_312 ⟨⟨rfl, rfl, Nat.le_of_ble_eq_true rfl, Nat.le_of_ble_eq_true rfl⟩, Nat.le_of_ble_eq_true rfl, Nat.le_of_ble_eq_true rfl⟩ rfl hl.1 rfl (Nat.le_of_ble_eq_true rfl) dX11_isSheet_3) hw (fun r1 σ2 H locs h hw => ?_)
  exact m_zret hX hlk hr hw h.1 h.2 dX11_isSheet_6
theorem mtX11_isSheet : Mth yX11_isSheet cX11_isSheet 1 (some .boolean) 1 := ⟨k_364, k_43, by decide +kernel⟩
theorem tX11_isSheet {l : Launch} {D : va_G} {cA : Nat → ClassId} {z0 : Nat} {σ : Me} {x0 : Int32} {Q : Int32 → Me → Prop} (h : pX11_isSheet σ x0 Q) : Met l yX11_isSheet (Cond.code yX11_isSheet cX11_isSheet 1 (some .boolean) :: gTab) rX11_isSheet (PcM D cA z0 σ [.int x0]) (va_Qi Q (BM D cA z0) (AM z0)) 0 0 (AM z0) :=
  met_of (by decide) (Nat.le_of_ble_eq_true rfl) (fun hX hlk hr hn hw hl => wX11_isSheet hX hlk hr h hw hl)
abbrev rX11_isPosition : Room := { frames := 1, cells := 0, slots := 0, locals := 22 }
def pX11_isPosition (σ : Me) (x0 : Int32) (Q : Int32 → Me → Prop) : Prop := pX11_isWithin σ x0 ((-12 : Int32)) ((36 : Int32)) (fun r1 σ2 => (r1 = 0 ∨ r1 = 1) ∧ Q r1 σ2)
set_option maxHeartbeats 4000000 in
set_option maxRecDepth 100000 in
theorem wX11_isPosition {p : Program} {l : Launch} {e : Env} {s : State} {m : MethodId} {args : Array Value} {below : List Frame} {meth : Method} {c : Code} {D : va_G} {cA : Nat → ClassId} {z0 : Nat} (hX : Cx p m c cX11_isPosition 1 s args RX11 D cA) (hlk : meth.locks = false) (hr : meth.sig.returnType = (some .boolean)) {σ : Me} {x0 : Int32} {Q : Int32 → Me → Prop} (h : pX11_isPosition σ x0 Q) {H : Heap} {locs : List Loc} {ls : Array Slot} (hw : wS D cA z0 s σ H locs) (hl : lv_has ls 1 [(0, .int x0)]) : W p l e rX11_isPosition s m args below meth c H locs 0 0 (MQ below (va_Qi Q (BM D cA z0) (AM z0)) args s 0 0 (AM z0)) (F0 m 0 ls []) := by
  have hx := hX.1.1
  have hb := hX.1.2.1
  have hown := hX.1.2.2.2.1
  have hts := hX.1.2.2.2.2
  unfold pX11_isPosition at h
  refine lv_iload_n hx hb dX11_isPosition_0 rfl (lv_at hl 0 rfl) ?_
  refine lv_bipush (v := (-12)) hx hb dX11_isPosition_1 (by decide) ?_
  refine lv_bipush (v := 36) hx hb dX11_isPosition_3 (by decide) ?_
  refine m_ci (m_runS (rest := []) hX hw (tX11_isWithin h) mtX11_isWithin k_311 k_312 ⟨⟨rfl, rfl, Nat.le_of_ble_eq_true rfl, Nat.le_of_ble_eq_true rfl⟩, Nat.le_of_ble_eq_true rfl, Nat.le_of_ble_eq_true rfl⟩ rfl hl.1 rfl (Nat.le_of_ble_eq_true rfl) dX11_isPosition_5) hw (fun r1 σ2 H locs h hw => ?_)
  exact m_zret hX hlk hr hw h.1 h.2 dX11_isPosition_8
theorem mtX11_isPosition : Mth yX11_isPosition cX11_isPosition 1 (some .boolean) 1 := ⟨k_531, k_43, by decide +kernel⟩
theorem tX11_isPosition {l : Launch} {D : va_G} {cA : Nat → ClassId} {z0 : Nat} {σ : Me} {x0 : Int32} {Q : Int32 → Me → Prop} (h : pX11_isPosition σ x0 Q) : Met l yX11_isPosition (Cond.code yX11_isPosition cX11_isPosition 1 (some .boolean) :: gTab) rX11_isPosition (PcM D cA z0 σ [.int x0]) (va_Qi Q (BM D cA z0) (AM z0)) 0 0 (AM z0) :=
  met_of (by decide) (Nat.le_of_ble_eq_true rfl) (fun hX hlk hr hn hw hl => wX11_isPosition hX hlk hr h hw hl)
abbrev rX11_isPrice : Room := { frames := 1, cells := 0, slots := 0, locals := 22 }
def pX11_isPrice (σ : Me) (x0 : Int32) (Q : Int32 → Me → Prop) : Prop := pX11_isWithin σ x0 ((0 : Int32)) ((100 : Int32)) (fun r1 σ2 => (r1 = 0 ∨ r1 = 1) ∧ Q r1 σ2)
set_option maxHeartbeats 4000000 in
set_option maxRecDepth 100000 in
theorem wX11_isPrice {p : Program} {l : Launch} {e : Env} {s : State} {m : MethodId} {args : Array Value} {below : List Frame} {meth : Method} {c : Code} {D : va_G} {cA : Nat → ClassId} {z0 : Nat} (hX : Cx p m c cX11_isPrice 1 s args RX11 D cA) (hlk : meth.locks = false) (hr : meth.sig.returnType = (some .boolean)) {σ : Me} {x0 : Int32} {Q : Int32 → Me → Prop} (h : pX11_isPrice σ x0 Q) {H : Heap} {locs : List Loc} {ls : Array Slot} (hw : wS D cA z0 s σ H locs) (hl : lv_has ls 1 [(0, .int x0)]) : W p l e rX11_isPrice s m args below meth c H locs 0 0 (MQ below (va_Qi Q (BM D cA z0) (AM z0)) args s 0 0 (AM z0)) (F0 m 0 ls []) := by
  have hx := hX.1.1
  have hb := hX.1.2.1
  have hown := hX.1.2.2.2.1
  have hts := hX.1.2.2.2.2
  unfold pX11_isPrice at h
  refine lv_iload_n hx hb dX11_isPrice_0 rfl (lv_at hl 0 rfl) ?_
  refine lv_iconst (v := 0) hx hb dX11_isPrice_1 (by decide) ?_
  refine lv_bipush (v := 100) hx hb dX11_isPrice_2 (by decide) ?_
  refine m_ci (m_runS (rest := []) hX hw (tX11_isWithin h) mtX11_isWithin k_311 k_312 ⟨⟨rfl, rfl, Nat.le_of_ble_eq_true rfl, Nat.le_of_ble_eq_true rfl⟩, Nat.le_of_ble_eq_true rfl, Nat.le_of_ble_eq_true rfl⟩ rfl hl.1 rfl (Nat.le_of_ble_eq_true rfl) dX11_isPrice_4) hw (fun r1 σ2 H locs h hw => ?_)
  exact m_zret hX hlk hr hw h.1 h.2 dX11_isPrice_7
theorem mtX11_isPrice : Mth yX11_isPrice cX11_isPrice 1 (some .boolean) 1 := ⟨k_565, k_43, by decide +kernel⟩
theorem tX11_isPrice {l : Launch} {D : va_G} {cA : Nat → ClassId} {z0 : Nat} {σ : Me} {x0 : Int32} {Q : Int32 → Me → Prop} (h : pX11_isPrice σ x0 Q) : Met l yX11_isPrice (Cond.code yX11_isPrice cX11_isPrice 1 (some .boolean) :: gTab) rX11_isPrice (PcM D cA z0 σ [.int x0]) (va_Qi Q (BM D cA z0) (AM z0)) 0 0 (AM z0) :=
  met_of (by decide) (Nat.le_of_ble_eq_true rfl) (fun hX hlk hr hn hw hl => wX11_isPrice hX hlk hr h hw hl)
abbrev rX11_areDays : Room := { frames := 1, cells := 0, slots := 0, locals := 22 }
def pX11_areDays (σ : Me) (x0 : Int32) (Q : Int32 → Me → Prop) : Prop := pX11_isWithin σ x0 ((1 : Int32)) ((6 : Int32)) (fun r1 σ2 => (r1 = 0 ∨ r1 = 1) ∧ Q r1 σ2)
set_option maxHeartbeats 4000000 in
set_option maxRecDepth 100000 in
theorem wX11_areDays {p : Program} {l : Launch} {e : Env} {s : State} {m : MethodId} {args : Array Value} {below : List Frame} {meth : Method} {c : Code} {D : va_G} {cA : Nat → ClassId} {z0 : Nat} (hX : Cx p m c cX11_areDays 1 s args RX11 D cA) (hlk : meth.locks = false) (hr : meth.sig.returnType = (some .boolean)) {σ : Me} {x0 : Int32} {Q : Int32 → Me → Prop} (h : pX11_areDays σ x0 Q) {H : Heap} {locs : List Loc} {ls : Array Slot} (hw : wS D cA z0 s σ H locs) (hl : lv_has ls 1 [(0, .int x0)]) : W p l e rX11_areDays s m args below meth c H locs 0 0 (MQ below (va_Qi Q (BM D cA z0) (AM z0)) args s 0 0 (AM z0)) (F0 m 0 ls []) := by
  have hx := hX.1.1
  have hb := hX.1.2.1
  have hown := hX.1.2.2.2.1
  have hts := hX.1.2.2.2.2
  unfold pX11_areDays at h
  refine lv_iload_n hx hb dX11_areDays_0 rfl (lv_at hl 0 rfl) ?_
  refine lv_iconst (v := 1) hx hb dX11_areDays_1 (by decide) ?_
  refine lv_bipush (v := 6) hx hb dX11_areDays_2 (by decide) ?_
  refine m_ci (m_runS (rest := []) hX hw (tX11_isWithin h) mtX11_isWithin k_311 k_312 ⟨⟨rfl, rfl, Nat.le_of_ble_eq_true rfl, Nat.le_of_ble_eq_true rfl⟩, Nat.le_of_ble_eq_true rfl, Nat.le_of_ble_eq_true rfl⟩ rfl hl.1 rfl (Nat.le_of_ble_eq_true rfl) dX11_areDays_4) hw (fun r1 σ2 H locs h hw => ?_)
  exact m_zret hX hlk hr hw h.1 h.2 dX11_areDays_7
theorem mtX11_areDays : Mth yX11_areDays cX11_areDays 1 (some .boolean) 1 := ⟨k_576, k_43, by decide +kernel⟩
theorem tX11_areDays {l : Launch} {D : va_G} {cA : Nat → ClassId} {z0 : Nat} {σ : Me} {x0 : Int32} {Q : Int32 → Me → Prop} (h : pX11_areDays σ x0 Q) : Met l yX11_areDays (Cond.code yX11_areDays cX11_areDays 1 (some .boolean) :: gTab) rX11_areDays (PcM D cA z0 σ [.int x0]) (va_Qi Q (BM D cA z0) (AM z0)) 0 0 (AM z0) :=
  met_of (by decide) (Nat.le_of_ble_eq_true rfl) (fun hX hlk hr hn hw hl => wX11_areDays hX hlk hr h hw hl)
abbrev rX11_isRule : Room := { frames := 1, cells := 0, slots := 0, locals := 22 }
def pX11_isRule (σ : Me) (a0 : Nat) (x1 : Int32) (Q : Int32 → Me → Prop) : Prop := gT σ a0 = 11 ∧ ∃ b2 : Nat, gP σ a0 3 = some b2 ∧ gT σ b2 = 25 ∧ pX11_isWithin σ x1 ((0 : Int32)) ((if (nI (gN σ b2)) < (gI σ a0 4) then (nI (gN σ b2)) else (gI σ a0 4)) - ((1 : Int32))) (fun r4 σ5 => (r4 = 0 ∨ r4 = 1) ∧ Q r4 σ5)
set_option maxHeartbeats 4000000 in
set_option maxRecDepth 100000 in
theorem wX11_isRule {p : Program} {l : Launch} {e : Env} {s : State} {m : MethodId} {args : Array Value} {below : List Frame} {meth : Method} {c : Code} {D : va_G} {cA : Nat → ClassId} {z0 : Nat} (hX : Cx p m c cX11_isRule 2 s args RX11 D cA) (hlk : meth.locks = false) (hr : meth.sig.returnType = (some .boolean)) {σ : Me} {a0 : Nat} {x1 : Int32} {Q : Int32 → Me → Prop} (h : pX11_isRule σ a0 x1 Q) {H : Heap} {locs : List Loc} {ls : Array Slot} (hw : wS D cA z0 s σ H locs) (hl : lv_has ls 2 [(0, .ref a0), (1, .int x1)]) : W p l e rX11_isRule s m args below meth c H locs 0 0 (MQ below (va_Qi Q (BM D cA z0) (AM z0)) args s 0 0 (AM z0)) (F0 m 0 ls []) := by
  have hx := hX.1.1
  have hb := hX.1.2.1
  have hown := hX.1.2.2.2.1
  have hts := hX.1.2.2.2.2
  unfold pX11_isRule at h
  refine lv_iload_n hx hb dX11_isRule_0 rfl (lv_at hl 1 rfl) ?_
  refine lv_iconst (v := 0) hx hb dX11_isRule_1 (by decide) ?_
  refine lv_aload_n hx hb dX11_isRule_2 rfl (lv_at hl 0 rfl) ?_
  obtain ⟨hT1, h⟩ := h
  refine m_get hX hw cl11 hT1 4 (by decide) k_253 (fun _ h => h) (v := .int _) rfl dX11_isRule_3 ?_
  refine lv_aload_n hx hb dX11_isRule_6 rfl (lv_at hl 0 rfl) ?_
  obtain ⟨b2, hb2, h⟩ := h
  refine m_get hX hw cl11 hT1 3 (by decide) k_252 (fun _ h => h) (v := .ref b2) (congrArg va_rf hb2) dX11_isRule_7 ?_
  obtain ⟨hT3, h⟩ := h
  refine m_alen hX hw (t := 5) (by decide) hT3 dX11_isRule_10 ?_
  refine m_min hX k_456 hl.1 (Nat.le_of_ble_eq_true rfl) (Nat.le_of_ble_eq_true rfl) ⟨Nat.le_of_ble_eq_true rfl, Nat.le_of_ble_eq_true rfl⟩ dX11_isRule_11 ?_
  refine lv_iconst (v := 1) hx hb dX11_isRule_14 (by decide) ?_
  refine lv_isub hx hb dX11_isRule_15 ?_
  refine m_ci (m_runS (rest := []) hX hw (tX11_isWithin h) mtX11_isWithin k_311 k_312 ⟨⟨rfl, rfl, Nat.le_of_ble_eq_true rfl, Nat.le_of_ble_eq_true rfl⟩, Nat.le_of_ble_eq_true rfl, Nat.le_of_ble_eq_true rfl⟩ rfl hl.1 rfl (Nat.le_of_ble_eq_true rfl) dX11_isRule_16) hw (fun r4 σ5 H locs h hw => ?_)
  exact m_zret hX hlk hr hw h.1 h.2 dX11_isRule_19
theorem mtX11_isRule : Mth yX11_isRule cX11_isRule 2 (some .boolean) 1 := ⟨k_455, k_43, by decide +kernel⟩
theorem tX11_isRule {l : Launch} {D : va_G} {cA : Nat → ClassId} {z0 : Nat} {σ : Me} {a0 : Nat} {x1 : Int32} {Q : Int32 → Me → Prop} (h : pX11_isRule σ a0 x1 Q) : Met l yX11_isRule (Cond.code yX11_isRule cX11_isRule 2 (some .boolean) :: gTab) rX11_isRule (PcM D cA z0 σ [.ref a0, .int x1]) (va_Qi Q (BM D cA z0) (AM z0)) 0 0 (AM z0) :=
  met_of (by decide) (Nat.le_of_ble_eq_true rfl) (fun hX hlk hr hn hw hl => wX11_isRule hX hlk hr h hw hl)
abbrev rX11_isRuleOf : Room := { frames := 1, cells := 0, slots := 0, locals := 22 }
def pX11_isRuleOf (σ : Me) (x0 : Int32) (x1 : Int32) (x2 : Int32) (Q : Int32 → Me → Prop) : Prop := (x0 = 1 → pX11_isWithin σ x1 ((0 : Int32)) ((12 : Int32)) (fun r2 σ3 => (r2 = 0 ∨ r2 = 1) ∧ Q r2 σ3)) ∧ (x0 = 2 → pX11_isWithin σ x2 ((0 : Int32)) ((12 : Int32)) (fun r4 σ5 => (r4 = 0 → Q ((0 : Int32)) σ5) ∧ (¬ r4 = 0 → pX11_isWithin σ5 x1 ((-12 : Int32)) (x2 - ((1 : Int32))) (fun r7 σ8 => ∀ v_9 : Int32, v_9 = (if r7 = 0 then ((0 : Int32)) else ((1 : Int32))) → (v_9 = 0 ∨ v_9 = 1) ∧ Q v_9 σ8)))) ∧ (x0 = 3 → pX11_isWithin σ x1 ((-12 : Int32)) ((12 : Int32)) (fun r12 σ13 => (r12 = 0 → Q ((0 : Int32)) σ13) ∧ (¬ r12 = 0 → pX11_isWithin σ13 x2 ((1 : Int32)) ((12 : Int32)) (fun r15 σ16 => ∀ v_17 : Int32, v_17 = (if r15 = 0 then ((0 : Int32)) else ((1 : Int32))) → (v_17 = 0 ∨ v_17 = 1) ∧ Q v_17 σ16)))) ∧ (¬ x0 = 1 → ¬ x0 = 2 → ¬ x0 = 3 → Q ((0 : Int32)) σ)
set_option maxHeartbeats 4000000 in
set_option maxRecDepth 100000 in
theorem wX11_isRuleOf {p : Program} {l : Launch} {e : Env} {s : State} {m : MethodId} {args : Array Value} {below : List Frame} {meth : Method} {c : Code} {D : va_G} {cA : Nat → ClassId} {z0 : Nat} (hX : Cx p m c cX11_isRuleOf 3 s args RX11 D cA) (hlk : meth.locks = false) (hr : meth.sig.returnType = (some .boolean)) {σ : Me} {x0 : Int32} {x1 : Int32} {x2 : Int32} {Q : Int32 → Me → Prop} (h : pX11_isRuleOf σ x0 x1 x2 Q) {H : Heap} {locs : List Loc} {ls : Array Slot} (hw : wS D cA z0 s σ H locs) (hl : lv_has ls 3 [(0, .int x0), (1, .int x1), (2, .int x2)]) : W p l e rX11_isRuleOf s m args below meth c H locs 0 0 (MQ below (va_Qi Q (BM D cA z0) (AM z0)) args s 0 0 (AM z0)) (F0 m 0 ls []) := by
  have hx := hX.1.1
  have hb := hX.1.2.1
  have hown := hX.1.2.2.2.1
  have hts := hX.1.2.2.2.2
  unfold pX11_isRuleOf at h
  refine lv_iload_n hx hb dX11_isRuleOf_0 rfl (lv_at hl 0 rfl) ?_
  by_cases hs1_1 : x0 = 1
  · refine lv_tableIn (off := 27) (tgt := 28) hx hb dX11_isRuleOf_1 (by rw [hs1_1]; decide) (by rw [hs1_1]; decide) (by rw [hs1_1]; rfl) (by decide) ?_
    have h := h.1 hs1_1
    refine lv_iload_n hx hb dX11_isRuleOf_28 rfl (lv_at hl 1 rfl) ?_
    refine lv_iconst (v := 0) hx hb dX11_isRuleOf_29 (by decide) ?_
    refine lv_bipush (v := 12) hx hb dX11_isRuleOf_30 (by decide) ?_
    refine m_ci (m_runS (rest := []) hX hw (tX11_isWithin h) mtX11_isWithin k_311 k_312 ⟨⟨rfl, rfl, Nat.le_of_ble_eq_true rfl, Nat.le_of_ble_eq_true rfl⟩, Nat.le_of_ble_eq_true rfl, Nat.le_of_ble_eq_true rfl⟩ rfl hl.1 rfl (Nat.le_of_ble_eq_true rfl) dX11_isRuleOf_32) hw (fun r2 σ3 H locs h hw => ?_)
    exact m_zret hX hlk hr hw h.1 h.2 dX11_isRuleOf_35
  by_cases hs1_2 : x0 = 2
  · refine lv_tableIn (off := 35) (tgt := 36) hx hb dX11_isRuleOf_1 (by rw [hs1_2]; decide) (by rw [hs1_2]; decide) (by rw [hs1_2]; rfl) (by decide) ?_
    have h := h.2.1 hs1_2
    refine lv_iload_n hx hb dX11_isRuleOf_36 rfl (lv_at hl 2 rfl) ?_
    refine lv_iconst (v := 0) hx hb dX11_isRuleOf_37 (by decide) ?_
    refine lv_bipush (v := 12) hx hb dX11_isRuleOf_38 (by decide) ?_
    refine m_ci (m_runS (rest := []) hX hw (tX11_isWithin h) mtX11_isWithin k_311 k_312 ⟨⟨rfl, rfl, Nat.le_of_ble_eq_true rfl, Nat.le_of_ble_eq_true rfl⟩, Nat.le_of_ble_eq_true rfl, Nat.le_of_ble_eq_true rfl⟩ rfl hl.1 rfl (Nat.le_of_ble_eq_true rfl) dX11_isRuleOf_40) hw (fun r4 σ5 H locs h hw => ?_)
    refine lv_if_eq (tgt := 62) hx hb dX11_isRuleOf_43 (by decide) (fun hc6 => ?_) (fun hc6 => ?_)
    · have h := h.1 hc6
      refine lv_iconst (v := 0) hx hb dX11_isRuleOf_62 (by decide) ?_
      exact m_zret hX hlk hr hw (by decide) h dX11_isRuleOf_63
    · have h := h.2 hc6
      refine lv_iload_n hx hb dX11_isRuleOf_46 rfl (lv_at hl 1 rfl) ?_
      refine lv_bipush (v := (-12)) hx hb dX11_isRuleOf_47 (by decide) ?_
      refine lv_iload_n hx hb dX11_isRuleOf_49 rfl (lv_at hl 2 rfl) ?_
      refine lv_iconst (v := 1) hx hb dX11_isRuleOf_50 (by decide) ?_
      refine lv_isub hx hb dX11_isRuleOf_51 ?_
      refine m_ci (m_runS (rest := []) hX hw (tX11_isWithin h) mtX11_isWithin k_311 k_312 ⟨⟨rfl, rfl, Nat.le_of_ble_eq_true rfl, Nat.le_of_ble_eq_true rfl⟩, Nat.le_of_ble_eq_true rfl, Nat.le_of_ble_eq_true rfl⟩ rfl hl.1 rfl (Nat.le_of_ble_eq_true rfl) dX11_isRuleOf_52) hw (fun r7 σ8 H locs h hw => ?_)
      have kM10 : ∀ (v_9 : Int32) (ls : Array Slot), v_9 = (if r7 = 0 then ((0 : Int32)) else ((1 : Int32))) → lv_has ls 3 [] → W p l e rX11_isRuleOf s m args below meth c H locs 0 0 (MQ below (va_Qi Q (BM D cA z0) (AM z0)) args s 0 0 (AM z0)) (F0 m 63 ls [.int v_9]) := by
        intro v_9 ls e_v_9 hl
        have h := h v_9 e_v_9
        exact m_zret hX hlk hr hw h.1 h.2 dX11_isRuleOf_63
      refine lv_if_eq (tgt := 62) hx hb dX11_isRuleOf_55 (by decide) (fun hc11 => ?_) (fun hc11 => ?_)
      · refine lv_iconst (v := 0) hx hb dX11_isRuleOf_62 (by decide) ?_
        exact kM10 _ _ (by first | rfl | rw [if_pos hc11] | simp only [if_pos hc11]) (lv_sub hl [] rfl)
      · refine lv_iconst (v := 1) hx hb dX11_isRuleOf_58 (by decide) ?_
        refine lv_goto (tgt := 63) hx hb dX11_isRuleOf_59 (by decide) ?_
        exact kM10 _ _ (by first | rfl | rw [if_neg hc11] | simp only [if_neg hc11]) (lv_sub hl [] rfl)
  by_cases hs1_3 : x0 = 3
  · refine lv_tableIn (off := 63) (tgt := 64) hx hb dX11_isRuleOf_1 (by rw [hs1_3]; decide) (by rw [hs1_3]; decide) (by rw [hs1_3]; rfl) (by decide) ?_
    have h := h.2.2.1 hs1_3
    refine lv_iload_n hx hb dX11_isRuleOf_64 rfl (lv_at hl 1 rfl) ?_
    refine lv_bipush (v := (-12)) hx hb dX11_isRuleOf_65 (by decide) ?_
    refine lv_bipush (v := 12) hx hb dX11_isRuleOf_67 (by decide) ?_
    refine m_ci (m_runS (rest := []) hX hw (tX11_isWithin h) mtX11_isWithin k_311 k_312 ⟨⟨rfl, rfl, Nat.le_of_ble_eq_true rfl, Nat.le_of_ble_eq_true rfl⟩, Nat.le_of_ble_eq_true rfl, Nat.le_of_ble_eq_true rfl⟩ rfl hl.1 rfl (Nat.le_of_ble_eq_true rfl) dX11_isRuleOf_69) hw (fun r12 σ13 H locs h hw => ?_)
    refine lv_if_eq (tgt := 89) hx hb dX11_isRuleOf_72 (by decide) (fun hc14 => ?_) (fun hc14 => ?_)
    · have h := h.1 hc14
      refine lv_iconst (v := 0) hx hb dX11_isRuleOf_89 (by decide) ?_
      exact m_zret hX hlk hr hw (by decide) h dX11_isRuleOf_90
    · have h := h.2 hc14
      refine lv_iload_n hx hb dX11_isRuleOf_75 rfl (lv_at hl 2 rfl) ?_
      refine lv_iconst (v := 1) hx hb dX11_isRuleOf_76 (by decide) ?_
      refine lv_bipush (v := 12) hx hb dX11_isRuleOf_77 (by decide) ?_
      refine m_ci (m_runS (rest := []) hX hw (tX11_isWithin h) mtX11_isWithin k_311 k_312 ⟨⟨rfl, rfl, Nat.le_of_ble_eq_true rfl, Nat.le_of_ble_eq_true rfl⟩, Nat.le_of_ble_eq_true rfl, Nat.le_of_ble_eq_true rfl⟩ rfl hl.1 rfl (Nat.le_of_ble_eq_true rfl) dX11_isRuleOf_79) hw (fun r15 σ16 H locs h hw => ?_)
      have kM18 : ∀ (v_17 : Int32) (ls : Array Slot), v_17 = (if r15 = 0 then ((0 : Int32)) else ((1 : Int32))) → lv_has ls 3 [] → W p l e rX11_isRuleOf s m args below meth c H locs 0 0 (MQ below (va_Qi Q (BM D cA z0) (AM z0)) args s 0 0 (AM z0)) (F0 m 90 ls [.int v_17]) := by
        intro v_17 ls e_v_17 hl
        have h := h v_17 e_v_17
        exact m_zret hX hlk hr hw h.1 h.2 dX11_isRuleOf_90
      refine lv_if_eq (tgt := 89) hx hb dX11_isRuleOf_82 (by decide) (fun hc19 => ?_) (fun hc19 => ?_)
      · refine lv_iconst (v := 0) hx hb dX11_isRuleOf_89 (by decide) ?_
        exact kM18 _ _ (by first | rfl | rw [if_pos hc19] | simp only [if_pos hc19]) (lv_sub hl [] rfl)
      · refine lv_iconst (v := 1) hx hb dX11_isRuleOf_85 (by decide) ?_
        refine lv_goto (tgt := 90) hx hb dX11_isRuleOf_86 (by decide) ?_
        exact kM18 _ _ (by first | rfl | rw [if_neg hc19] | simp only [if_neg hc19]) (lv_sub hl [] rfl)
  refine lv_tableOut (tgt := 91) hx hb dX11_isRuleOf_1 (by have q1 := lv_neT hs1_1 (show (1 : Int32).toInt = 1 by decide); have q2 := lv_neT hs1_2 (show (2 : Int32).toInt = 2 by decide); have q3 := lv_neT hs1_3 (show (3 : Int32).toInt = 3 by decide); omega) (by decide) ?_
  have h := h.2.2.2 hs1_1 hs1_2 hs1_3
  refine lv_iconst (v := 0) hx hb dX11_isRuleOf_91 (by decide) ?_
  exact m_zret hX hlk hr hw (by decide) h dX11_isRuleOf_92
theorem mtX11_isRuleOf : Mth yX11_isRuleOf cX11_isRuleOf 3 (some .boolean) 3 := ⟨k_407, k_43, by decide +kernel⟩
theorem tX11_isRuleOf {l : Launch} {D : va_G} {cA : Nat → ClassId} {z0 : Nat} {σ : Me} {x0 : Int32} {x1 : Int32} {x2 : Int32} {Q : Int32 → Me → Prop} (h : pX11_isRuleOf σ x0 x1 x2 Q) : Met l yX11_isRuleOf (Cond.code yX11_isRuleOf cX11_isRuleOf 3 (some .boolean) :: gTab) rX11_isRuleOf (PcM D cA z0 σ [.int x0, .int x1, .int x2]) (va_Qi Q (BM D cA z0) (AM z0)) 0 0 (AM z0) :=
  met_of (by decide) (Nat.le_of_ble_eq_true rfl) (fun hX hlk hr hn hw hl => wX11_isRuleOf hX hlk hr h hw hl)
abbrev rX11_isStart : Room := { frames := 2, cells := 0, slots := 0, locals := 42 }
def pX11_isStart (σ : Me) (a0 : Nat) (x1 : Int32) (x2 : Int32) (x3 : Int32) (Q : Int32 → Me → Prop) : Prop := pX11_isBook σ x1 (fun r1 σ2 => (r1 = 0 → Q ((0 : Int32)) σ2) ∧ (¬ r1 = 0 → pX11_areDays σ2 x3 (fun r4 σ5 => (r4 = 0 → Q ((0 : Int32)) σ5) ∧ (¬ r4 = 0 → gT σ5 a0 = 11 ∧ ∃ b9 : Nat, gP σ5 a0 5 = some b9 ∧ gT σ5 b9 = 6 ∧ pX6_floor σ5 b9 (fun r10 σ11 => gT σ11 a0 = 11 ∧ ∃ b14 : Nat, gP σ11 a0 5 = some b14 ∧ gT σ11 b14 = 6 ∧ pX11_isWithin σ11 x2 r10 (gI σ11 b14 0) (fun r16 σ17 => ∀ v_18 : Int32, v_18 = (if r16 = 0 then ((0 : Int32)) else ((1 : Int32))) → (v_18 = 0 ∨ v_18 = 1) ∧ Q v_18 σ17))))))
set_option maxHeartbeats 4000000 in
set_option maxRecDepth 100000 in
theorem wX11_isStart {p : Program} {l : Launch} {e : Env} {s : State} {m : MethodId} {args : Array Value} {below : List Frame} {meth : Method} {c : Code} {D : va_G} {cA : Nat → ClassId} {z0 : Nat} (hX : Cx p m c cX11_isStart 4 s args RX11 D cA) (hlk : meth.locks = false) (hr : meth.sig.returnType = (some .boolean)) {σ : Me} {a0 : Nat} {x1 : Int32} {x2 : Int32} {x3 : Int32} {Q : Int32 → Me → Prop} (h : pX11_isStart σ a0 x1 x2 x3 Q) {H : Heap} {locs : List Loc} {ls : Array Slot} (hw : wS D cA z0 s σ H locs) (hl : lv_has ls 4 [(0, .ref a0), (1, .int x1), (2, .int x2), (3, .int x3)]) : W p l e rX11_isStart s m args below meth c H locs 0 0 (MQ below (va_Qi Q (BM D cA z0) (AM z0)) args s 0 0 (AM z0)) (F0 m 0 ls []) := by
  have hx := hX.1.1
  have hb := hX.1.2.1
  have hown := hX.1.2.2.2.1
  have hts := hX.1.2.2.2.2
  unfold pX11_isStart at h
  refine lv_iload_n hx hb dX11_isStart_0 rfl (lv_at hl 1 rfl) ?_
  refine m_ci (m_runS (rest := []) hX hw (tX11_isBook h) mtX11_isBook k_308 k_309 ⟨⟨rfl, rfl, Nat.le_of_ble_eq_true rfl, Nat.le_of_ble_eq_true rfl⟩, Nat.le_of_ble_eq_true rfl, Nat.le_of_ble_eq_true rfl⟩ rfl hl.1 rfl (Nat.le_of_ble_eq_true rfl) dX11_isStart_1) hw (fun r1 σ2 H locs h hw => ?_)
  refine lv_if_eq (tgt := 39) hx hb dX11_isStart_4 (by decide) (fun hc3 => ?_) (fun hc3 => ?_)
  · have h := h.1 hc3
    refine lv_iconst (v := 0) hx hb dX11_isStart_39 (by decide) ?_
    exact m_zret hX hlk hr hw (by decide) h dX11_isStart_40
  · have h := h.2 hc3
    refine lv_iload_n hx hb dX11_isStart_7 rfl (lv_at hl 3 rfl) ?_
    refine m_ci (m_runS (rest := []) hX hw (tX11_areDays h) mtX11_areDays k_574 k_575 ⟨⟨rfl, rfl, Nat.le_of_ble_eq_true rfl, Nat.le_of_ble_eq_true rfl⟩, Nat.le_of_ble_eq_true rfl, Nat.le_of_ble_eq_true rfl⟩ rfl hl.1 rfl (Nat.le_of_ble_eq_true rfl) dX11_isStart_8) hw (fun r4 σ5 H locs h hw => ?_)
    refine lv_if_eq (tgt := 39) hx hb dX11_isStart_11 (by decide) (fun hc7 => ?_) (fun hc7 => ?_)
    · have h := h.1 hc7
      refine lv_iconst (v := 0) hx hb dX11_isStart_39 (by decide) ?_
      exact m_zret hX hlk hr hw (by decide) h dX11_isStart_40
    · have h := h.2 hc7
      refine lv_iload_n hx hb dX11_isStart_14 rfl (lv_at hl 2 rfl) ?_
      refine lv_aload_n hx hb dX11_isStart_15 rfl (lv_at hl 0 rfl) ?_
      obtain ⟨hT8, h⟩ := h
      obtain ⟨b9, hb9, h⟩ := h
      refine m_get hX hw cl11 hT8 5 (by decide) k_254 (fun _ h => h) (v := .ref b9) (congrArg va_rf hb9) dX11_isStart_16 ?_
      obtain ⟨hT12, h⟩ := h
      refine m_ci (m_runV (rest := [_]) hX hw (tX6_floor h) mtX6_floor k_577 ⟨k_578, k_579⟩ cl6 hT12 ⟨⟨rfl, rfl, Nat.le_of_ble_eq_true rfl, Nat.le_of_ble_eq_true rfl⟩, Nat.le_of_ble_eq_true rfl, Nat.le_of_ble_eq_true rfl⟩ rfl hl.1 rfl (Nat.le_of_ble_eq_true rfl) dX11_isStart_19) hw (fun r10 σ11 H locs h hw => ?_)
      refine lv_aload_n hx hb dX11_isStart_22 rfl (lv_at hl 0 rfl) ?_
      obtain ⟨hT13, h⟩ := h
      obtain ⟨b14, hb14, h⟩ := h
      refine m_get hX hw cl11 hT13 5 (by decide) k_254 (fun _ h => h) (v := .ref b14) (congrArg va_rf hb14) dX11_isStart_23 ?_
      obtain ⟨hT15, h⟩ := h
      refine m_get hX hw cl6 hT15 0 (by decide) k_80 (fun _ h => h) (v := .int _) rfl dX11_isStart_26 ?_
      refine m_ci (m_runS (rest := []) hX hw (tX11_isWithin h) mtX11_isWithin k_311 k_312 ⟨⟨rfl, rfl, Nat.le_of_ble_eq_true rfl, Nat.le_of_ble_eq_true rfl⟩, Nat.le_of_ble_eq_true rfl, Nat.le_of_ble_eq_true rfl⟩ rfl hl.1 rfl (Nat.le_of_ble_eq_true rfl) dX11_isStart_29) hw (fun r16 σ17 H locs h hw => ?_)
      have kM19 : ∀ (v_18 : Int32) (ls : Array Slot), v_18 = (if r16 = 0 then ((0 : Int32)) else ((1 : Int32))) → lv_has ls 4 [] → W p l e rX11_isStart s m args below meth c H locs 0 0 (MQ below (va_Qi Q (BM D cA z0) (AM z0)) args s 0 0 (AM z0)) (F0 m 40 ls [.int v_18]) := by
        intro v_18 ls e_v_18 hl
        have h := h v_18 e_v_18
        exact m_zret hX hlk hr hw h.1 h.2 dX11_isStart_40
      refine lv_if_eq (tgt := 39) hx hb dX11_isStart_32 (by decide) (fun hc20 => ?_) (fun hc20 => ?_)
      · refine lv_iconst (v := 0) hx hb dX11_isStart_39 (by decide) ?_
        exact kM19 _ _ (by first | rfl | rw [if_pos hc20] | simp only [if_pos hc20]) (lv_sub hl [] rfl)
      · refine lv_iconst (v := 1) hx hb dX11_isStart_35 (by decide) ?_
        refine lv_goto (tgt := 40) hx hb dX11_isStart_36 (by decide) ?_
        exact kM19 _ _ (by first | rfl | rw [if_neg hc20] | simp only [if_neg hc20]) (lv_sub hl [] rfl)
theorem mtX11_isStart : Mth yX11_isStart cX11_isStart 4 (some .boolean) 3 := ⟨k_573, k_43, by decide +kernel⟩
theorem tX11_isStart {l : Launch} {D : va_G} {cA : Nat → ClassId} {z0 : Nat} {σ : Me} {a0 : Nat} {x1 : Int32} {x2 : Int32} {x3 : Int32} {Q : Int32 → Me → Prop} (h : pX11_isStart σ a0 x1 x2 x3 Q) : Met l yX11_isStart (Cond.code yX11_isStart cX11_isStart 4 (some .boolean) :: gTab) rX11_isStart (PcM D cA z0 σ [.ref a0, .int x1, .int x2, .int x3]) (va_Qi Q (BM D cA z0) (AM z0)) 0 0 (AM z0) :=
  met_of (by decide) (Nat.le_of_ble_eq_true rfl) (fun hX hlk hr hn hw hl => wX11_isStart hX hlk hr h hw hl)
abbrev rX11_isStretch : Room := { frames := 1, cells := 0, slots := 0, locals := 22 }
def pX11_isStretch (σ : Me) (x0 : Int32) (x1 : Int32) (Q : Int32 → Me → Prop) : Prop := pX11_isWithin σ x1 ((0 : Int32)) ((7 : Int32)) (fun r1 σ2 => (r1 = 0 → Q ((0 : Int32)) σ2) ∧ (¬ r1 = 0 → pX11_isWithin σ2 x0 ((0 : Int32)) (((7 : Int32)) - x1) (fun r4 σ5 => ∀ v_6 : Int32, v_6 = (if r4 = 0 then ((0 : Int32)) else ((1 : Int32))) → (v_6 = 0 ∨ v_6 = 1) ∧ Q v_6 σ5)))
set_option maxHeartbeats 4000000 in
set_option maxRecDepth 100000 in
theorem wX11_isStretch {p : Program} {l : Launch} {e : Env} {s : State} {m : MethodId} {args : Array Value} {below : List Frame} {meth : Method} {c : Code} {D : va_G} {cA : Nat → ClassId} {z0 : Nat} (hX : Cx p m c cX11_isStretch 2 s args RX11 D cA) (hlk : meth.locks = false) (hr : meth.sig.returnType = (some .boolean)) {σ : Me} {x0 : Int32} {x1 : Int32} {Q : Int32 → Me → Prop} (h : pX11_isStretch σ x0 x1 Q) {H : Heap} {locs : List Loc} {ls : Array Slot} (hw : wS D cA z0 s σ H locs) (hl : lv_has ls 2 [(0, .int x0), (1, .int x1)]) : W p l e rX11_isStretch s m args below meth c H locs 0 0 (MQ below (va_Qi Q (BM D cA z0) (AM z0)) args s 0 0 (AM z0)) (F0 m 0 ls []) := by
  have hx := hX.1.1
  have hb := hX.1.2.1
  have hown := hX.1.2.2.2.1
  have hts := hX.1.2.2.2.2
  unfold pX11_isStretch at h
  refine lv_iload_n hx hb dX11_isStretch_0 rfl (lv_at hl 1 rfl) ?_
  refine lv_iconst (v := 0) hx hb dX11_isStretch_1 (by decide) ?_
  refine lv_bipush (v := 7) hx hb dX11_isStretch_2 (by decide) ?_
  refine m_ci (m_runS (rest := []) hX hw (tX11_isWithin h) mtX11_isWithin k_311 k_312 ⟨⟨rfl, rfl, Nat.le_of_ble_eq_true rfl, Nat.le_of_ble_eq_true rfl⟩, Nat.le_of_ble_eq_true rfl, Nat.le_of_ble_eq_true rfl⟩ rfl hl.1 rfl (Nat.le_of_ble_eq_true rfl) dX11_isStretch_4) hw (fun r1 σ2 H locs h hw => ?_)
  refine lv_if_eq (tgt := 26) hx hb dX11_isStretch_7 (by decide) (fun hc3 => ?_) (fun hc3 => ?_)
  · have h := h.1 hc3
    refine lv_iconst (v := 0) hx hb dX11_isStretch_26 (by decide) ?_
    exact m_zret hX hlk hr hw (by decide) h dX11_isStretch_27
  · have h := h.2 hc3
    refine lv_iload_n hx hb dX11_isStretch_10 rfl (lv_at hl 0 rfl) ?_
    refine lv_iconst (v := 0) hx hb dX11_isStretch_11 (by decide) ?_
    refine lv_bipush (v := 7) hx hb dX11_isStretch_12 (by decide) ?_
    refine lv_iload_n hx hb dX11_isStretch_14 rfl (lv_at hl 1 rfl) ?_
    refine lv_isub hx hb dX11_isStretch_15 ?_
    refine m_ci (m_runS (rest := []) hX hw (tX11_isWithin h) mtX11_isWithin k_311 k_312 ⟨⟨rfl, rfl, Nat.le_of_ble_eq_true rfl, Nat.le_of_ble_eq_true rfl⟩, Nat.le_of_ble_eq_true rfl, Nat.le_of_ble_eq_true rfl⟩ rfl hl.1 rfl (Nat.le_of_ble_eq_true rfl) dX11_isStretch_16) hw (fun r4 σ5 H locs h hw => ?_)
    have kM7 : ∀ (v_6 : Int32) (ls : Array Slot), v_6 = (if r4 = 0 then ((0 : Int32)) else ((1 : Int32))) → lv_has ls 2 [] → W p l e rX11_isStretch s m args below meth c H locs 0 0 (MQ below (va_Qi Q (BM D cA z0) (AM z0)) args s 0 0 (AM z0)) (F0 m 27 ls [.int v_6]) := by
      intro v_6 ls e_v_6 hl
      have h := h v_6 e_v_6
      exact m_zret hX hlk hr hw h.1 h.2 dX11_isStretch_27
    refine lv_if_eq (tgt := 26) hx hb dX11_isStretch_19 (by decide) (fun hc8 => ?_) (fun hc8 => ?_)
    · refine lv_iconst (v := 0) hx hb dX11_isStretch_26 (by decide) ?_
      exact kM7 _ _ (by first | rfl | rw [if_pos hc8] | simp only [if_pos hc8]) (lv_sub hl [] rfl)
    · refine lv_iconst (v := 1) hx hb dX11_isStretch_22 (by decide) ?_
      refine lv_goto (tgt := 27) hx hb dX11_isStretch_23 (by decide) ?_
      exact kM7 _ _ (by first | rfl | rw [if_neg hc8] | simp only [if_neg hc8]) (lv_sub hl [] rfl)
theorem mtX11_isStretch : Mth yX11_isStretch cX11_isStretch 2 (some .boolean) 2 := ⟨k_339, k_43, by decide +kernel⟩
theorem tX11_isStretch {l : Launch} {D : va_G} {cA : Nat → ClassId} {z0 : Nat} {σ : Me} {x0 : Int32} {x1 : Int32} {Q : Int32 → Me → Prop} (h : pX11_isStretch σ x0 x1 Q) : Met l yX11_isStretch (Cond.code yX11_isStretch cX11_isStretch 2 (some .boolean) :: gTab) rX11_isStretch (PcM D cA z0 σ [.int x0, .int x1]) (va_Qi Q (BM D cA z0) (AM z0)) 0 0 (AM z0) :=
  met_of (by decide) (Nat.le_of_ble_eq_true rfl) (fun hX hlk hr hn hw hl => wX11_isStretch hX hlk hr h hw hl)
abbrev rX11_refuse : Room := { frames := 1, cells := 0, slots := 0, locals := 22 }
def pX11_refuse (σ : Me) (a0 : Nat) (x1 : Int32) (Q : Int32 → Me → Prop) : Prop := gT σ a0 = 11 ∧ ∀ σ2 : Me, σ2 = sI σ a0 16 x1 → pX11_isWithin σ2 x1 ((1 : Int32)) ((5 : Int32)) (fun r3 σ4 => (r3 = 0 → Q ((-3 : Int32)) σ4) ∧ (¬ r3 = 0 → gT σ4 a0 = 11 ∧ ∃ b8 : Nat, gP σ4 a0 17 = some b8 ∧ gT σ4 b8 = 20 ∧ vp_in x1 (gN σ4 b8) ∧ vp_in x1 (gN σ4 b8) ∧ ∀ σ12 : Me, σ12 = sI σ4 b8 x1.toNatClampNeg ((gI σ4 b8 x1.toNatClampNeg) + ((1 : Int32))) → Q ((-3 : Int32)) σ12))
set_option maxHeartbeats 4000000 in
set_option maxRecDepth 100000 in
theorem wX11_refuse {p : Program} {l : Launch} {e : Env} {s : State} {m : MethodId} {args : Array Value} {below : List Frame} {meth : Method} {c : Code} {D : va_G} {cA : Nat → ClassId} {z0 : Nat} (hX : Cx p m c cX11_refuse 2 s args RX11 D cA) (hlk : meth.locks = false) (hr : meth.sig.returnType = (some .int)) {σ : Me} {a0 : Nat} {x1 : Int32} {Q : Int32 → Me → Prop} (h : pX11_refuse σ a0 x1 Q) {H : Heap} {locs : List Loc} {ls : Array Slot} (hw : wS D cA z0 s σ H locs) (hl : lv_has ls 2 [(0, .ref a0), (1, .int x1)]) : W p l e rX11_refuse s m args below meth c H locs 0 0 (MQ below (va_Qi Q (BM D cA z0) (AM z0)) args s 0 0 (AM z0)) (F0 m 0 ls []) := by
  have hx := hX.1.1
  have hb := hX.1.2.1
  have hown := hX.1.2.2.2.1
  have hts := hX.1.2.2.2.2
  unfold pX11_refuse at h
  refine lv_aload_n hx hb dX11_refuse_0 rfl (lv_at hl 0 rfl) ?_
  refine lv_iload_n hx hb dX11_refuse_1 rfl (lv_at hl 1 rfl) ?_
  obtain ⟨hT1, h⟩ := h
  refine m_putI hX hw cl11 hT1 16 (by decide) k_265 (fun _ h => h) rfl rfl dX11_refuse_2 (fun H locs hw => ?_)
  let σ2 : Me := sI σ a0 16 x1
  have h := h σ2 rfl
  have hw : wS D cA z0 s σ2 H locs := hw
  refine lv_iload_n hx hb dX11_refuse_5 rfl (lv_at hl 1 rfl) ?_
  refine lv_iconst (v := 1) hx hb dX11_refuse_6 (by decide) ?_
  refine lv_iconst (v := 5) hx hb dX11_refuse_7 (by decide) ?_
  refine m_ci (m_runS (rest := []) hX hw (tX11_isWithin h) mtX11_isWithin k_311 k_312 ⟨⟨rfl, rfl, Nat.le_of_ble_eq_true rfl, Nat.le_of_ble_eq_true rfl⟩, Nat.le_of_ble_eq_true rfl, Nat.le_of_ble_eq_true rfl⟩ rfl hl.1 rfl (Nat.le_of_ble_eq_true rfl) dX11_refuse_8) hw (fun r3 σ4 H locs h hw => ?_)
  refine lv_if_eq (tgt := 24) hx hb dX11_refuse_11 (by decide) (fun hc6 => ?_) (fun hc6 => ?_)
  · have h := h.1 hc6
    refine lv_bipush (v := (-3)) hx hb dX11_refuse_24 (by decide) ?_
    exact m_iret hX hlk hr hw h dX11_refuse_26
  · have h := h.2 hc6
    refine lv_aload_n hx hb dX11_refuse_14 rfl (lv_at hl 0 rfl) ?_
    obtain ⟨hT7, h⟩ := h
    obtain ⟨b8, hb8, h⟩ := h
    refine m_get hX hw cl11 hT7 17 (by decide) k_266 (fun _ h => h) (v := .ref b8) (congrArg va_rf hb8) dX11_refuse_15 ?_
    refine lv_iload_n hx hb dX11_refuse_18 rfl (lv_at hl 1 rfl) ?_
    refine lv_dup2_11 hx hb dX11_refuse_19 rfl rfl ?_
    obtain ⟨hT9, h⟩ := h
    obtain ⟨hc10, h⟩ := h
    refine m_iald hX hw hT9 hc10 dX11_refuse_20 ?_
    refine lv_iconst (v := 1) hx hb dX11_refuse_21 (by decide) ?_
    refine lv_iadd hx hb dX11_refuse_22 ?_
    obtain ⟨hc11, h⟩ := h
    refine m_iast hX hw hT9 hc11 dX11_refuse_23 (fun H locs hw => ?_)
    let σ12 : Me := sI σ4 b8 x1.toNatClampNeg ((gI σ4 b8 x1.toNatClampNeg) + ((1 : Int32)))
    have h := h σ12 rfl
    have hw : wS D cA z0 s σ12 H locs := hw
    refine lv_bipush (v := (-3)) hx hb dX11_refuse_24 (by decide) ?_
    exact m_iret hX hlk hr hw h dX11_refuse_26
theorem mtX11_refuse : Mth yX11_refuse cX11_refuse 2 (some .int) 1 := ⟨k_325, k_43, by decide +kernel⟩
theorem tX11_refuse {l : Launch} {D : va_G} {cA : Nat → ClassId} {z0 : Nat} {σ : Me} {a0 : Nat} {x1 : Int32} {Q : Int32 → Me → Prop} (h : pX11_refuse σ a0 x1 Q) : Met l yX11_refuse (Cond.code yX11_refuse cX11_refuse 2 (some .int) :: gTab) rX11_refuse (PcM D cA z0 σ [.ref a0, .int x1]) (va_Qi Q (BM D cA z0) (AM z0)) 0 0 (AM z0) :=
  met_of (by decide) (Nat.le_of_ble_eq_true rfl) (fun hX hlk hr hn hw hl => wX11_refuse hX hlk hr h hw hl)
abbrev rX11_lackOf : Room := { frames := 1, cells := 0, slots := 0, locals := 22 }
def pX11_lackOf (σ : Me) (a0 : Nat) (Q : Int32 → Me → Prop) : Prop := gT σ a0 = 1 ∧ ((gI σ a0 0) = 0 → Q ((1 : Int32)) σ) ∧ (¬ (gI σ a0 0) = 0 → pX1_weightOfAll σ a0 (fun r3 σ4 => ∀ v_5 : Int32, v_5 = (if r3 = 0 then ((4 : Int32)) else ((0 : Int32))) → Q v_5 σ4))
set_option maxHeartbeats 4000000 in
set_option maxRecDepth 100000 in
theorem wX11_lackOf {p : Program} {l : Launch} {e : Env} {s : State} {m : MethodId} {args : Array Value} {below : List Frame} {meth : Method} {c : Code} {D : va_G} {cA : Nat → ClassId} {z0 : Nat} (hX : Cx p m c cX11_lackOf 1 s args RX11 D cA) (hlk : meth.locks = false) (hr : meth.sig.returnType = (some .int)) {σ : Me} {a0 : Nat} {Q : Int32 → Me → Prop} (h : pX11_lackOf σ a0 Q) {H : Heap} {locs : List Loc} {ls : Array Slot} (hw : wS D cA z0 s σ H locs) (hl : lv_has ls 1 [(0, .ref a0)]) : W p l e rX11_lackOf s m args below meth c H locs 0 0 (MQ below (va_Qi Q (BM D cA z0) (AM z0)) args s 0 0 (AM z0)) (F0 m 0 ls []) := by
  have hx := hX.1.1
  have hb := hX.1.2.1
  have hown := hX.1.2.2.2.1
  have hts := hX.1.2.2.2.2
  unfold pX11_lackOf at h
  refine lv_aload_n hx hb dX11_lackOf_0 rfl (lv_at hl 0 rfl) ?_
  obtain ⟨hT1, h⟩ := h
  refine m_get hX hw cl1 hT1 0 (by decide) k_126 (fun _ h => h) (v := .int _) rfl dX11_lackOf_1 ?_
  refine lv_if_ne (tgt := 9) hx hb dX11_lackOf_4 (by decide) (fun hc2 => ?_) (fun hc2 => ?_)
  · have h := h.2 hc2
    refine lv_aload_n hx hb dX11_lackOf_9 rfl (lv_at hl 0 rfl) ?_
    refine m_ci (m_runV (rest := []) hX hw (tX1_weightOfAll h) mtX1_weightOfAll k_350 ⟨k_351, k_352⟩ cl1 hT1 ⟨⟨rfl, rfl, Nat.le_of_ble_eq_true rfl, Nat.le_of_ble_eq_true rfl⟩, Nat.le_of_ble_eq_true rfl, Nat.le_of_ble_eq_true rfl⟩ rfl hl.1 rfl (Nat.le_of_ble_eq_true rfl) dX11_lackOf_10) hw (fun r3 σ4 H locs h hw => ?_)
    have kM6 : ∀ (v_5 : Int32) (ls : Array Slot), v_5 = (if r3 = 0 then ((4 : Int32)) else ((0 : Int32))) → lv_has ls 1 [] → W p l e rX11_lackOf s m args below meth c H locs 0 0 (MQ below (va_Qi Q (BM D cA z0) (AM z0)) args s 0 0 (AM z0)) (F0 m 21 ls [.int v_5]) := by
      intro v_5 ls e_v_5 hl
      have h := h v_5 e_v_5
      exact m_iret hX hlk hr hw h dX11_lackOf_21
    refine lv_if_ne (tgt := 20) hx hb dX11_lackOf_13 (by decide) (fun hc7 => ?_) (fun hc7 => ?_)
    · refine lv_iconst (v := 0) hx hb dX11_lackOf_20 (by decide) ?_
      exact kM6 _ _ (by first | rfl | rw [if_neg hc7] | simp only [if_neg hc7]) (lv_sub hl [] rfl)
    · refine lv_iconst (v := 4) hx hb dX11_lackOf_16 (by decide) ?_
      refine lv_goto (tgt := 21) hx hb dX11_lackOf_17 (by decide) ?_
      exact kM6 _ _ (by first | rfl | rw [if_pos hc7] | simp only [if_pos hc7]) (lv_sub hl [] rfl)
  · have h := h.1 hc2
    refine lv_iconst (v := 1) hx hb dX11_lackOf_7 (by decide) ?_
    exact m_iret hX hlk hr hw h dX11_lackOf_8
theorem mtX11_lackOf : Mth yX11_lackOf cX11_lackOf 1 (some .int) 1 := ⟨k_349, k_43, by decide +kernel⟩
theorem tX11_lackOf {l : Launch} {D : va_G} {cA : Nat → ClassId} {z0 : Nat} {σ : Me} {a0 : Nat} {Q : Int32 → Me → Prop} (h : pX11_lackOf σ a0 Q) : Met l yX11_lackOf (Cond.code yX11_lackOf cX11_lackOf 1 (some .int) :: gTab) rX11_lackOf (PcM D cA z0 σ [.ref a0]) (va_Qi Q (BM D cA z0) (AM z0)) 0 0 (AM z0) :=
  met_of (by decide) (Nat.le_of_ble_eq_true rfl) (fun hX hlk hr hn hw hl => wX11_lackOf hX hlk hr h hw hl)
abbrev rX11_lackOf_ : Room := { frames := 2, cells := 0, slots := 0, locals := 42 }
def pX11_lackOf_ (σ : Me) (q0 : Option Nat) (a1 : Nat) (Q : Int32 → Me → Prop) : Prop := (q0 = none → Q ((1 : Int32)) σ) ∧ (∀ b1 : Nat, q0 = some b1 → pX11_lackOf σ a1 (fun r2 σ3 => Q r2 σ3))
set_option maxHeartbeats 4000000 in
set_option maxRecDepth 100000 in
theorem wX11_lackOf_ {p : Program} {l : Launch} {e : Env} {s : State} {m : MethodId} {args : Array Value} {below : List Frame} {meth : Method} {c : Code} {D : va_G} {cA : Nat → ClassId} {z0 : Nat} (hX : Cx p m c cX11_lackOf_ 2 s args RX11 D cA) (hlk : meth.locks = false) (hr : meth.sig.returnType = (some .int)) {σ : Me} {q0 : Option Nat} {a1 : Nat} {Q : Int32 → Me → Prop} (h : pX11_lackOf_ σ q0 a1 Q) {H : Heap} {locs : List Loc} {ls : Array Slot} (hw : wS D cA z0 s σ H locs) (hl : lv_has ls 2 [(0, va_rf q0), (1, .ref a1)]) : W p l e rX11_lackOf_ s m args below meth c H locs 0 0 (MQ below (va_Qi Q (BM D cA z0) (AM z0)) args s 0 0 (AM z0)) (F0 m 0 ls []) := by
  have hx := hX.1.1
  have hb := hX.1.2.1
  have hown := hX.1.2.2.2.1
  have hts := hX.1.2.2.2.2
  unfold pX11_lackOf_ at h
  refine m_aloadQ_n hX dX11_lackOf__0 rfl (lv_at hl 0 rfl) ?_
  refine m_ifnonnull (tgt := 8) hX dX11_lackOf__1 (by decide) (fun b1 hb1 => ?_) (fun hn => ?_)
  · have h := h.2 b1 hb1
    rw [hb1] at hl
    have hl : lv_has ls 2 [(0, .ref b1), (1, .ref a1)] := hl
    refine lv_aload_n hx hb dX11_lackOf__8 rfl (lv_at hl 1 rfl) ?_
    refine m_ci (m_runS (rest := []) hX hw (tX11_lackOf h) mtX11_lackOf k_347 k_348 ⟨⟨rfl, rfl, Nat.le_of_ble_eq_true rfl, Nat.le_of_ble_eq_true rfl⟩, Nat.le_of_ble_eq_true rfl, Nat.le_of_ble_eq_true rfl⟩ rfl hl.1 rfl (Nat.le_of_ble_eq_true rfl) dX11_lackOf__9) hw (fun r2 σ3 H locs h hw => ?_)
    exact m_iret hX hlk hr hw h dX11_lackOf__12
  · have h := h.1 hn
    refine lv_iconst (v := 1) hx hb dX11_lackOf__4 (by decide) ?_
    refine lv_goto (tgt := 12) hx hb dX11_lackOf__5 (by decide) ?_
    exact m_iret hX hlk hr hw h dX11_lackOf__12
theorem mtX11_lackOf_ : Mth yX11_lackOf_ cX11_lackOf_ 2 (some .int) 2 := ⟨k_583, k_43, by decide +kernel⟩
theorem tX11_lackOf_ {l : Launch} {D : va_G} {cA : Nat → ClassId} {z0 : Nat} {σ : Me} {q0 : Option Nat} {a1 : Nat} {Q : Int32 → Me → Prop} (h : pX11_lackOf_ σ q0 a1 Q) : Met l yX11_lackOf_ (Cond.code yX11_lackOf_ cX11_lackOf_ 2 (some .int) :: gTab) rX11_lackOf_ (PcM D cA z0 σ [va_rf q0, .ref a1]) (va_Qi Q (BM D cA z0) (AM z0)) 0 0 (AM z0) :=
  by cases q0 <;> exact met_of (by decide) (Nat.le_of_ble_eq_true rfl) (fun hX hlk hr hn hw hl => wX11_lackOf_ hX hlk hr h hw hl)
abbrev rX11_keep : Room := { frames := 1, cells := 0, slots := 0, locals := 22 }
def pX11_keep (σ : Me) (a0 : Nat) (a1 : Nat) (Q : Int32 → Me → Prop) : Prop := gT σ a0 = 11 ∧ ∀ x2_2 : Int32, x2_2 = (gI σ a0 4) → ∃ b3 : Nat, gP σ a0 3 = some b3 ∧ gT σ b3 = 25 ∧ pX11_isWithin σ x2_2 ((0 : Int32)) ((nI (gN σ b3)) - ((1 : Int32))) (fun r5 σ6 => (r5 = 0 → Q x2_2 σ6) ∧ (¬ r5 = 0 → gT σ6 a0 = 11 ∧ ∃ b10 : Nat, gP σ6 a0 3 = some b10 ∧ gT σ6 b10 = 25 ∧ vp_in x2_2 (gN σ6 b10) ∧ (gT σ6 a1 = 0 ∨ gT σ6 a1 = 2 ∨ gT σ6 a1 = 3 ∨ gT σ6 a1 = 9) ∧ ∀ σ14 : Me, σ14 = sP σ6 b10 x2_2.toNatClampNeg (some a1) → ∀ σ15 : Me, σ15 = sI σ14 a0 4 ((gI σ14 a0 4) + ((1 : Int32))) → Q x2_2 σ15))
set_option maxHeartbeats 4000000 in
set_option maxRecDepth 100000 in
theorem wX11_keep {p : Program} {l : Launch} {e : Env} {s : State} {m : MethodId} {args : Array Value} {below : List Frame} {meth : Method} {c : Code} {D : va_G} {cA : Nat → ClassId} {z0 : Nat} (hX : Cx p m c cX11_keep 3 s args RX11 D cA) (hlk : meth.locks = false) (hr : meth.sig.returnType = (some .int)) {σ : Me} {a0 : Nat} {a1 : Nat} {Q : Int32 → Me → Prop} (h : pX11_keep σ a0 a1 Q) {H : Heap} {locs : List Loc} {ls : Array Slot} (hw : wS D cA z0 s σ H locs) (hl : lv_has ls 3 [(0, .ref a0), (1, .ref a1)]) : W p l e rX11_keep s m args below meth c H locs 0 0 (MQ below (va_Qi Q (BM D cA z0) (AM z0)) args s 0 0 (AM z0)) (F0 m 0 ls []) := by
  have hx := hX.1.1
  have hb := hX.1.2.1
  have hown := hX.1.2.2.2.1
  have hts := hX.1.2.2.2.2
  unfold pX11_keep at h
  refine lv_aload_n hx hb dX11_keep_0 rfl (lv_at hl 0 rfl) ?_
  obtain ⟨hT1, h⟩ := h
  refine m_get hX hw cl11 hT1 4 (by decide) k_253 (fun _ h => h) (v := .int _) rfl dX11_keep_1 ?_
  refine lv_topi (fun x2_2 e_x2_2 => ?_)
  have h := h x2_2 e_x2_2
  refine lv_istore_n (lv' := [(2, _), (0, _), (1, _)]) hx hb dX11_keep_4 rfl hl (by decide) rfl (fun ls hl => ?_)
  refine lv_iload_n hx hb dX11_keep_5 rfl (lv_at hl 0 rfl) ?_
  refine lv_iconst (v := 0) hx hb dX11_keep_6 (by decide) ?_
  refine lv_aload_n hx hb dX11_keep_7 rfl (lv_at hl 1 rfl) ?_
  obtain ⟨b3, hb3, h⟩ := h
  refine m_get hX hw cl11 hT1 3 (by decide) k_252 (fun _ h => h) (v := .ref b3) (congrArg va_rf hb3) dX11_keep_8 ?_
  obtain ⟨hT4, h⟩ := h
  refine m_alen hX hw (t := 5) (by decide) hT4 dX11_keep_11 ?_
  refine lv_iconst (v := 1) hx hb dX11_keep_12 (by decide) ?_
  refine lv_isub hx hb dX11_keep_13 ?_
  refine m_ci (m_runS (rest := []) hX hw (tX11_isWithin h) mtX11_isWithin k_311 k_312 ⟨⟨rfl, rfl, Nat.le_of_ble_eq_true rfl, Nat.le_of_ble_eq_true rfl⟩, Nat.le_of_ble_eq_true rfl, Nat.le_of_ble_eq_true rfl⟩ rfl hl.1 rfl (Nat.le_of_ble_eq_true rfl) dX11_keep_14) hw (fun r5 σ6 H locs h hw => ?_)
  refine lv_if_eq (tgt := 37) hx hb dX11_keep_17 (by decide) (fun hc8 => ?_) (fun hc8 => ?_)
  · have h := h.1 hc8
    refine lv_iload_n hx hb dX11_keep_37 rfl (lv_at hl 0 rfl) ?_
    exact m_iret hX hlk hr hw h dX11_keep_38
  · have h := h.2 hc8
    refine lv_aload_n hx hb dX11_keep_20 rfl (lv_at hl 1 rfl) ?_
    obtain ⟨hT9, h⟩ := h
    obtain ⟨b10, hb10, h⟩ := h
    refine m_get hX hw cl11 hT9 3 (by decide) k_252 (fun _ h => h) (v := .ref b10) (congrArg va_rf hb10) dX11_keep_21 ?_
    refine lv_iload_n hx hb dX11_keep_24 rfl (lv_at hl 0 rfl) ?_
    refine lv_aload_n hx hb dX11_keep_25 rfl (lv_at hl 2 rfl) ?_
    obtain ⟨hT11, h⟩ := h
    obtain ⟨hc12, h⟩ := h
    obtain ⟨hc13, h⟩ := h
    refine m_aastRR hX hw hT11 hc13 hc12 dX11_keep_26 (fun H locs hw => ?_)
    let σ14 : Me := sP σ6 b10 x2_2.toNatClampNeg (some a1)
    have h := h σ14 rfl
    have hw : wS D cA z0 s σ14 H locs := hw
    refine lv_aload_n hx hb dX11_keep_27 rfl (lv_at hl 1 rfl) ?_
    refine lv_dup hx hb dX11_keep_28 rfl ?_
    refine m_get hX hw cl11 hT9 4 (by decide) k_253 (fun _ h => h) (v := .int _) rfl dX11_keep_29 ?_
    refine lv_iconst (v := 1) hx hb dX11_keep_32 (by decide) ?_
    refine lv_iadd hx hb dX11_keep_33 ?_
    refine m_putI hX hw cl11 hT9 4 (by decide) k_253 (fun _ h => h) rfl rfl dX11_keep_34 (fun H locs hw => ?_)
    let σ15 : Me := sI σ14 a0 4 ((gI σ14 a0 4) + ((1 : Int32)))
    have h := h σ15 rfl
    have hw : wS D cA z0 s σ15 H locs := hw
    refine lv_iload_n hx hb dX11_keep_37 rfl (lv_at hl 0 rfl) ?_
    exact m_iret hX hlk hr hw h dX11_keep_38
theorem mtX11_keep : Mth yX11_keep cX11_keep 3 (some .int) 1 := ⟨k_400, k_43, by decide +kernel⟩
theorem tX11_keep {l : Launch} {D : va_G} {cA : Nat → ClassId} {z0 : Nat} {σ : Me} {a0 : Nat} {a1 : Nat} {Q : Int32 → Me → Prop} (h : pX11_keep σ a0 a1 Q) : Met l yX11_keep (Cond.code yX11_keep cX11_keep 3 (some .int) :: gTab) rX11_keep (PcM D cA z0 σ [.ref a0, .ref a1]) (va_Qi Q (BM D cA z0) (AM z0)) 0 0 (AM z0) :=
  met_of (by decide) (Nat.le_of_ble_eq_true rfl) (fun hX hlk hr hn hw hl => wX11_keep hX hlk hr h hw hl)
abbrev rX11_cutOrder : Room := { frames := 1, cells := 0, slots := 0, locals := 21 }
def pX11_cutOrder (σ : Me) (x0 : Int32) (Q : Int32 → Me → Prop) : Prop := Q (if ((0 : Int32)) < (if x0 < ((12 : Int32)) then x0 else ((12 : Int32))) then (if x0 < ((12 : Int32)) then x0 else ((12 : Int32))) else ((0 : Int32))) σ
set_option maxHeartbeats 4000000 in
set_option maxRecDepth 100000 in
theorem wX11_cutOrder {p : Program} {l : Launch} {e : Env} {s : State} {m : MethodId} {args : Array Value} {below : List Frame} {meth : Method} {c : Code} {D : va_G} {cA : Nat → ClassId} {z0 : Nat} (hX : Cx p m c cX11_cutOrder 1 s args RX11 D cA) (hlk : meth.locks = false) (hr : meth.sig.returnType = (some .int)) {σ : Me} {x0 : Int32} {Q : Int32 → Me → Prop} (h : pX11_cutOrder σ x0 Q) {H : Heap} {locs : List Loc} {ls : Array Slot} (hw : wS D cA z0 s σ H locs) (hl : lv_has ls 1 [(0, .int x0)]) : W p l e rX11_cutOrder s m args below meth c H locs 0 0 (MQ below (va_Qi Q (BM D cA z0) (AM z0)) args s 0 0 (AM z0)) (F0 m 0 ls []) := by
  have hx := hX.1.1
  have hb := hX.1.2.1
  have hown := hX.1.2.2.2.1
  have hts := hX.1.2.2.2.2
  unfold pX11_cutOrder at h
  refine lv_iconst (v := 0) hx hb dX11_cutOrder_0 (by decide) ?_
  refine lv_bipush (v := 12) hx hb dX11_cutOrder_1 (by decide) ?_
  refine lv_iload_n hx hb dX11_cutOrder_3 rfl (lv_at hl 0 rfl) ?_
  refine m_min hX k_456 hl.1 (Nat.le_of_ble_eq_true rfl) (Nat.le_of_ble_eq_true rfl) ⟨Nat.le_of_ble_eq_true rfl, Nat.le_of_ble_eq_true rfl⟩ dX11_cutOrder_4 ?_
  refine m_max hX k_554 hl.1 (Nat.le_of_ble_eq_true rfl) (Nat.le_of_ble_eq_true rfl) ⟨Nat.le_of_ble_eq_true rfl, Nat.le_of_ble_eq_true rfl⟩ dX11_cutOrder_7 ?_
  exact m_iret hX hlk hr hw h dX11_cutOrder_10
theorem mtX11_cutOrder : Mth yX11_cutOrder cX11_cutOrder 1 (some .int) 1 := ⟨k_553, k_43, by decide +kernel⟩
theorem tX11_cutOrder {l : Launch} {D : va_G} {cA : Nat → ClassId} {z0 : Nat} {σ : Me} {x0 : Int32} {Q : Int32 → Me → Prop} (h : pX11_cutOrder σ x0 Q) : Met l yX11_cutOrder (Cond.code yX11_cutOrder cX11_cutOrder 1 (some .int) :: gTab) rX11_cutOrder (PcM D cA z0 σ [.int x0]) (va_Qi Q (BM D cA z0) (AM z0)) 0 0 (AM z0) :=
  met_of (by decide) (Nat.le_of_ble_eq_true rfl) (fun hX hlk hr hn hw hl => wX11_cutOrder hX hlk hr h hw hl)
abbrev rX11_rulesThere : Room := { frames := 0, cells := 0, slots := 0, locals := 0 }
def pX11_rulesThere (σ : Me) (a0 : Nat) (Q : Int32 → Me → Prop) : Prop := ∃ I4 : Nat → Me → Int32 → Int32 → Prop, (∀ (n4 : Nat) (σ1 : Me) (x1_2 : Int32) (x2_3 : Int32), I4 n4 σ1 x1_2 x2_3 → gT σ1 a0 = 11 ∧ ∃ b5 : Nat, gP σ1 a0 3 = some b5 ∧ gT σ1 b5 = 25 ∧ ((nI (gN σ1 b5)) ≤ x2_3 → Q x1_2 σ1) ∧ (¬ (nI (gN σ1 b5)) ≤ x2_3 → vp_in x2_3 (gN σ1 b5) ∧ (gP σ1 b5 x2_3.toNatClampNeg = none → ∀ x2_10 : Int32, x2_10 = x2_3 + 1 → ∃ m4 : Nat, m4 < n4 ∧ I4 m4 σ1 x1_2 x2_10) ∧ (∀ b9 : Nat, gP σ1 b5 x2_3.toNatClampNeg = some b9 → ∀ x1_11 : Int32, x1_11 = x1_2 + 1 → ∀ x2_12 : Int32, x2_12 = x2_3 + 1 → ∃ m4 : Nat, m4 < n4 ∧ I4 m4 σ1 x1_11 x2_12))) ∧ ∃ n4 : Nat, I4 n4 σ ((0 : Int32)) ((0 : Int32))
set_option maxHeartbeats 4000000 in
set_option maxRecDepth 100000 in
theorem wX11_rulesThere {p : Program} {l : Launch} {e : Env} {s : State} {m : MethodId} {args : Array Value} {below : List Frame} {meth : Method} {c : Code} {D : va_G} {cA : Nat → ClassId} {z0 : Nat} (hX : Cx p m c cX11_rulesThere 3 s args RX11 D cA) (hlk : meth.locks = false) (hr : meth.sig.returnType = (some .int)) {σ : Me} {a0 : Nat} {Q : Int32 → Me → Prop} (h : pX11_rulesThere σ a0 Q) {H : Heap} {locs : List Loc} {ls : Array Slot} (hw : wS D cA z0 s σ H locs) (hl : lv_has ls 3 [(0, .ref a0)]) : W p l e rX11_rulesThere s m args below meth c H locs 0 0 (MQ below (va_Qi Q (BM D cA z0) (AM z0)) args s 0 0 (AM z0)) (F0 m 0 ls []) := by
  have hx := hX.1.1
  have hb := hX.1.2.1
  have hown := hX.1.2.2.2.1
  have hts := hX.1.2.2.2.2
  unfold pX11_rulesThere at h
  refine lv_iconst (v := 0) hx hb dX11_rulesThere_0 (by decide) ?_
  refine lv_istore_n (lv' := [(1, _), (0, _)]) hx hb dX11_rulesThere_1 rfl hl (by decide) rfl (fun ls hl => ?_)
  refine lv_iconst (v := 0) hx hb dX11_rulesThere_2 (by decide) ?_
  refine lv_istore_n (lv' := [(2, _), (1, _), (0, _)]) hx hb dX11_rulesThere_3 rfl hl (by decide) rfl (fun ls hl => ?_)
  obtain ⟨I4, hI4, n4, h⟩ := h
  have key4 : ∀ (n4 : Nat) (σ1 : Me) (x1_2 : Int32) (x2_3 : Int32) (H : Heap) (locs : List Loc) (ls : Array Slot), I4 n4 σ1 x1_2 x2_3 → wS D cA z0 s σ1 H locs → lv_has ls 3 [(0, .ref a0), (1, .int x1_2), (2, .int x2_3)] → W p l e rX11_rulesThere s m args below meth c H locs 0 0 (MQ below (va_Qi Q (BM D cA z0) (AM z0)) args s 0 0 (AM z0)) (F0 m 4 ls []) := by
    intro n4
    induction n4 using Nat.strongRecOn with
    | _ n4 ih4 =>
      intro σ1 x1_2 x2_3 H locs ls h hw hl
      have h := hI4 _ _ _ _ h
      refine lv_iload_n hx hb dX11_rulesThere_4 rfl (lv_at hl 2 rfl) ?_
      refine lv_aload_n hx hb dX11_rulesThere_5 rfl (lv_at hl 0 rfl) ?_
      obtain ⟨hT4, h⟩ := h
      obtain ⟨b5, hb5, h⟩ := h
      refine m_get hX hw cl11 hT4 3 (by decide) k_252 (fun _ h => h) (v := .ref b5) (congrArg va_rf hb5) dX11_rulesThere_6 ?_
      obtain ⟨hT6, h⟩ := h
      refine m_alen hX hw (t := 5) (by decide) hT6 dX11_rulesThere_9 ?_
      refine lv_icmp_ge (tgt := 31) hx hb dX11_rulesThere_10 (by decide) (fun hc7 => ?_) (fun hc7 => ?_)
      · have h := h.1 hc7
        refine lv_iload_n hx hb dX11_rulesThere_31 rfl (lv_at hl 1 rfl) ?_
        exact m_iret hX hlk hr hw h dX11_rulesThere_32
      · have h := h.2 hc7
        refine lv_aload_n hx hb dX11_rulesThere_13 rfl (lv_at hl 0 rfl) ?_
        refine m_get hX hw cl11 hT4 3 (by decide) k_252 (fun _ h => h) (v := .ref b5) (congrArg va_rf hb5) dX11_rulesThere_14 ?_
        refine lv_iload_n hx hb dX11_rulesThere_17 rfl (lv_at hl 2 rfl) ?_
        obtain ⟨hc8, h⟩ := h
        refine m_aald hX hw (t := 5) (by decide) hT6 hc8 dX11_rulesThere_18 ?_
        refine m_ifnull (tgt := 25) hX dX11_rulesThere_19 (by decide) (fun hn => ?_) (fun b9 hb9 => ?_)
        · have h := h.1 hn
          obtain ⟨x2_10, e_x2_10⟩ : ∃ y : Int32, y = x2_3 + 1 := ⟨_, rfl⟩
          have h := h x2_10 e_x2_10
          refine lv_iinc (v := x2_10) (lv' := [(2, _), (0, _), (1, _)]) hx hb dX11_rulesThere_25 hl (k := 2) rfl (by rw [e_x2_10]; rfl) (by decide) rfl (fun ls hl => ?_)
          refine lv_goto (tgt := 4) hx hb dX11_rulesThere_28 (by decide) ?_
          obtain ⟨m4, hm4, h⟩ := h
          exact ih4 m4 hm4 _ _ _ _ _ _ h hw (lv_sub hl [1, 2, 0] rfl)
        · have h := h.2 b9 hb9
          obtain ⟨x1_11, e_x1_11⟩ : ∃ y : Int32, y = x1_2 + 1 := ⟨_, rfl⟩
          have h := h x1_11 e_x1_11
          refine lv_iinc (v := x1_11) (lv' := [(1, _), (0, _), (2, _)]) hx hb dX11_rulesThere_22 hl (k := 1) rfl (by rw [e_x1_11]; rfl) (by decide) rfl (fun ls hl => ?_)
          obtain ⟨x2_12, e_x2_12⟩ : ∃ y : Int32, y = x2_3 + 1 := ⟨_, rfl⟩
          have h := h x2_12 e_x2_12
          refine lv_iinc (v := x2_12) (lv' := [(2, _), (1, _), (0, _)]) hx hb dX11_rulesThere_25 hl (k := 2) rfl (by rw [e_x2_12]; rfl) (by decide) rfl (fun ls hl => ?_)
          refine lv_goto (tgt := 4) hx hb dX11_rulesThere_28 (by decide) ?_
          obtain ⟨m4, hm4, h⟩ := h
          exact ih4 m4 hm4 _ _ _ _ _ _ h hw (lv_sub hl [2, 1, 0] rfl)
  exact key4 _ _ _ _ _ _ _ h hw (lv_sub hl [2, 1, 0] rfl)
theorem mtX11_rulesThere : Mth yX11_rulesThere cX11_rulesThere 3 (some .int) 0 := ⟨k_840, k_43, by decide +kernel⟩
theorem tX11_rulesThere {l : Launch} {D : va_G} {cA : Nat → ClassId} {z0 : Nat} {σ : Me} {a0 : Nat} {Q : Int32 → Me → Prop} (h : pX11_rulesThere σ a0 Q) : Met l yX11_rulesThere (Cond.code yX11_rulesThere cX11_rulesThere 3 (some .int) :: gTab) rX11_rulesThere (PcM D cA z0 σ [.ref a0]) (va_Qi Q (BM D cA z0) (AM z0)) 0 0 (AM z0) :=
  met_of (by decide) (Nat.le_of_ble_eq_true rfl) (fun hX hlk hr hn hw hl => wX11_rulesThere hX hlk hr h hw hl)
abbrev rX11_weightOfSeen : Room := { frames := 1, cells := 0, slots := 0, locals := 21 }
def pX11_weightOfSeen (σ : Me) (a0 : Nat) (a1 : Nat) (Q : Int64 → Me → Prop) : Prop := ∃ I5 : Nat → Me → Int64 → Int32 → Prop, (∀ (n5 : Nat) (σ1 : Me) (x2_2 : Int64) (x4_3 : Int32), I5 n5 σ1 x2_2 x4_3 → gT σ1 a0 = 11 ∧ ((gI σ1 a0 13) ≤ x4_3 → Q x2_2 σ1) ∧ (¬ (gI σ1 a0 13) ≤ x4_3 → ∃ b6 : Nat, gP σ1 a0 12 = some b6 ∧ gT σ1 b6 = 20 ∧ ((nI (gN σ1 b6)) ≤ x4_3 → Q x2_2 σ1) ∧ (¬ (nI (gN σ1 b6)) ≤ x4_3 → vp_in x4_3 (gN σ1 b6) ∧ gT σ1 a1 = 1 ∧ pX1_weightOf σ1 a1 (gI σ1 b6 x4_3.toNatClampNeg) (fun r10 σ11 => ∀ x2_13 : Int64, x2_13 = (x2_2 * r10.toInt64) → ∀ x4_14 : Int32, x4_14 = x4_3 + 1 → ∃ m5 : Nat, m5 < n5 ∧ I5 m5 σ11 x2_13 x4_14)))) ∧ ∃ n5 : Nat, I5 n5 σ ((1 : Int64)) ((0 : Int32))
set_option maxHeartbeats 4000000 in
set_option maxRecDepth 100000 in
theorem wX11_weightOfSeen {p : Program} {l : Launch} {e : Env} {s : State} {m : MethodId} {args : Array Value} {below : List Frame} {meth : Method} {c : Code} {D : va_G} {cA : Nat → ClassId} {z0 : Nat} (hX : Cx p m c cX11_weightOfSeen 5 s args RX11 D cA) (hlk : meth.locks = false) (hr : meth.sig.returnType = (some .long)) {σ : Me} {a0 : Nat} {a1 : Nat} {Q : Int64 → Me → Prop} (h : pX11_weightOfSeen σ a0 a1 Q) {H : Heap} {locs : List Loc} {ls : Array Slot} (hw : wS D cA z0 s σ H locs) (hl : lv_has ls 5 [(0, .ref a0), (1, .ref a1)]) : W p l e rX11_weightOfSeen s m args below meth c H locs 0 0 (MQ below (va_Ql Q (BM D cA z0) (AM z0)) args s 0 0 (AM z0)) (F0 m 0 ls []) := by
  have hx := hX.1.1
  have hb := hX.1.2.1
  have hown := hX.1.2.2.2.1
  have hts := hX.1.2.2.2.2
  unfold pX11_weightOfSeen at h
  refine lv_lconst (v := 1) hx hb dX11_weightOfSeen_0 (by decide) ?_
  refine lv_lstore_n (lv' := [(2, _), (0, _), (1, _)]) hx hb dX11_weightOfSeen_1 rfl hl (by decide) rfl (fun ls hl => ?_)
  refine lv_iconst (v := 0) hx hb dX11_weightOfSeen_2 (by decide) ?_
  refine lv_istore (lv' := [(4, _), (2, _), (0, _), (1, _)]) hx hb dX11_weightOfSeen_3 hl (by decide) rfl (fun ls hl => ?_)
  obtain ⟨I5, hI5, n5, h⟩ := h
  have key5 : ∀ (n5 : Nat) (σ1 : Me) (x2_2 : Int64) (x4_3 : Int32) (H : Heap) (locs : List Loc) (ls : Array Slot), I5 n5 σ1 x2_2 x4_3 → wS D cA z0 s σ1 H locs → lv_has ls 5 [(0, .ref a0), (1, .ref a1), (2, .long x2_2), (4, .int x4_3)] → W p l e rX11_weightOfSeen s m args below meth c H locs 0 0 (MQ below (va_Ql Q (BM D cA z0) (AM z0)) args s 0 0 (AM z0)) (F0 m 5 ls []) := by
    intro n5
    induction n5 using Nat.strongRecOn with
    | _ n5 ih5 =>
      intro σ1 x2_2 x4_3 H locs ls h hw hl
      have h := hI5 _ _ _ _ h
      refine lv_iload hx hb dX11_weightOfSeen_5 (lv_at hl 3 rfl) ?_
      refine lv_aload_n hx hb dX11_weightOfSeen_7 rfl (lv_at hl 0 rfl) ?_
      obtain ⟨hT4, h⟩ := h
      refine m_get hX hw cl11 hT4 13 (by decide) k_262 (fun _ h => h) (v := .int _) rfl dX11_weightOfSeen_8 ?_
      refine lv_icmp_ge (tgt := 45) hx hb dX11_weightOfSeen_11 (by decide) (fun hc5 => ?_) (fun hc5 => ?_)
      · have h := h.1 hc5
        refine lv_lload_n hx hb dX11_weightOfSeen_45 rfl (lv_at hl 2 rfl) ?_
        exact m_lret hX hlk hr hw h dX11_weightOfSeen_46
      · have h := h.2 hc5
        refine lv_iload hx hb dX11_weightOfSeen_14 (lv_at hl 3 rfl) ?_
        refine lv_aload_n hx hb dX11_weightOfSeen_16 rfl (lv_at hl 0 rfl) ?_
        obtain ⟨b6, hb6, h⟩ := h
        refine m_get hX hw cl11 hT4 12 (by decide) k_261 (fun _ h => h) (v := .ref b6) (congrArg va_rf hb6) dX11_weightOfSeen_17 ?_
        obtain ⟨hT7, h⟩ := h
        refine m_alen hX hw (t := 0) (by decide) hT7 dX11_weightOfSeen_20 ?_
        refine lv_icmp_ge (tgt := 45) hx hb dX11_weightOfSeen_21 (by decide) (fun hc8 => ?_) (fun hc8 => ?_)
        · have h := h.1 hc8
          refine lv_lload_n hx hb dX11_weightOfSeen_45 rfl (lv_at hl 2 rfl) ?_
          exact m_lret hX hlk hr hw h dX11_weightOfSeen_46
        · have h := h.2 hc8
          refine lv_lload_n hx hb dX11_weightOfSeen_24 rfl (lv_at hl 2 rfl) ?_
          refine lv_aload_n hx hb dX11_weightOfSeen_25 rfl (lv_at hl 1 rfl) ?_
          refine lv_aload_n hx hb dX11_weightOfSeen_26 rfl (lv_at hl 0 rfl) ?_
          refine m_get hX hw cl11 hT4 12 (by decide) k_261 (fun _ h => h) (v := .ref b6) (congrArg va_rf hb6) dX11_weightOfSeen_27 ?_
          refine lv_iload hx hb dX11_weightOfSeen_30 (lv_at hl 3 rfl) ?_
          obtain ⟨hc9, h⟩ := h
          refine m_iald hX hw hT7 hc9 dX11_weightOfSeen_32 ?_
          obtain ⟨hT12, h⟩ := h
          refine m_ci (m_runV (rest := [_]) hX hw (tX1_weightOf h) mtX1_weightOf k_824 ⟨k_589, k_590⟩ cl1 hT12 ⟨⟨rfl, rfl, Nat.le_of_ble_eq_true rfl, Nat.le_of_ble_eq_true rfl⟩, Nat.le_of_ble_eq_true rfl, Nat.le_of_ble_eq_true rfl⟩ rfl hl.1 rfl (Nat.le_of_ble_eq_true rfl) dX11_weightOfSeen_33) hw (fun r10 σ11 H locs h hw => ?_)
          refine lv_i2l hx hb dX11_weightOfSeen_36 rfl ?_
          refine lv_lmul hx hb dX11_weightOfSeen_37 ?_
          refine lv_topl (fun x2_13 e_x2_13 => ?_)
          have h := h x2_13 e_x2_13
          refine lv_lstore_n (lv' := [(2, _), (0, _), (1, _), (4, _)]) hx hb dX11_weightOfSeen_38 rfl hl (by decide) rfl (fun ls hl => ?_)
          obtain ⟨x4_14, e_x4_14⟩ : ∃ y : Int32, y = x4_3 + 1 := ⟨_, rfl⟩
          have h := h x4_14 e_x4_14
          refine lv_iinc (v := x4_14) (lv' := [(4, _), (2, _), (0, _), (1, _)]) hx hb dX11_weightOfSeen_39 hl (k := 3) rfl (by rw [e_x4_14]; rfl) (by decide) rfl (fun ls hl => ?_)
          refine lv_goto (tgt := 5) hx hb dX11_weightOfSeen_42 (by decide) ?_
          obtain ⟨m5, hm5, h⟩ := h
          exact ih5 m5 hm5 _ _ _ _ _ _ h hw (lv_sub hl [2, 3, 1, 0] rfl)
  exact key5 _ _ _ _ _ _ _ h hw (lv_sub hl [2, 3, 1, 0] rfl)
theorem mtX11_weightOfSeen : Mth yX11_weightOfSeen cX11_weightOfSeen 5 (some .long) 1 := ⟨k_823, k_43, by decide +kernel⟩
theorem tX11_weightOfSeen {l : Launch} {D : va_G} {cA : Nat → ClassId} {z0 : Nat} {σ : Me} {a0 : Nat} {a1 : Nat} {Q : Int64 → Me → Prop} (h : pX11_weightOfSeen σ a0 a1 Q) : Met l yX11_weightOfSeen (Cond.code yX11_weightOfSeen cX11_weightOfSeen 5 (some .long) :: gTab) rX11_weightOfSeen (PcM D cA z0 σ [.ref a0, .ref a1]) (va_Ql Q (BM D cA z0) (AM z0)) 0 0 (AM z0) :=
  met_of (by decide) (Nat.le_of_ble_eq_true rfl) (fun hX hlk hr hn hw hl => wX11_weightOfSeen hX hlk hr h hw hl)
abbrev rX11_rowsOf : Room := { frames := 1, cells := 0, slots := 0, locals := 22 }
def pX11_rowsOf (σ : Me) (a0 : Nat) (x1 : Int32) (Q : Int64 → Me → Prop) : Prop := gT σ a0 = 1 ∧ pX1_weightOfAll σ a0 (fun r1 σ2 => ∀ x2_4 : Int64, x2_4 = (r1.toInt64) → ∃ I12 : Nat → Me → Int64 → Int32 → Prop, (∀ (n12 : Nat) (σ5 : Me) (x4_6 : Int64) (x6_7 : Int32), I12 n12 σ5 x4_6 x6_7 → (x1 ≤ x6_7 → Q x4_6 σ5) ∧ (¬ x1 ≤ x6_7 → ∀ x4_10 : Int64, x4_10 = (x4_6 * x2_4) → ∀ x6_11 : Int32, x6_11 = x6_7 + 1 → ∃ m12 : Nat, m12 < n12 ∧ I12 m12 σ5 x4_10 x6_11)) ∧ ∃ n12 : Nat, I12 n12 σ2 ((1 : Int64)) ((0 : Int32)))
set_option maxHeartbeats 4000000 in
set_option maxRecDepth 100000 in
theorem wX11_rowsOf {p : Program} {l : Launch} {e : Env} {s : State} {m : MethodId} {args : Array Value} {below : List Frame} {meth : Method} {c : Code} {D : va_G} {cA : Nat → ClassId} {z0 : Nat} (hX : Cx p m c cX11_rowsOf 7 s args RX11 D cA) (hlk : meth.locks = false) (hr : meth.sig.returnType = (some .long)) {σ : Me} {a0 : Nat} {x1 : Int32} {Q : Int64 → Me → Prop} (h : pX11_rowsOf σ a0 x1 Q) {H : Heap} {locs : List Loc} {ls : Array Slot} (hw : wS D cA z0 s σ H locs) (hl : lv_has ls 7 [(0, .ref a0), (1, .int x1)]) : W p l e rX11_rowsOf s m args below meth c H locs 0 0 (MQ below (va_Ql Q (BM D cA z0) (AM z0)) args s 0 0 (AM z0)) (F0 m 0 ls []) := by
  have hx := hX.1.1
  have hb := hX.1.2.1
  have hown := hX.1.2.2.2.1
  have hts := hX.1.2.2.2.2
  unfold pX11_rowsOf at h
  refine lv_aload_n hx hb dX11_rowsOf_0 rfl (lv_at hl 0 rfl) ?_
  obtain ⟨hT3, h⟩ := h
  refine m_ci (m_runV (rest := []) hX hw (tX1_weightOfAll h) mtX1_weightOfAll k_350 ⟨k_351, k_352⟩ cl1 hT3 ⟨⟨rfl, rfl, Nat.le_of_ble_eq_true rfl, Nat.le_of_ble_eq_true rfl⟩, Nat.le_of_ble_eq_true rfl, Nat.le_of_ble_eq_true rfl⟩ rfl hl.1 rfl (Nat.le_of_ble_eq_true rfl) dX11_rowsOf_1) hw (fun r1 σ2 H locs h hw => ?_)
  refine lv_i2l hx hb dX11_rowsOf_4 rfl ?_
  refine lv_topl (fun x2_4 e_x2_4 => ?_)
  have h := h x2_4 e_x2_4
  refine lv_lstore_n (lv' := [(2, _), (0, _), (1, _)]) hx hb dX11_rowsOf_5 rfl hl (by decide) rfl (fun ls hl => ?_)
  refine lv_lconst (v := 1) hx hb dX11_rowsOf_6 (by decide) ?_
  refine lv_lstore (lv' := [(4, _), (2, _), (0, _), (1, _)]) hx hb dX11_rowsOf_7 hl (by decide) rfl (fun ls hl => ?_)
  refine lv_iconst (v := 0) hx hb dX11_rowsOf_9 (by decide) ?_
  refine lv_istore (lv' := [(6, _), (4, _), (2, _), (0, _), (1, _)]) hx hb dX11_rowsOf_10 hl (by decide) rfl (fun ls hl => ?_)
  obtain ⟨I12, hI12, n12, h⟩ := h
  have key12 : ∀ (n12 : Nat) (σ5 : Me) (x4_6 : Int64) (x6_7 : Int32) (H : Heap) (locs : List Loc) (ls : Array Slot), I12 n12 σ5 x4_6 x6_7 → wS D cA z0 s σ5 H locs → lv_has ls 7 [(1, .int x1), (2, .long x2_4), (4, .long x4_6), (6, .int x6_7)] → W p l e rX11_rowsOf s m args below meth c H locs 0 0 (MQ below (va_Ql Q (BM D cA z0) (AM z0)) args s 0 0 (AM z0)) (F0 m 12 ls []) := by
    intro n12
    induction n12 using Nat.strongRecOn with
    | _ n12 ih12 =>
      intro σ5 x4_6 x6_7 H locs ls h hw hl
      have h := hI12 _ _ _ _ h
      refine lv_iload hx hb dX11_rowsOf_12 (lv_at hl 3 rfl) ?_
      refine lv_iload_n hx hb dX11_rowsOf_14 rfl (lv_at hl 0 rfl) ?_
      refine lv_icmp_ge (tgt := 30) hx hb dX11_rowsOf_15 (by decide) (fun hc9 => ?_) (fun hc9 => ?_)
      · have h := h.1 hc9
        refine lv_lload hx hb dX11_rowsOf_30 (lv_at hl 2 rfl) ?_
        exact m_lret hX hlk hr hw h dX11_rowsOf_32
      · have h := h.2 hc9
        refine lv_lload hx hb dX11_rowsOf_18 (lv_at hl 2 rfl) ?_
        refine lv_lload_n hx hb dX11_rowsOf_20 rfl (lv_at hl 1 rfl) ?_
        refine lv_lmul hx hb dX11_rowsOf_21 ?_
        refine lv_topl (fun x4_10 e_x4_10 => ?_)
        have h := h x4_10 e_x4_10
        refine lv_lstore (lv' := [(4, _), (1, _), (2, _), (6, _)]) hx hb dX11_rowsOf_22 hl (by decide) rfl (fun ls hl => ?_)
        obtain ⟨x6_11, e_x6_11⟩ : ∃ y : Int32, y = x6_7 + 1 := ⟨_, rfl⟩
        have h := h x6_11 e_x6_11
        refine lv_iinc (v := x6_11) (lv' := [(6, _), (4, _), (1, _), (2, _)]) hx hb dX11_rowsOf_24 hl (k := 3) rfl (by rw [e_x6_11]; rfl) (by decide) rfl (fun ls hl => ?_)
        refine lv_goto (tgt := 12) hx hb dX11_rowsOf_27 (by decide) ?_
        obtain ⟨m12, hm12, h⟩ := h
        exact ih12 m12 hm12 _ _ _ _ _ _ h hw (lv_sub hl [2, 3, 1, 0] rfl)
  exact key12 _ _ _ _ _ _ _ h hw (lv_sub hl [4, 2, 1, 0] rfl)
theorem mtX11_rowsOf : Mth yX11_rowsOf cX11_rowsOf 7 (some .long) 2 := ⟨k_693, k_43, by decide +kernel⟩
theorem tX11_rowsOf {l : Launch} {D : va_G} {cA : Nat → ClassId} {z0 : Nat} {σ : Me} {a0 : Nat} {x1 : Int32} {Q : Int64 → Me → Prop} (h : pX11_rowsOf σ a0 x1 Q) : Met l yX11_rowsOf (Cond.code yX11_rowsOf cX11_rowsOf 7 (some .long) :: gTab) rX11_rowsOf (PcM D cA z0 σ [.ref a0, .int x1]) (va_Ql Q (BM D cA z0) (AM z0)) 0 0 (AM z0) :=
  met_of (by decide) (Nat.le_of_ble_eq_true rfl) (fun hX hlk hr hn hw hl => wX11_rowsOf hX hlk hr h hw hl)
abbrev rX11_commonDivisor : Room := { frames := 0, cells := 0, slots := 0, locals := 0 }
def pX11_commonDivisor (σ : Me) (y0 : Int64) (y2 : Int64) (Q : Int64 → Me → Prop) : Prop := ∃ I9 : Nat → Me → Int64 → Int64 → Int32 → Prop, (∀ (n9 : Nat) (σ1 : Me) (x4_2 : Int64) (x6_3 : Int64) (x8_4 : Int32), I9 n9 σ1 x4_2 x6_3 x8_4 → (((200 : Int32)) ≤ x8_4 → Q x4_2 σ1) ∧ (¬ ((200 : Int32)) ≤ x8_4 → (x6_3 = ((0 : Int64)) → Q x4_2 σ1) ∧ (¬ x6_3 = ((0 : Int64)) → ¬ x6_3 = 0 ∧ ∀ x9_12 : Int64, x9_12 = (x4_2 - x4_2 / x6_3 * x6_3) → ∀ x8_13 : Int32, x8_13 = x8_4 + 1 → ∃ m9 : Nat, m9 < n9 ∧ I9 m9 σ1 x6_3 x9_12 x8_13))) ∧ ∃ n9 : Nat, I9 n9 σ y0 y2 ((0 : Int32))
set_option maxHeartbeats 4000000 in
set_option maxRecDepth 100000 in
theorem wX11_commonDivisor {p : Program} {l : Launch} {e : Env} {s : State} {m : MethodId} {args : Array Value} {below : List Frame} {meth : Method} {c : Code} {D : va_G} {cA : Nat → ClassId} {z0 : Nat} (hX : Cx p m c cX11_commonDivisor 11 s args RX11 D cA) (hlk : meth.locks = false) (hr : meth.sig.returnType = (some .long)) {σ : Me} {y0 : Int64} {y2 : Int64} {Q : Int64 → Me → Prop} (h : pX11_commonDivisor σ y0 y2 Q) {H : Heap} {locs : List Loc} {ls : Array Slot} (hw : wS D cA z0 s σ H locs) (hl : lv_has ls 11 [(0, .long y0), (2, .long y2)]) : W p l e rX11_commonDivisor s m args below meth c H locs 0 0 (MQ below (va_Ql Q (BM D cA z0) (AM z0)) args s 0 0 (AM z0)) (F0 m 0 ls []) := by
  have hx := hX.1.1
  have hb := hX.1.2.1
  have hown := hX.1.2.2.2.1
  have hts := hX.1.2.2.2.2
  unfold pX11_commonDivisor at h
  refine lv_lload_n hx hb dX11_commonDivisor_0 rfl (lv_at hl 0 rfl) ?_
  refine lv_lstore (lv' := [(4, _), (0, _), (2, _)]) hx hb dX11_commonDivisor_1 hl (by decide) rfl (fun ls hl => ?_)
  refine lv_lload_n hx hb dX11_commonDivisor_3 rfl (lv_at hl 2 rfl) ?_
  refine lv_lstore (lv' := [(6, _), (4, _), (0, _), (2, _)]) hx hb dX11_commonDivisor_4 hl (by decide) rfl (fun ls hl => ?_)
  refine lv_iconst (v := 0) hx hb dX11_commonDivisor_6 (by decide) ?_
  refine lv_istore (lv' := [(8, _), (6, _), (4, _), (0, _), (2, _)]) hx hb dX11_commonDivisor_7 hl (by decide) rfl (fun ls hl => ?_)
  obtain ⟨I9, hI9, n9, h⟩ := h
  have key9 : ∀ (n9 : Nat) (σ1 : Me) (x4_2 : Int64) (x6_3 : Int64) (x8_4 : Int32) (H : Heap) (locs : List Loc) (ls : Array Slot), I9 n9 σ1 x4_2 x6_3 x8_4 → wS D cA z0 s σ1 H locs → lv_has ls 11 [(4, .long x4_2), (6, .long x6_3), (8, .int x8_4)] → W p l e rX11_commonDivisor s m args below meth c H locs 0 0 (MQ below (va_Ql Q (BM D cA z0) (AM z0)) args s 0 0 (AM z0)) (F0 m 9 ls []) := by
    intro n9
    induction n9 using Nat.strongRecOn with
    | _ n9 ih9 =>
      intro σ1 x4_2 x6_3 x8_4 H locs ls h hw hl
      have h := hI9 _ _ _ _ _ h
      refine lv_iload hx hb dX11_commonDivisor_9 (lv_at hl 2 rfl) ?_
      refine lv_sipush (v := 200) hx hb dX11_commonDivisor_11 (by decide) ?_
      refine lv_icmp_ge (tgt := 45) hx hb dX11_commonDivisor_14 (by decide) (fun hc5 => ?_) (fun hc5 => ?_)
      · have h := h.1 hc5
        refine lv_lload hx hb dX11_commonDivisor_45 (lv_at hl 0 rfl) ?_
        exact m_lret hX hlk hr hw h dX11_commonDivisor_47
      · have h := h.2 hc5
        refine lv_lload hx hb dX11_commonDivisor_17 (lv_at hl 1 rfl) ?_
        refine lv_lconst (v := 0) hx hb dX11_commonDivisor_19 (by decide) ?_
        refine m_leq (tgt := 45) hX dX11_commonDivisor_20 dX11_commonDivisor_21 (by decide) (fun hc10 => ?_) (fun hc10 => ?_)
        · have h := h.1 hc10
          refine lv_lload hx hb dX11_commonDivisor_45 (lv_at hl 0 rfl) ?_
          exact m_lret hX hlk hr hw h dX11_commonDivisor_47
        · have h := h.2 hc10
          refine lv_lload hx hb dX11_commonDivisor_24 (lv_at hl 0 rfl) ?_
          refine lv_lload hx hb dX11_commonDivisor_26 (lv_at hl 1 rfl) ?_
          obtain ⟨hc11, h⟩ := h
          refine lv_lrem hx hb dX11_commonDivisor_28 hc11 ?_
          refine lv_topl (fun x9_12 e_x9_12 => ?_)
          have h := h x9_12 e_x9_12
          refine lv_lstore (lv' := [(9, _), (4, _), (6, _), (8, _)]) hx hb dX11_commonDivisor_29 hl (by decide) rfl (fun ls hl => ?_)
          refine lv_lload hx hb dX11_commonDivisor_31 (lv_at hl 2 rfl) ?_
          refine lv_lstore (lv' := [(4, _), (9, _), (6, _), (8, _)]) hx hb dX11_commonDivisor_33 hl (by decide) rfl (fun ls hl => ?_)
          refine lv_lload hx hb dX11_commonDivisor_35 (lv_at hl 1 rfl) ?_
          refine lv_lstore (lv' := [(6, _), (4, _), (9, _), (8, _)]) hx hb dX11_commonDivisor_37 hl (by decide) rfl (fun ls hl => ?_)
          obtain ⟨x8_13, e_x8_13⟩ : ∃ y : Int32, y = x8_4 + 1 := ⟨_, rfl⟩
          have h := h x8_13 e_x8_13
          refine lv_iinc (v := x8_13) (lv' := [(8, _), (6, _), (4, _), (9, _)]) hx hb dX11_commonDivisor_39 hl (k := 3) rfl (by rw [e_x8_13]; rfl) (by decide) rfl (fun ls hl => ?_)
          refine lv_goto (tgt := 9) hx hb dX11_commonDivisor_42 (by decide) ?_
          obtain ⟨m9, hm9, h⟩ := h
          exact ih9 m9 hm9 _ _ _ _ _ _ _ h hw (lv_sub hl [2, 1, 0] rfl)
  exact key9 _ _ _ _ _ _ _ _ h hw (lv_sub hl [2, 1, 0] rfl)
theorem mtX11_commonDivisor : Mth yX11_commonDivisor cX11_commonDivisor 11 (some .long) 2 := ⟨k_701, k_43, by decide +kernel⟩
theorem tX11_commonDivisor {l : Launch} {D : va_G} {cA : Nat → ClassId} {z0 : Nat} {σ : Me} {y0 : Int64} {y2 : Int64} {Q : Int64 → Me → Prop} (h : pX11_commonDivisor σ y0 y2 Q) : Met l yX11_commonDivisor (Cond.code yX11_commonDivisor cX11_commonDivisor 11 (some .long) :: gTab) rX11_commonDivisor (PcM D cA z0 σ [.long y0, .long y2]) (va_Ql Q (BM D cA z0) (AM z0)) 0 0 (AM z0) :=
  met_of (by decide) (Nat.le_of_ble_eq_true rfl) (fun hX hlk hr hn hw hl => wX11_commonDivisor hX hlk hr h hw hl)
abbrev rX11_digestBooks : Room := { frames := 1, cells := 0, slots := 0, locals := 21 }
def pX11_digestBooks (σ : Me) (a0 : Nat) (y1 : Int64) (Q : Int64 → Me → Prop) : Prop := ∃ I5 : Nat → Me → Int64 → Int32 → Prop, (∀ (n5 : Nat) (σ1 : Me) (x3_2 : Int64) (x5_3 : Int32), I5 n5 σ1 x3_2 x5_3 → gT σ1 a0 = 11 ∧ ∃ b5 : Nat, gP σ1 a0 0 = some b5 ∧ gT σ1 b5 = 24 ∧ ((nI (gN σ1 b5)) ≤ x5_3 → Q x3_2 σ1) ∧ (¬ (nI (gN σ1 b5)) ≤ x5_3 → vp_in x5_3 (gN σ1 b5) ∧ ∃ b9 : Nat, gP σ1 b5 x5_3.toNatClampNeg = some b9 ∧ gT σ1 b9 = 1 ∧ ((gI σ1 b9 0) = 0 → ∀ x3_28 : Int64, x3_28 = ((((31 : Int64)) * x3_2) - ((1 : Int64))) → ∀ x5_29 : Int32, x5_29 = x5_3 + 1 → ∃ m5 : Nat, m5 < n5 ∧ I5 m5 σ1 x3_28 x5_29) ∧ (¬ (gI σ1 b9 0) = 0 → ∃ I42 : Nat → Me → Int64 → Int32 → Prop, (∀ (n42 : Nat) (σ12 : Me) (x3_13 : Int64) (x6_14 : Int32), I42 n42 σ12 x3_13 x6_14 → (((7 : Int32)) ≤ x6_14 → ∀ x5_17 : Int32, x5_17 = x5_3 + 1 → ∃ m5 : Nat, m5 < n5 ∧ I5 m5 σ12 x3_13 x5_17) ∧ (¬ ((7 : Int32)) ≤ x6_14 → gT σ12 a0 = 11 ∧ ∃ b19 : Nat, gP σ12 a0 0 = some b19 ∧ gT σ12 b19 = 24 ∧ vp_in x5_3 (gN σ12 b19) ∧ ∃ b22 : Nat, gP σ12 b19 x5_3.toNatClampNeg = some b22 ∧ gT σ12 b22 = 1 ∧ pX1_weightOf σ12 b22 x6_14 (fun r23 σ24 => ∀ x3_26 : Int64, x3_26 = ((((31 : Int64)) * x3_13) + r23.toInt64) → ∀ x6_27 : Int32, x6_27 = x6_14 + 1 → ∃ m42 : Nat, m42 < n42 ∧ I42 m42 σ24 x3_26 x6_27))) ∧ ∃ n42 : Nat, I42 n42 σ1 x3_2 ((0 : Int32))))) ∧ ∃ n5 : Nat, I5 n5 σ y1 ((0 : Int32))
set_option maxHeartbeats 4000000 in
set_option maxRecDepth 100000 in
theorem wX11_digestBooks {p : Program} {l : Launch} {e : Env} {s : State} {m : MethodId} {args : Array Value} {below : List Frame} {meth : Method} {c : Code} {D : va_G} {cA : Nat → ClassId} {z0 : Nat} (hX : Cx p m c cX11_digestBooks 7 s args RX11 D cA) (hlk : meth.locks = false) (hr : meth.sig.returnType = (some .long)) {σ : Me} {a0 : Nat} {y1 : Int64} {Q : Int64 → Me → Prop} (h : pX11_digestBooks σ a0 y1 Q) {H : Heap} {locs : List Loc} {ls : Array Slot} (hw : wS D cA z0 s σ H locs) (hl : lv_has ls 7 [(0, .ref a0), (1, .long y1)]) : W p l e rX11_digestBooks s m args below meth c H locs 0 0 (MQ below (va_Ql Q (BM D cA z0) (AM z0)) args s 0 0 (AM z0)) (F0 m 0 ls []) := by
  have hx := hX.1.1
  have hb := hX.1.2.1
  have hown := hX.1.2.2.2.1
  have hts := hX.1.2.2.2.2
  unfold pX11_digestBooks at h
  refine lv_lload_n hx hb dX11_digestBooks_0 rfl (lv_at hl 1 rfl) ?_
  refine lv_lstore_n (lv' := [(3, _), (0, _), (1, _)]) hx hb dX11_digestBooks_1 rfl hl (by decide) rfl (fun ls hl => ?_)
  refine lv_iconst (v := 0) hx hb dX11_digestBooks_2 (by decide) ?_
  refine lv_istore (lv' := [(5, _), (3, _), (0, _), (1, _)]) hx hb dX11_digestBooks_3 hl (by decide) rfl (fun ls hl => ?_)
  obtain ⟨I5, hI5, n5, h⟩ := h
  have key5 : ∀ (n5 : Nat) (σ1 : Me) (x3_2 : Int64) (x5_3 : Int32) (H : Heap) (locs : List Loc) (ls : Array Slot), I5 n5 σ1 x3_2 x5_3 → wS D cA z0 s σ1 H locs → lv_has ls 7 [(0, .ref a0), (3, .long x3_2), (5, .int x5_3)] → W p l e rX11_digestBooks s m args below meth c H locs 0 0 (MQ below (va_Ql Q (BM D cA z0) (AM z0)) args s 0 0 (AM z0)) (F0 m 5 ls []) := by
    intro n5
    induction n5 using Nat.strongRecOn with
    | _ n5 ih5 =>
      intro σ1 x3_2 x5_3 H locs ls h hw hl
      have h := hI5 _ _ _ _ h
      refine lv_iload hx hb dX11_digestBooks_5 (lv_at hl 2 rfl) ?_
      refine lv_aload_n hx hb dX11_digestBooks_7 rfl (lv_at hl 0 rfl) ?_
      obtain ⟨hT4, h⟩ := h
      obtain ⟨b5, hb5, h⟩ := h
      refine m_get hX hw cl11 hT4 0 (by decide) k_249 (fun _ h => h) (v := .ref b5) (congrArg va_rf hb5) dX11_digestBooks_8 ?_
      obtain ⟨hT6, h⟩ := h
      refine m_alen hX hw (t := 4) (by decide) hT6 dX11_digestBooks_11 ?_
      refine lv_icmp_ge (tgt := 81) hx hb dX11_digestBooks_12 (by decide) (fun hc7 => ?_) (fun hc7 => ?_)
      · have h := h.1 hc7
        refine lv_lload_n hx hb dX11_digestBooks_81 rfl (lv_at hl 1 rfl) ?_
        exact m_lret hX hlk hr hw h dX11_digestBooks_82
      · have h := h.2 hc7
        refine lv_aload_n hx hb dX11_digestBooks_15 rfl (lv_at hl 0 rfl) ?_
        refine m_get hX hw cl11 hT4 0 (by decide) k_249 (fun _ h => h) (v := .ref b5) (congrArg va_rf hb5) dX11_digestBooks_16 ?_
        refine lv_iload hx hb dX11_digestBooks_19 (lv_at hl 2 rfl) ?_
        obtain ⟨hc8, h⟩ := h
        refine m_aald hX hw (t := 4) (by decide) hT6 hc8 dX11_digestBooks_21 ?_
        obtain ⟨b9, hb9, h⟩ := h
        rw [hb9]
        refine W.eq (g2 := F0 _ _ _ (.ref b9 :: _)) rfl ?_
        obtain ⟨hT10, h⟩ := h
        refine m_get hX hw cl1 hT10 0 (by decide) k_126 (fun _ h => h) (v := .int _) rfl dX11_digestBooks_22 ?_
        refine lv_if_ne (tgt := 39) hx hb dX11_digestBooks_25 (by decide) (fun hc11 => ?_) (fun hc11 => ?_)
        · have h := h.2 hc11
          refine lv_iconst (v := 0) hx hb dX11_digestBooks_39 (by decide) ?_
          refine lv_istore (lv' := [(6, _), (0, _), (3, _), (5, _)]) hx hb dX11_digestBooks_40 hl (by decide) rfl (fun ls hl => ?_)
          obtain ⟨I42, hI42, n42, h⟩ := h
          have key42 : ∀ (n42 : Nat) (σ12 : Me) (x3_13 : Int64) (x6_14 : Int32) (H : Heap) (locs : List Loc) (ls : Array Slot), I42 n42 σ12 x3_13 x6_14 → wS D cA z0 s σ12 H locs → lv_has ls 7 [(0, .ref a0), (3, .long x3_13), (5, .int x5_3), (6, .int x6_14)] → W p l e rX11_digestBooks s m args below meth c H locs 0 0 (MQ below (va_Ql Q (BM D cA z0) (AM z0)) args s 0 0 (AM z0)) (F0 m 42 ls []) := by
            intro n42
            induction n42 using Nat.strongRecOn with
            | _ n42 ih42 =>
              intro σ12 x3_13 x6_14 H locs ls h hw hl
              have h := hI42 _ _ _ _ h
              refine lv_iload hx hb dX11_digestBooks_42 (lv_at hl 3 rfl) ?_
              refine lv_bipush (v := 7) hx hb dX11_digestBooks_44 (by decide) ?_
              refine lv_icmp_ge (tgt := 75) hx hb dX11_digestBooks_46 (by decide) (fun hc16 => ?_) (fun hc16 => ?_)
              · have h := h.1 hc16
                obtain ⟨x5_17, e_x5_17⟩ : ∃ y : Int32, y = x5_3 + 1 := ⟨_, rfl⟩
                have h := h x5_17 e_x5_17
                refine lv_iinc (v := x5_17) (lv' := [(5, _), (0, _), (3, _), (6, _)]) hx hb dX11_digestBooks_75 hl (k := 2) rfl (by rw [e_x5_17]; rfl) (by decide) rfl (fun ls hl => ?_)
                refine lv_goto (tgt := 5) hx hb dX11_digestBooks_78 (by decide) ?_
                obtain ⟨m5, hm5, h⟩ := h
                exact ih5 m5 hm5 _ _ _ _ _ _ h hw (lv_sub hl [1, 2, 0] rfl)
              · have h := h.2 hc16
                refine lv_ldc2 hx hb hown (hts _ k_854) dX11_digestBooks_49 ?_
                refine lv_lload_n hx hb dX11_digestBooks_52 rfl (lv_at hl 1 rfl) ?_
                refine lv_lmul hx hb dX11_digestBooks_53 ?_
                refine lv_aload_n hx hb dX11_digestBooks_54 rfl (lv_at hl 0 rfl) ?_
                obtain ⟨hT18, h⟩ := h
                obtain ⟨b19, hb19, h⟩ := h
                refine m_get hX hw cl11 hT18 0 (by decide) k_249 (fun _ h => h) (v := .ref b19) (congrArg va_rf hb19) dX11_digestBooks_55 ?_
                refine lv_iload hx hb dX11_digestBooks_58 (lv_at hl 2 rfl) ?_
                obtain ⟨hT20, h⟩ := h
                obtain ⟨hc21, h⟩ := h
                refine m_aald hX hw (t := 4) (by decide) hT20 hc21 dX11_digestBooks_60 ?_
                obtain ⟨b22, hb22, h⟩ := h
                rw [hb22]
                refine W.eq (g2 := F0 _ _ _ (.ref b22 :: _)) rfl ?_
                refine lv_iload hx hb dX11_digestBooks_61 (lv_at hl 3 rfl) ?_
                obtain ⟨hT25, h⟩ := h
                refine m_ci (m_runV (rest := [_]) hX hw (tX1_weightOf h) mtX1_weightOf k_824 ⟨k_589, k_590⟩ cl1 hT25 ⟨⟨rfl, rfl, Nat.le_of_ble_eq_true rfl, Nat.le_of_ble_eq_true rfl⟩, Nat.le_of_ble_eq_true rfl, Nat.le_of_ble_eq_true rfl⟩ rfl hl.1 rfl (Nat.le_of_ble_eq_true rfl) dX11_digestBooks_63) hw (fun r23 σ24 H locs h hw => ?_)
                refine lv_i2l hx hb dX11_digestBooks_66 rfl ?_
                refine lv_ladd hx hb dX11_digestBooks_67 ?_
                refine lv_topl (fun x3_26 e_x3_26 => ?_)
                have h := h x3_26 e_x3_26
                refine lv_lstore_n (lv' := [(3, _), (0, _), (5, _), (6, _)]) hx hb dX11_digestBooks_68 rfl hl (by decide) rfl (fun ls hl => ?_)
                obtain ⟨x6_27, e_x6_27⟩ : ∃ y : Int32, y = x6_14 + 1 := ⟨_, rfl⟩
                have h := h x6_27 e_x6_27
                refine lv_iinc (v := x6_27) (lv' := [(6, _), (3, _), (0, _), (5, _)]) hx hb dX11_digestBooks_69 hl (k := 3) rfl (by rw [e_x6_27]; rfl) (by decide) rfl (fun ls hl => ?_)
                refine lv_goto (tgt := 42) hx hb dX11_digestBooks_72 (by decide) ?_
                obtain ⟨m42, hm42, h⟩ := h
                exact ih42 m42 hm42 _ _ _ _ _ _ h hw (lv_sub hl [2, 1, 3, 0] rfl)
          exact key42 _ _ _ _ _ _ _ h hw (lv_sub hl [1, 2, 3, 0] rfl)
        · have h := h.1 hc11
          refine lv_ldc2 hx hb hown (hts _ k_854) dX11_digestBooks_28 ?_
          refine lv_lload_n hx hb dX11_digestBooks_31 rfl (lv_at hl 1 rfl) ?_
          refine lv_lmul hx hb dX11_digestBooks_32 ?_
          refine lv_lconst (v := 1) hx hb dX11_digestBooks_33 (by decide) ?_
          refine lv_lsub hx hb dX11_digestBooks_34 ?_
          refine lv_topl (fun x3_28 e_x3_28 => ?_)
          have h := h x3_28 e_x3_28
          refine lv_lstore_n (lv' := [(3, _), (0, _), (5, _)]) hx hb dX11_digestBooks_35 rfl hl (by decide) rfl (fun ls hl => ?_)
          refine lv_goto (tgt := 75) hx hb dX11_digestBooks_36 (by decide) ?_
          obtain ⟨x5_29, e_x5_29⟩ : ∃ y : Int32, y = x5_3 + 1 := ⟨_, rfl⟩
          have h := h x5_29 e_x5_29
          refine lv_iinc (v := x5_29) (lv' := [(5, _), (3, _), (0, _)]) hx hb dX11_digestBooks_75 hl (k := 2) rfl (by rw [e_x5_29]; rfl) (by decide) rfl (fun ls hl => ?_)
          refine lv_goto (tgt := 5) hx hb dX11_digestBooks_78 (by decide) ?_
          obtain ⟨m5, hm5, h⟩ := h
          exact ih5 m5 hm5 _ _ _ _ _ _ h hw (lv_sub hl [2, 1, 0] rfl)
  exact key5 _ _ _ _ _ _ _ h hw (lv_sub hl [2, 1, 0] rfl)
theorem mtX11_digestBooks : Mth yX11_digestBooks cX11_digestBooks 7 (some .long) 1 := ⟨k_859, k_43, by decide +kernel⟩
theorem tX11_digestBooks {l : Launch} {D : va_G} {cA : Nat → ClassId} {z0 : Nat} {σ : Me} {a0 : Nat} {y1 : Int64} {Q : Int64 → Me → Prop} (h : pX11_digestBooks σ a0 y1 Q) : Met l yX11_digestBooks (Cond.code yX11_digestBooks cX11_digestBooks 7 (some .long) :: gTab) rX11_digestBooks (PcM D cA z0 σ [.ref a0, .long y1]) (va_Ql Q (BM D cA z0) (AM z0)) 0 0 (AM z0) :=
  met_of (by decide) (Nat.le_of_ble_eq_true rfl) (fun hX hlk hr hn hw hl => wX11_digestBooks hX hlk hr h hw hl)
abbrev rX11_digestSheets : Room := { frames := 0, cells := 0, slots := 0, locals := 0 }
def pX11_digestSheets (σ : Me) (a0 : Nat) (y1 : Int64) (Q : Int64 → Me → Prop) : Prop := ∃ I5 : Nat → Me → Int64 → Int32 → Prop, (∀ (n5 : Nat) (σ1 : Me) (x3_2 : Int64) (x5_3 : Int32), I5 n5 σ1 x3_2 x5_3 → (((4 : Int32)) ≤ x5_3 → Q x3_2 σ1) ∧ (¬ ((4 : Int32)) ≤ x5_3 → gT σ1 a0 = 11 ∧ ∃ b7 : Nat, gP σ1 a0 2 = some b7 ∧ gT σ1 b7 = 20 ∧ vp_in x5_3 (gN σ1 b7) ∧ ∀ x3_10 : Int64, x3_10 = ((((31 : Int64)) * x3_2) + ((gI σ1 b7 x5_3.toNatClampNeg).toInt64)) → ∃ I29 : Nat → Me → Int64 → Int32 → Prop, (∀ (n29 : Nat) (σ11 : Me) (x3_12 : Int64) (x6_13 : Int32), I29 n29 σ11 x3_12 x6_13 → gT σ11 a0 = 11 ∧ ∃ b15 : Nat, gP σ11 a0 2 = some b15 ∧ gT σ11 b15 = 20 ∧ vp_in x5_3 (gN σ11 b15) ∧ ((gI σ11 b15 x5_3.toNatClampNeg) ≤ x6_13 → ∀ x5_19 : Int32, x5_19 = x5_3 + 1 → ∃ m5 : Nat, m5 < n5 ∧ I5 m5 σ11 x3_12 x5_19) ∧ (¬ (gI σ11 b15 x5_3.toNatClampNeg) ≤ x6_13 → (((25 : Int32)) ≤ x6_13 → ∀ x5_21 : Int32, x5_21 = x5_3 + 1 → ∃ m5 : Nat, m5 < n5 ∧ I5 m5 σ11 x3_12 x5_21) ∧ (¬ ((25 : Int32)) ≤ x6_13 → ∃ b22 : Nat, gP σ11 a0 1 = some b22 ∧ gT σ11 b22 = 26 ∧ vp_in x5_3 (gN σ11 b22) ∧ ∃ b25 : Nat, gP σ11 b22 x5_3.toNatClampNeg = some b25 ∧ gT σ11 b25 = 23 ∧ vp_in x6_13 (gN σ11 b25) ∧ ∀ x3_28 : Int64, x3_28 = ((((31 : Int64)) * x3_12) + ((gI σ11 b25 x6_13.toNatClampNeg).toInt64)) → ∀ x6_29 : Int32, x6_29 = x6_13 + 1 → ∃ m29 : Nat, m29 < n29 ∧ I29 m29 σ11 x3_28 x6_29))) ∧ ∃ n29 : Nat, I29 n29 σ1 x3_10 ((0 : Int32)))) ∧ ∃ n5 : Nat, I5 n5 σ y1 ((0 : Int32))
set_option maxHeartbeats 4000000 in
set_option maxRecDepth 100000 in
theorem wX11_digestSheets {p : Program} {l : Launch} {e : Env} {s : State} {m : MethodId} {args : Array Value} {below : List Frame} {meth : Method} {c : Code} {D : va_G} {cA : Nat → ClassId} {z0 : Nat} (hX : Cx p m c cX11_digestSheets 7 s args RX11 D cA) (hlk : meth.locks = false) (hr : meth.sig.returnType = (some .long)) {σ : Me} {a0 : Nat} {y1 : Int64} {Q : Int64 → Me → Prop} (h : pX11_digestSheets σ a0 y1 Q) {H : Heap} {locs : List Loc} {ls : Array Slot} (hw : wS D cA z0 s σ H locs) (hl : lv_has ls 7 [(0, .ref a0), (1, .long y1)]) : W p l e rX11_digestSheets s m args below meth c H locs 0 0 (MQ below (va_Ql Q (BM D cA z0) (AM z0)) args s 0 0 (AM z0)) (F0 m 0 ls []) := by
  have hx := hX.1.1
  have hb := hX.1.2.1
  have hown := hX.1.2.2.2.1
  have hts := hX.1.2.2.2.2
  unfold pX11_digestSheets at h
  refine lv_lload_n hx hb dX11_digestSheets_0 rfl (lv_at hl 1 rfl) ?_
  refine lv_lstore_n (lv' := [(3, _), (0, _), (1, _)]) hx hb dX11_digestSheets_1 rfl hl (by decide) rfl (fun ls hl => ?_)
  refine lv_iconst (v := 0) hx hb dX11_digestSheets_2 (by decide) ?_
  refine lv_istore (lv' := [(5, _), (3, _), (0, _), (1, _)]) hx hb dX11_digestSheets_3 hl (by decide) rfl (fun ls hl => ?_)
  obtain ⟨I5, hI5, n5, h⟩ := h
  have key5 : ∀ (n5 : Nat) (σ1 : Me) (x3_2 : Int64) (x5_3 : Int32) (H : Heap) (locs : List Loc) (ls : Array Slot), I5 n5 σ1 x3_2 x5_3 → wS D cA z0 s σ1 H locs → lv_has ls 7 [(0, .ref a0), (3, .long x3_2), (5, .int x5_3)] → W p l e rX11_digestSheets s m args below meth c H locs 0 0 (MQ below (va_Ql Q (BM D cA z0) (AM z0)) args s 0 0 (AM z0)) (F0 m 5 ls []) := by
    intro n5
    induction n5 using Nat.strongRecOn with
    | _ n5 ih5 =>
      intro σ1 x3_2 x5_3 H locs ls h hw hl
      have h := hI5 _ _ _ _ h
      refine lv_iload hx hb dX11_digestSheets_5 (lv_at hl 2 rfl) ?_
      refine lv_iconst (v := 4) hx hb dX11_digestSheets_7 (by decide) ?_
      refine lv_icmp_ge (tgt := 78) hx hb dX11_digestSheets_8 (by decide) (fun hc5 => ?_) (fun hc5 => ?_)
      · have h := h.1 hc5
        refine lv_lload_n hx hb dX11_digestSheets_78 rfl (lv_at hl 1 rfl) ?_
        exact m_lret hX hlk hr hw h dX11_digestSheets_79
      · have h := h.2 hc5
        refine lv_ldc2 hx hb hown (hts _ k_854) dX11_digestSheets_11 ?_
        refine lv_lload_n hx hb dX11_digestSheets_14 rfl (lv_at hl 1 rfl) ?_
        refine lv_lmul hx hb dX11_digestSheets_15 ?_
        refine lv_aload_n hx hb dX11_digestSheets_16 rfl (lv_at hl 0 rfl) ?_
        obtain ⟨hT6, h⟩ := h
        obtain ⟨b7, hb7, h⟩ := h
        refine m_get hX hw cl11 hT6 2 (by decide) k_251 (fun _ h => h) (v := .ref b7) (congrArg va_rf hb7) dX11_digestSheets_17 ?_
        refine lv_iload hx hb dX11_digestSheets_20 (lv_at hl 2 rfl) ?_
        obtain ⟨hT8, h⟩ := h
        obtain ⟨hc9, h⟩ := h
        refine m_iald hX hw hT8 hc9 dX11_digestSheets_22 ?_
        refine lv_i2l hx hb dX11_digestSheets_23 rfl ?_
        refine lv_ladd hx hb dX11_digestSheets_24 ?_
        refine lv_topl (fun x3_10 e_x3_10 => ?_)
        have h := h x3_10 e_x3_10
        refine lv_lstore_n (lv' := [(3, _), (0, _), (5, _)]) hx hb dX11_digestSheets_25 rfl hl (by decide) rfl (fun ls hl => ?_)
        refine lv_iconst (v := 0) hx hb dX11_digestSheets_26 (by decide) ?_
        refine lv_istore (lv' := [(6, _), (3, _), (0, _), (5, _)]) hx hb dX11_digestSheets_27 hl (by decide) rfl (fun ls hl => ?_)
        obtain ⟨I29, hI29, n29, h⟩ := h
        have key29 : ∀ (n29 : Nat) (σ11 : Me) (x3_12 : Int64) (x6_13 : Int32) (H : Heap) (locs : List Loc) (ls : Array Slot), I29 n29 σ11 x3_12 x6_13 → wS D cA z0 s σ11 H locs → lv_has ls 7 [(0, .ref a0), (3, .long x3_12), (5, .int x5_3), (6, .int x6_13)] → W p l e rX11_digestSheets s m args below meth c H locs 0 0 (MQ below (va_Ql Q (BM D cA z0) (AM z0)) args s 0 0 (AM z0)) (F0 m 29 ls []) := by
          intro n29
          induction n29 using Nat.strongRecOn with
          | _ n29 ih29 =>
            intro σ11 x3_12 x6_13 H locs ls h hw hl
            have h := hI29 _ _ _ _ h
            refine lv_iload hx hb dX11_digestSheets_29 (lv_at hl 3 rfl) ?_
            refine lv_aload_n hx hb dX11_digestSheets_31 rfl (lv_at hl 0 rfl) ?_
            obtain ⟨hT14, h⟩ := h
            obtain ⟨b15, hb15, h⟩ := h
            refine m_get hX hw cl11 hT14 2 (by decide) k_251 (fun _ h => h) (v := .ref b15) (congrArg va_rf hb15) dX11_digestSheets_32 ?_
            refine lv_iload hx hb dX11_digestSheets_35 (lv_at hl 2 rfl) ?_
            obtain ⟨hT16, h⟩ := h
            obtain ⟨hc17, h⟩ := h
            refine m_iald hX hw hT16 hc17 dX11_digestSheets_37 ?_
            refine lv_icmp_ge (tgt := 72) hx hb dX11_digestSheets_38 (by decide) (fun hc18 => ?_) (fun hc18 => ?_)
            · have h := h.1 hc18
              obtain ⟨x5_19, e_x5_19⟩ : ∃ y : Int32, y = x5_3 + 1 := ⟨_, rfl⟩
              have h := h x5_19 e_x5_19
              refine lv_iinc (v := x5_19) (lv' := [(5, _), (0, _), (3, _), (6, _)]) hx hb dX11_digestSheets_72 hl (k := 2) rfl (by rw [e_x5_19]; rfl) (by decide) rfl (fun ls hl => ?_)
              refine lv_goto (tgt := 5) hx hb dX11_digestSheets_75 (by decide) ?_
              obtain ⟨m5, hm5, h⟩ := h
              exact ih5 m5 hm5 _ _ _ _ _ _ h hw (lv_sub hl [1, 2, 0] rfl)
            · have h := h.2 hc18
              refine lv_iload hx hb dX11_digestSheets_41 (lv_at hl 3 rfl) ?_
              refine lv_bipush (v := 25) hx hb dX11_digestSheets_43 (by decide) ?_
              refine lv_icmp_ge (tgt := 72) hx hb dX11_digestSheets_45 (by decide) (fun hc20 => ?_) (fun hc20 => ?_)
              · have h := h.1 hc20
                obtain ⟨x5_21, e_x5_21⟩ : ∃ y : Int32, y = x5_3 + 1 := ⟨_, rfl⟩
                have h := h x5_21 e_x5_21
                refine lv_iinc (v := x5_21) (lv' := [(5, _), (0, _), (3, _), (6, _)]) hx hb dX11_digestSheets_72 hl (k := 2) rfl (by rw [e_x5_21]; rfl) (by decide) rfl (fun ls hl => ?_)
                refine lv_goto (tgt := 5) hx hb dX11_digestSheets_75 (by decide) ?_
                obtain ⟨m5, hm5, h⟩ := h
                exact ih5 m5 hm5 _ _ _ _ _ _ h hw (lv_sub hl [1, 2, 0] rfl)
              · have h := h.2 hc20
                refine lv_ldc2 hx hb hown (hts _ k_854) dX11_digestSheets_48 ?_
                refine lv_lload_n hx hb dX11_digestSheets_51 rfl (lv_at hl 1 rfl) ?_
                refine lv_lmul hx hb dX11_digestSheets_52 ?_
                refine lv_aload_n hx hb dX11_digestSheets_53 rfl (lv_at hl 0 rfl) ?_
                obtain ⟨b22, hb22, h⟩ := h
                refine m_get hX hw cl11 hT14 1 (by decide) k_250 (fun _ h => h) (v := .ref b22) (congrArg va_rf hb22) dX11_digestSheets_54 ?_
                refine lv_iload hx hb dX11_digestSheets_57 (lv_at hl 2 rfl) ?_
                obtain ⟨hT23, h⟩ := h
                obtain ⟨hc24, h⟩ := h
                refine m_aald hX hw (t := 6) (by decide) hT23 hc24 dX11_digestSheets_59 ?_
                obtain ⟨b25, hb25, h⟩ := h
                rw [hb25]
                refine W.eq (g2 := F0 _ _ _ (.ref b25 :: _)) rfl ?_
                refine lv_iload hx hb dX11_digestSheets_60 (lv_at hl 3 rfl) ?_
                obtain ⟨hT26, h⟩ := h
                obtain ⟨hc27, h⟩ := h
                refine m_bald hX hw hT26 hc27 dX11_digestSheets_62 ?_
                refine lv_i2l hx hb dX11_digestSheets_63 rfl ?_
                refine lv_ladd hx hb dX11_digestSheets_64 ?_
                refine lv_topl (fun x3_28 e_x3_28 => ?_)
                have h := h x3_28 e_x3_28
                refine lv_lstore_n (lv' := [(3, _), (0, _), (5, _), (6, _)]) hx hb dX11_digestSheets_65 rfl hl (by decide) rfl (fun ls hl => ?_)
                obtain ⟨x6_29, e_x6_29⟩ : ∃ y : Int32, y = x6_13 + 1 := ⟨_, rfl⟩
                have h := h x6_29 e_x6_29
                refine lv_iinc (v := x6_29) (lv' := [(6, _), (3, _), (0, _), (5, _)]) hx hb dX11_digestSheets_66 hl (k := 3) rfl (by rw [e_x6_29]; rfl) (by decide) rfl (fun ls hl => ?_)
                refine lv_goto (tgt := 29) hx hb dX11_digestSheets_69 (by decide) ?_
                obtain ⟨m29, hm29, h⟩ := h
                exact ih29 m29 hm29 _ _ _ _ _ _ h hw (lv_sub hl [2, 1, 3, 0] rfl)
        exact key29 _ _ _ _ _ _ _ h hw (lv_sub hl [2, 1, 3, 0] rfl)
  exact key5 _ _ _ _ _ _ _ h hw (lv_sub hl [2, 1, 0] rfl)
theorem mtX11_digestSheets : Mth yX11_digestSheets cX11_digestSheets 7 (some .long) 1 := ⟨k_867, k_43, by decide +kernel⟩
theorem tX11_digestSheets {l : Launch} {D : va_G} {cA : Nat → ClassId} {z0 : Nat} {σ : Me} {a0 : Nat} {y1 : Int64} {Q : Int64 → Me → Prop} (h : pX11_digestSheets σ a0 y1 Q) : Met l yX11_digestSheets (Cond.code yX11_digestSheets cX11_digestSheets 7 (some .long) :: gTab) rX11_digestSheets (PcM D cA z0 σ [.ref a0, .long y1]) (va_Ql Q (BM D cA z0) (AM z0)) 0 0 (AM z0) :=
  met_of (by decide) (Nat.le_of_ble_eq_true rfl) (fun hX hlk hr hn hw hl => wX11_digestSheets hX hlk hr h hw hl)
abbrev rX12_init : Room := { frames := 1, cells := 22, slots := 136527, locals := 20 }
def pX12_init (σ : Me) (a0 : Nat) (Q : Me → Prop) : Prop := ∀ (b1 : Nat) (σ2 : Me), b1 = gz σ → σ2 = nw σ 20 6 → gT σ2 a0 = 12 ∧ ∀ σ4 : Me, σ4 = sP σ2 a0 1 (some b1) → ∀ (b5 : Nat) (σ6 : Me), b5 = gz σ4 → σ6 = nw σ4 22 4 → gT σ6 a0 = 12 ∧ ∀ σ8 : Me, σ8 = sP σ6 a0 4 (some b5) → ∀ (b9 : Nat) (σ10 : Me), b9 = gz σ8 → σ10 = nw σ8 20 28 → gT σ10 a0 = 12 ∧ ∀ σ12 : Me, σ12 = sP σ10 a0 5 (some b9) → ∀ (b13 : Nat) (σ14 : Me), b13 = gz σ12 → σ14 = nw σ12 20 7 → gT σ14 a0 = 12 ∧ ∀ σ16 : Me, σ16 = sP σ14 a0 6 (some b13) → ∀ (b17 : Nat) (σ18 : Me), b17 = gz σ16 → σ18 = nw σ16 20 4 → gT σ18 a0 = 12 ∧ ∀ σ20 : Me, σ20 = sP σ18 a0 7 (some b17) → ∀ (b21 : Nat) (σ22 : Me), b21 = gz σ20 → σ22 = nw σ20 23 100 → gT σ22 a0 = 12 ∧ ∀ σ24 : Me, σ24 = sP σ22 a0 8 (some b21) → ∀ (b25 : Nat) (σ26 : Me), b25 = gz σ24 → σ26 = nw σ24 20 12 → gT σ26 a0 = 12 ∧ ∀ σ28 : Me, σ28 = sP σ26 a0 10 (some b25) → ∀ (b29 : Nat) (σ30 : Me), b29 = gz σ28 → σ30 = nw σ28 20 12 → gT σ30 a0 = 12 ∧ ∀ σ32 : Me, σ32 = sP σ30 a0 11 (some b29) → ∀ (b33 : Nat) (σ34 : Me), b33 = gz σ32 → σ34 = nw σ32 20 12 → gT σ34 a0 = 12 ∧ ∀ σ36 : Me, σ36 = sP σ34 a0 12 (some b33) → ∀ (b37 : Nat) (σ38 : Me), b37 = gz σ36 → σ38 = nw σ36 20 12 → gT σ38 a0 = 12 ∧ ∀ σ40 : Me, σ40 = sP σ38 a0 13 (some b37) → ∀ (b41 : Nat) (σ42 : Me), b41 = gz σ40 → σ42 = nw σ40 20 12 → gT σ42 a0 = 12 ∧ ∀ σ44 : Me, σ44 = sP σ42 a0 14 (some b41) → ∀ (b45 : Nat) (σ46 : Me), b45 = gz σ44 → σ46 = nw σ44 23 300 → gT σ46 a0 = 12 ∧ ∀ σ48 : Me, σ48 = sP σ46 a0 15 (some b45) → ∀ (b49 : Nat) (σ50 : Me), b49 = gz σ48 → σ50 = nw σ48 22 12 → gT σ50 a0 = 12 ∧ ∀ σ52 : Me, σ52 = sP σ50 a0 16 (some b49) → ∀ (b53 : Nat) (σ54 : Me), b53 = gz σ52 → σ54 = nw σ52 20 17000 → gT σ54 a0 = 12 ∧ ∀ σ56 : Me, σ56 = sP σ54 a0 30 (some b53) → ∀ (b57 : Nat) (σ58 : Me), b57 = gz σ56 → σ58 = nw σ56 21 17000 → gT σ58 a0 = 12 ∧ ∀ σ60 : Me, σ60 = sP σ58 a0 31 (some b57) → ∀ (b61 : Nat) (σ62 : Me), b61 = gz σ60 → σ62 = nw σ60 20 17000 → gT σ62 a0 = 12 ∧ ∀ σ64 : Me, σ64 = sP σ62 a0 33 (some b61) → ∀ (b65 : Nat) (σ66 : Me), b65 = gz σ64 → σ66 = nw σ64 21 17000 → gT σ66 a0 = 12 ∧ ∀ σ68 : Me, σ68 = sP σ66 a0 34 (some b65) → ∀ (b69 : Nat) (σ70 : Me), b69 = gz σ68 → σ70 = nw σ68 20 17000 → gT σ70 a0 = 12 ∧ ∀ σ72 : Me, σ72 = sP σ70 a0 36 (some b69) → ∀ (b73 : Nat) (σ74 : Me), b73 = gz σ72 → σ74 = nw σ72 20 17000 → gT σ74 a0 = 12 ∧ ∀ σ76 : Me, σ76 = sP σ74 a0 37 (some b73) → ∀ (b77 : Nat) (σ78 : Me), b77 = gz σ76 → σ78 = nw σ76 21 17000 → gT σ78 a0 = 12 ∧ ∀ σ80 : Me, σ80 = sP σ78 a0 45 (some b77) → ∀ (b81 : Nat) (σ82 : Me), b81 = gz σ80 → σ82 = nw σ80 21 17000 → gT σ82 a0 = 12 ∧ ∀ σ84 : Me, σ84 = sP σ82 a0 46 (some b81) → ∀ (b85 : Nat) (σ86 : Me), b85 = gz σ84 → σ86 = nw σ84 20 6 → gT σ86 a0 = 12 ∧ ∀ σ88 : Me, σ88 = sP σ86 a0 56 (some b85) → ∀ σ89 : Me, σ89 = sL σ88 a0 3 ((1 : Int64)) → ∀ σ90 : Me, σ90 = sI σ89 a0 17 ((12 : Int32)) → ∀ σ91 : Me, σ91 = sI σ90 a0 20 ((10 : Int32)) → ∀ σ92 : Me, σ92 = sI σ91 a0 21 ((1 : Int32)) → ∀ σ93 : Me, σ93 = sI σ92 a0 22 ((1 : Int32)) → ∀ σ94 : Me, σ94 = sI σ93 a0 23 ((5 : Int32)) → ∀ σ95 : Me, σ95 = sI σ94 a0 48 ((-9 : Int32)) → ∀ σ96 : Me, σ96 = sI σ95 a0 49 ((-9 : Int32)) → ∃ I233 : Nat → Me → Int32 → Prop, (∀ (n233 : Nat) (σ97 : Me) (x1_98 : Int32), I233 n233 σ97 x1_98 → (((4 : Int32)) ≤ x1_98 → Q σ97) ∧ (¬ ((4 : Int32)) ≤ x1_98 → gT σ97 a0 = 12 ∧ ∃ b102 : Nat, gP σ97 a0 7 = some b102 ∧ gT σ97 b102 = 20 ∧ vp_in x1_98 (gN σ97 b102) ∧ ∀ σ105 : Me, σ105 = sI σ97 b102 x1_98.toNatClampNeg ((-1 : Int32)) → ∀ x1_106 : Int32, x1_106 = x1_98 + 1 → ∃ m233 : Nat, m233 < n233 ∧ I233 m233 σ105 x1_106)) ∧ ∃ n233 : Nat, I233 n233 σ96 ((0 : Int32))
set_option maxHeartbeats 4000000 in
set_option maxRecDepth 100000 in
theorem wX12_init {p : Program} {l : Launch} {e : Env} {s : State} {m : MethodId} {args : Array Value} {below : List Frame} {meth : Method} {c : Code} {D : va_G} {cA : Nat → ClassId} {z0 : Nat} (hX : Cx p m c cX12_init 2 s args RX12 D cA) (hlk : meth.locks = false) (hr : meth.sig.returnType = none) (hin : meth.name = "<init>") {σ : Me} {a0 : Nat} {Q : Me → Prop} (h : pX12_init σ a0 Q) {H : Heap} {locs : List Loc} {ls : Array Slot} (hw : wS D cA z0 s σ H locs) (hl : lv_has ls 2 [(0, .ref a0)]) : W p l e rX12_init s m args below meth c H locs 0 0 (MQ below (va_Qv Q (BM D cA z0) (AM z0)) args s 22 136527 (AM z0)) (F0 m 0 ls []) := by
  have hx := hX.1.1
  have hb := hX.1.2.1
  have hown := hX.1.2.2.2.1
  have hts := hX.1.2.2.2.2
  unfold pX12_init at h
  refine lv_aload_n hx hb dX12_init_0 rfl (lv_at hl 0 rfl) ?_
  refine m_objInit hX k_873 hl.1 dX12_init_1 (Nat.le_of_ble_eq_true rfl) (Nat.le_of_ble_eq_true rfl) ?_
  refine lv_aload_n hx hb dX12_init_4 rfl (lv_at hl 0 rfl) ?_
  refine lv_bipush (v := 6) hx hb dX12_init_5 (by decide) ?_
  refine m_newa hX hw (t := 0) (by decide) rfl k_119 (N' := 6) (by decide) (by decide) (by decide) ⟨Nat.le_of_ble_eq_true rfl, Nat.le_of_ble_eq_true rfl⟩ dX12_init_7 (fun H hw => ?_)
  let b1 : Nat := gz σ
  let σ2 : Me := nw σ 20 6
  have h := h b1 σ2 rfl rfl
  have hw : wS D cA z0 s σ2 H locs := hw
  obtain ⟨hT3, h⟩ := h
  refine m_putFP hX hin hw cl12 hT3 1 (by decide) k_875 (fun _ h => h) rfl rfl rfl rfl rfl dX12_init_9 (fun H locs hw => ?_)
  let σ4 : Me := sP σ2 a0 1 (some b1)
  have h := h σ4 rfl
  have hw : wS D cA z0 s σ4 H locs := hw
  refine lv_aload_n hx hb dX12_init_12 rfl (lv_at hl 0 rfl) ?_
  refine lv_iconst (v := 4) hx hb dX12_init_13 (by decide) ?_
  refine m_newa hX hw (t := 2) (by decide) rfl k_193 (N' := 4) (by decide) (by decide) (by decide) ⟨Nat.le_of_ble_eq_true rfl, Nat.le_of_ble_eq_true rfl⟩ dX12_init_14 (fun H hw => ?_)
  let b5 : Nat := gz σ4
  let σ6 : Me := nw σ4 22 4
  have h := h b5 σ6 rfl rfl
  have hw : wS D cA z0 s σ6 H locs := hw
  obtain ⟨hT7, h⟩ := h
  refine m_putFP hX hin hw cl12 hT7 4 (by decide) k_878 (fun _ h => h) rfl rfl rfl rfl rfl dX12_init_16 (fun H locs hw => ?_)
  let σ8 : Me := sP σ6 a0 4 (some b5)
  have h := h σ8 rfl
  have hw : wS D cA z0 s σ8 H locs := hw
  refine lv_aload_n hx hb dX12_init_19 rfl (lv_at hl 0 rfl) ?_
  refine lv_bipush (v := 28) hx hb dX12_init_20 (by decide) ?_
  refine m_newa hX hw (t := 0) (by decide) rfl k_119 (N' := 28) (by decide) (by decide) (by decide) ⟨Nat.le_of_ble_eq_true rfl, Nat.le_of_ble_eq_true rfl⟩ dX12_init_22 (fun H hw => ?_)
  let b9 : Nat := gz σ8
  let σ10 : Me := nw σ8 20 28
  have h := h b9 σ10 rfl rfl
  have hw : wS D cA z0 s σ10 H locs := hw
  obtain ⟨hT11, h⟩ := h
  refine m_putFP hX hin hw cl12 hT11 5 (by decide) k_879 (fun _ h => h) rfl rfl rfl rfl rfl dX12_init_24 (fun H locs hw => ?_)
  let σ12 : Me := sP σ10 a0 5 (some b9)
  have h := h σ12 rfl
  have hw : wS D cA z0 s σ12 H locs := hw
  refine lv_aload_n hx hb dX12_init_27 rfl (lv_at hl 0 rfl) ?_
  refine lv_bipush (v := 7) hx hb dX12_init_28 (by decide) ?_
  refine m_newa hX hw (t := 0) (by decide) rfl k_119 (N' := 7) (by decide) (by decide) (by decide) ⟨Nat.le_of_ble_eq_true rfl, Nat.le_of_ble_eq_true rfl⟩ dX12_init_30 (fun H hw => ?_)
  let b13 : Nat := gz σ12
  let σ14 : Me := nw σ12 20 7
  have h := h b13 σ14 rfl rfl
  have hw : wS D cA z0 s σ14 H locs := hw
  obtain ⟨hT15, h⟩ := h
  refine m_putFP hX hin hw cl12 hT15 6 (by decide) k_880 (fun _ h => h) rfl rfl rfl rfl rfl dX12_init_32 (fun H locs hw => ?_)
  let σ16 : Me := sP σ14 a0 6 (some b13)
  have h := h σ16 rfl
  have hw : wS D cA z0 s σ16 H locs := hw
  refine lv_aload_n hx hb dX12_init_35 rfl (lv_at hl 0 rfl) ?_
  refine lv_iconst (v := 4) hx hb dX12_init_36 (by decide) ?_
  refine m_newa hX hw (t := 0) (by decide) rfl k_119 (N' := 4) (by decide) (by decide) (by decide) ⟨Nat.le_of_ble_eq_true rfl, Nat.le_of_ble_eq_true rfl⟩ dX12_init_37 (fun H hw => ?_)
  let b17 : Nat := gz σ16
  let σ18 : Me := nw σ16 20 4
  have h := h b17 σ18 rfl rfl
  have hw : wS D cA z0 s σ18 H locs := hw
  obtain ⟨hT19, h⟩ := h
  refine m_putFP hX hin hw cl12 hT19 7 (by decide) k_881 (fun _ h => h) rfl rfl rfl rfl rfl dX12_init_39 (fun H locs hw => ?_)
  let σ20 : Me := sP σ18 a0 7 (some b17)
  have h := h σ20 rfl
  have hw : wS D cA z0 s σ20 H locs := hw
  refine lv_aload_n hx hb dX12_init_42 rfl (lv_at hl 0 rfl) ?_
  refine lv_bipush (v := 100) hx hb dX12_init_43 (by decide) ?_
  refine m_newa hX hw (t := 3) (by decide) rfl k_118 (N' := 100) (by decide) (by decide) (by decide) ⟨Nat.le_of_ble_eq_true rfl, Nat.le_of_ble_eq_true rfl⟩ dX12_init_45 (fun H hw => ?_)
  let b21 : Nat := gz σ20
  let σ22 : Me := nw σ20 23 100
  have h := h b21 σ22 rfl rfl
  have hw : wS D cA z0 s σ22 H locs := hw
  obtain ⟨hT23, h⟩ := h
  refine m_putFP hX hin hw cl12 hT23 8 (by decide) k_882 (fun _ h => h) rfl rfl rfl rfl rfl dX12_init_47 (fun H locs hw => ?_)
  let σ24 : Me := sP σ22 a0 8 (some b21)
  have h := h σ24 rfl
  have hw : wS D cA z0 s σ24 H locs := hw
  refine lv_aload_n hx hb dX12_init_50 rfl (lv_at hl 0 rfl) ?_
  refine lv_bipush (v := 12) hx hb dX12_init_51 (by decide) ?_
  refine m_newa hX hw (t := 0) (by decide) rfl k_119 (N' := 12) (by decide) (by decide) (by decide) ⟨Nat.le_of_ble_eq_true rfl, Nat.le_of_ble_eq_true rfl⟩ dX12_init_53 (fun H hw => ?_)
  let b25 : Nat := gz σ24
  let σ26 : Me := nw σ24 20 12
  have h := h b25 σ26 rfl rfl
  have hw : wS D cA z0 s σ26 H locs := hw
  obtain ⟨hT27, h⟩ := h
  refine m_putFP hX hin hw cl12 hT27 10 (by decide) k_884 (fun _ h => h) rfl rfl rfl rfl rfl dX12_init_55 (fun H locs hw => ?_)
  let σ28 : Me := sP σ26 a0 10 (some b25)
  have h := h σ28 rfl
  have hw : wS D cA z0 s σ28 H locs := hw
  refine lv_aload_n hx hb dX12_init_58 rfl (lv_at hl 0 rfl) ?_
  refine lv_bipush (v := 12) hx hb dX12_init_59 (by decide) ?_
  refine m_newa hX hw (t := 0) (by decide) rfl k_119 (N' := 12) (by decide) (by decide) (by decide) ⟨Nat.le_of_ble_eq_true rfl, Nat.le_of_ble_eq_true rfl⟩ dX12_init_61 (fun H hw => ?_)
  let b29 : Nat := gz σ28
  let σ30 : Me := nw σ28 20 12
  have h := h b29 σ30 rfl rfl
  have hw : wS D cA z0 s σ30 H locs := hw
  obtain ⟨hT31, h⟩ := h
  refine m_putFP hX hin hw cl12 hT31 11 (by decide) k_885 (fun _ h => h) rfl rfl rfl rfl rfl dX12_init_63 (fun H locs hw => ?_)
  let σ32 : Me := sP σ30 a0 11 (some b29)
  have h := h σ32 rfl
  have hw : wS D cA z0 s σ32 H locs := hw
  refine lv_aload_n hx hb dX12_init_66 rfl (lv_at hl 0 rfl) ?_
  refine lv_bipush (v := 12) hx hb dX12_init_67 (by decide) ?_
  refine m_newa hX hw (t := 0) (by decide) rfl k_119 (N' := 12) (by decide) (by decide) (by decide) ⟨Nat.le_of_ble_eq_true rfl, Nat.le_of_ble_eq_true rfl⟩ dX12_init_69 (fun H hw => ?_)
  let b33 : Nat := gz σ32
  let σ34 : Me := nw σ32 20 12
  have h := h b33 σ34 rfl rfl
  have hw : wS D cA z0 s σ34 H locs := hw
  obtain ⟨hT35, h⟩ := h
  refine m_putFP hX hin hw cl12 hT35 12 (by decide) k_886 (fun _ h => h) rfl rfl rfl rfl rfl dX12_init_71 (fun H locs hw => ?_)
  let σ36 : Me := sP σ34 a0 12 (some b33)
  have h := h σ36 rfl
  have hw : wS D cA z0 s σ36 H locs := hw
  refine lv_aload_n hx hb dX12_init_74 rfl (lv_at hl 0 rfl) ?_
  refine lv_bipush (v := 12) hx hb dX12_init_75 (by decide) ?_
  refine m_newa hX hw (t := 0) (by decide) rfl k_119 (N' := 12) (by decide) (by decide) (by decide) ⟨Nat.le_of_ble_eq_true rfl, Nat.le_of_ble_eq_true rfl⟩ dX12_init_77 (fun H hw => ?_)
  let b37 : Nat := gz σ36
  let σ38 : Me := nw σ36 20 12
  have h := h b37 σ38 rfl rfl
  have hw : wS D cA z0 s σ38 H locs := hw
  obtain ⟨hT39, h⟩ := h
  refine m_putFP hX hin hw cl12 hT39 13 (by decide) k_887 (fun _ h => h) rfl rfl rfl rfl rfl dX12_init_79 (fun H locs hw => ?_)
  let σ40 : Me := sP σ38 a0 13 (some b37)
  have h := h σ40 rfl
  have hw : wS D cA z0 s σ40 H locs := hw
  refine lv_aload_n hx hb dX12_init_82 rfl (lv_at hl 0 rfl) ?_
  refine lv_bipush (v := 12) hx hb dX12_init_83 (by decide) ?_
  refine m_newa hX hw (t := 0) (by decide) rfl k_119 (N' := 12) (by decide) (by decide) (by decide) ⟨Nat.le_of_ble_eq_true rfl, Nat.le_of_ble_eq_true rfl⟩ dX12_init_85 (fun H hw => ?_)
  let b41 : Nat := gz σ40
  let σ42 : Me := nw σ40 20 12
  have h := h b41 σ42 rfl rfl
  have hw : wS D cA z0 s σ42 H locs := hw
  obtain ⟨hT43, h⟩ := h
  refine m_putFP hX hin hw cl12 hT43 14 (by decide) k_888 (fun _ h => h) rfl rfl rfl rfl rfl dX12_init_87 (fun H locs hw => ?_)
  let σ44 : Me := sP σ42 a0 14 (some b41)
  have h := h σ44 rfl
  have hw : wS D cA z0 s σ44 H locs := hw
  refine lv_aload_n hx hb dX12_init_90 rfl (lv_at hl 0 rfl) ?_
  refine lv_sipush (v := 300) hx hb dX12_init_91 (by decide) ?_
  refine m_newa hX hw (t := 3) (by decide) rfl k_118 (N' := 300) (by decide) (by decide) (by decide) ⟨Nat.le_of_ble_eq_true rfl, Nat.le_of_ble_eq_true rfl⟩ dX12_init_94 (fun H hw => ?_)
  let b45 : Nat := gz σ44
  let σ46 : Me := nw σ44 23 300
  have h := h b45 σ46 rfl rfl
  have hw : wS D cA z0 s σ46 H locs := hw
  obtain ⟨hT47, h⟩ := h
  refine m_putFP hX hin hw cl12 hT47 15 (by decide) k_889 (fun _ h => h) rfl rfl rfl rfl rfl dX12_init_96 (fun H locs hw => ?_)
  let σ48 : Me := sP σ46 a0 15 (some b45)
  have h := h σ48 rfl
  have hw : wS D cA z0 s σ48 H locs := hw
  refine lv_aload_n hx hb dX12_init_99 rfl (lv_at hl 0 rfl) ?_
  refine lv_bipush (v := 12) hx hb dX12_init_100 (by decide) ?_
  refine m_newa hX hw (t := 2) (by decide) rfl k_193 (N' := 12) (by decide) (by decide) (by decide) ⟨Nat.le_of_ble_eq_true rfl, Nat.le_of_ble_eq_true rfl⟩ dX12_init_102 (fun H hw => ?_)
  let b49 : Nat := gz σ48
  let σ50 : Me := nw σ48 22 12
  have h := h b49 σ50 rfl rfl
  have hw : wS D cA z0 s σ50 H locs := hw
  obtain ⟨hT51, h⟩ := h
  refine m_putFP hX hin hw cl12 hT51 16 (by decide) k_890 (fun _ h => h) rfl rfl rfl rfl rfl dX12_init_104 (fun H locs hw => ?_)
  let σ52 : Me := sP σ50 a0 16 (some b49)
  have h := h σ52 rfl
  have hw : wS D cA z0 s σ52 H locs := hw
  refine lv_aload_n hx hb dX12_init_107 rfl (lv_at hl 0 rfl) ?_
  refine lv_sipush (v := 17000) hx hb dX12_init_108 (by decide) ?_
  refine m_newa hX hw (t := 0) (by decide) rfl k_119 (N' := 17000) (by decide) (by decide) (by decide) ⟨Nat.le_of_ble_eq_true rfl, Nat.le_of_ble_eq_true rfl⟩ dX12_init_111 (fun H hw => ?_)
  let b53 : Nat := gz σ52
  let σ54 : Me := nw σ52 20 17000
  have h := h b53 σ54 rfl rfl
  have hw : wS D cA z0 s σ54 H locs := hw
  obtain ⟨hT55, h⟩ := h
  refine m_putFP hX hin hw cl12 hT55 30 (by decide) k_904 (fun _ h => h) rfl rfl rfl rfl rfl dX12_init_113 (fun H locs hw => ?_)
  let σ56 : Me := sP σ54 a0 30 (some b53)
  have h := h σ56 rfl
  have hw : wS D cA z0 s σ56 H locs := hw
  refine lv_aload_n hx hb dX12_init_116 rfl (lv_at hl 0 rfl) ?_
  refine lv_sipush (v := 17000) hx hb dX12_init_117 (by decide) ?_
  refine m_newa hX hw (t := 1) (by decide) rfl k_159 (N' := 17000) (by decide) (by decide) (by decide) ⟨Nat.le_of_ble_eq_true rfl, Nat.le_of_ble_eq_true rfl⟩ dX12_init_120 (fun H hw => ?_)
  let b57 : Nat := gz σ56
  let σ58 : Me := nw σ56 21 17000
  have h := h b57 σ58 rfl rfl
  have hw : wS D cA z0 s σ58 H locs := hw
  obtain ⟨hT59, h⟩ := h
  refine m_putFP hX hin hw cl12 hT59 31 (by decide) k_905 (fun _ h => h) rfl rfl rfl rfl rfl dX12_init_122 (fun H locs hw => ?_)
  let σ60 : Me := sP σ58 a0 31 (some b57)
  have h := h σ60 rfl
  have hw : wS D cA z0 s σ60 H locs := hw
  refine lv_aload_n hx hb dX12_init_125 rfl (lv_at hl 0 rfl) ?_
  refine lv_sipush (v := 17000) hx hb dX12_init_126 (by decide) ?_
  refine m_newa hX hw (t := 0) (by decide) rfl k_119 (N' := 17000) (by decide) (by decide) (by decide) ⟨Nat.le_of_ble_eq_true rfl, Nat.le_of_ble_eq_true rfl⟩ dX12_init_129 (fun H hw => ?_)
  let b61 : Nat := gz σ60
  let σ62 : Me := nw σ60 20 17000
  have h := h b61 σ62 rfl rfl
  have hw : wS D cA z0 s σ62 H locs := hw
  obtain ⟨hT63, h⟩ := h
  refine m_putFP hX hin hw cl12 hT63 33 (by decide) k_907 (fun _ h => h) rfl rfl rfl rfl rfl dX12_init_131 (fun H locs hw => ?_)
  let σ64 : Me := sP σ62 a0 33 (some b61)
  have h := h σ64 rfl
  have hw : wS D cA z0 s σ64 H locs := hw
  refine lv_aload_n hx hb dX12_init_134 rfl (lv_at hl 0 rfl) ?_
  refine lv_sipush (v := 17000) hx hb dX12_init_135 (by decide) ?_
  refine m_newa hX hw (t := 1) (by decide) rfl k_159 (N' := 17000) (by decide) (by decide) (by decide) ⟨Nat.le_of_ble_eq_true rfl, Nat.le_of_ble_eq_true rfl⟩ dX12_init_138 (fun H hw => ?_)
  let b65 : Nat := gz σ64
  let σ66 : Me := nw σ64 21 17000
  have h := h b65 σ66 rfl rfl
  have hw : wS D cA z0 s σ66 H locs := hw
  obtain ⟨hT67, h⟩ := h
  refine m_putFP hX hin hw cl12 hT67 34 (by decide) k_908 (fun _ h => h) rfl rfl rfl rfl rfl dX12_init_140 (fun H locs hw => ?_)
  let σ68 : Me := sP σ66 a0 34 (some b65)
  have h := h σ68 rfl
  have hw : wS D cA z0 s σ68 H locs := hw
  refine lv_aload_n hx hb dX12_init_143 rfl (lv_at hl 0 rfl) ?_
  refine lv_sipush (v := 17000) hx hb dX12_init_144 (by decide) ?_
  refine m_newa hX hw (t := 0) (by decide) rfl k_119 (N' := 17000) (by decide) (by decide) (by decide) ⟨Nat.le_of_ble_eq_true rfl, Nat.le_of_ble_eq_true rfl⟩ dX12_init_147 (fun H hw => ?_)
  let b69 : Nat := gz σ68
  let σ70 : Me := nw σ68 20 17000
  have h := h b69 σ70 rfl rfl
  have hw : wS D cA z0 s σ70 H locs := hw
  obtain ⟨hT71, h⟩ := h
  refine m_putFP hX hin hw cl12 hT71 36 (by decide) k_910 (fun _ h => h) rfl rfl rfl rfl rfl dX12_init_149 (fun H locs hw => ?_)
  let σ72 : Me := sP σ70 a0 36 (some b69)
  have h := h σ72 rfl
  have hw : wS D cA z0 s σ72 H locs := hw
  refine lv_aload_n hx hb dX12_init_152 rfl (lv_at hl 0 rfl) ?_
  refine lv_sipush (v := 17000) hx hb dX12_init_153 (by decide) ?_
  refine m_newa hX hw (t := 0) (by decide) rfl k_119 (N' := 17000) (by decide) (by decide) (by decide) ⟨Nat.le_of_ble_eq_true rfl, Nat.le_of_ble_eq_true rfl⟩ dX12_init_156 (fun H hw => ?_)
  let b73 : Nat := gz σ72
  let σ74 : Me := nw σ72 20 17000
  have h := h b73 σ74 rfl rfl
  have hw : wS D cA z0 s σ74 H locs := hw
  obtain ⟨hT75, h⟩ := h
  refine m_putFP hX hin hw cl12 hT75 37 (by decide) k_911 (fun _ h => h) rfl rfl rfl rfl rfl dX12_init_158 (fun H locs hw => ?_)
  let σ76 : Me := sP σ74 a0 37 (some b73)
  have h := h σ76 rfl
  have hw : wS D cA z0 s σ76 H locs := hw
  refine lv_aload_n hx hb dX12_init_161 rfl (lv_at hl 0 rfl) ?_
  refine lv_sipush (v := 17000) hx hb dX12_init_162 (by decide) ?_
  refine m_newa hX hw (t := 1) (by decide) rfl k_159 (N' := 17000) (by decide) (by decide) (by decide) ⟨Nat.le_of_ble_eq_true rfl, Nat.le_of_ble_eq_true rfl⟩ dX12_init_165 (fun H hw => ?_)
  let b77 : Nat := gz σ76
  let σ78 : Me := nw σ76 21 17000
  have h := h b77 σ78 rfl rfl
  have hw : wS D cA z0 s σ78 H locs := hw
  obtain ⟨hT79, h⟩ := h
  refine m_putFP hX hin hw cl12 hT79 45 (by decide) k_919 (fun _ h => h) rfl rfl rfl rfl rfl dX12_init_167 (fun H locs hw => ?_)
  let σ80 : Me := sP σ78 a0 45 (some b77)
  have h := h σ80 rfl
  have hw : wS D cA z0 s σ80 H locs := hw
  refine lv_aload_n hx hb dX12_init_170 rfl (lv_at hl 0 rfl) ?_
  refine lv_sipush (v := 17000) hx hb dX12_init_171 (by decide) ?_
  refine m_newa hX hw (t := 1) (by decide) rfl k_159 (N' := 17000) (by decide) (by decide) (by decide) ⟨Nat.le_of_ble_eq_true rfl, Nat.le_of_ble_eq_true rfl⟩ dX12_init_174 (fun H hw => ?_)
  let b81 : Nat := gz σ80
  let σ82 : Me := nw σ80 21 17000
  have h := h b81 σ82 rfl rfl
  have hw : wS D cA z0 s σ82 H locs := hw
  obtain ⟨hT83, h⟩ := h
  refine m_putFP hX hin hw cl12 hT83 46 (by decide) k_920 (fun _ h => h) rfl rfl rfl rfl rfl dX12_init_176 (fun H locs hw => ?_)
  let σ84 : Me := sP σ82 a0 46 (some b81)
  have h := h σ84 rfl
  have hw : wS D cA z0 s σ84 H locs := hw
  refine lv_aload_n hx hb dX12_init_179 rfl (lv_at hl 0 rfl) ?_
  refine lv_bipush (v := 6) hx hb dX12_init_180 (by decide) ?_
  refine m_newa hX hw (t := 0) (by decide) rfl k_119 (N' := 6) (by decide) (by decide) (by decide) ⟨Nat.le_of_ble_eq_true rfl, Nat.le_of_ble_eq_true rfl⟩ dX12_init_182 (fun H hw => ?_)
  let b85 : Nat := gz σ84
  let σ86 : Me := nw σ84 20 6
  have h := h b85 σ86 rfl rfl
  have hw : wS D cA z0 s σ86 H locs := hw
  obtain ⟨hT87, h⟩ := h
  refine m_putFP hX hin hw cl12 hT87 56 (by decide) k_930 (fun _ h => h) rfl rfl rfl rfl rfl dX12_init_184 (fun H locs hw => ?_)
  let σ88 : Me := sP σ86 a0 56 (some b85)
  have h := h σ88 rfl
  have hw : wS D cA z0 s σ88 H locs := hw
  refine lv_aload_n hx hb dX12_init_187 rfl (lv_at hl 0 rfl) ?_
  refine lv_lconst (v := 1) hx hb dX12_init_188 (by decide) ?_
  refine m_putL hX hw cl12 hT87 3 (by decide) k_877 (fun _ h => h) rfl rfl dX12_init_189 (fun H locs hw => ?_)
  let σ89 : Me := sL σ88 a0 3 ((1 : Int64))
  have h := h σ89 rfl
  have hw : wS D cA z0 s σ89 H locs := hw
  refine lv_aload_n hx hb dX12_init_192 rfl (lv_at hl 0 rfl) ?_
  refine lv_bipush (v := 12) hx hb dX12_init_193 (by decide) ?_
  refine m_putI hX hw cl12 hT87 17 (by decide) k_891 (fun _ h => h) rfl rfl dX12_init_195 (fun H locs hw => ?_)
  let σ90 : Me := sI σ89 a0 17 ((12 : Int32))
  have h := h σ90 rfl
  have hw : wS D cA z0 s σ90 H locs := hw
  refine lv_aload_n hx hb dX12_init_198 rfl (lv_at hl 0 rfl) ?_
  refine lv_bipush (v := 10) hx hb dX12_init_199 (by decide) ?_
  refine m_putI hX hw cl12 hT87 20 (by decide) k_894 (fun _ h => h) rfl rfl dX12_init_201 (fun H locs hw => ?_)
  let σ91 : Me := sI σ90 a0 20 ((10 : Int32))
  have h := h σ91 rfl
  have hw : wS D cA z0 s σ91 H locs := hw
  refine lv_aload_n hx hb dX12_init_204 rfl (lv_at hl 0 rfl) ?_
  refine lv_iconst (v := 1) hx hb dX12_init_205 (by decide) ?_
  refine m_putI hX hw cl12 hT87 21 (by decide) k_895 (fun _ h => h) rfl rfl dX12_init_206 (fun H locs hw => ?_)
  let σ92 : Me := sI σ91 a0 21 ((1 : Int32))
  have h := h σ92 rfl
  have hw : wS D cA z0 s σ92 H locs := hw
  refine lv_aload_n hx hb dX12_init_209 rfl (lv_at hl 0 rfl) ?_
  refine lv_iconst (v := 1) hx hb dX12_init_210 (by decide) ?_
  refine m_putI hX hw cl12 hT87 22 (by decide) k_896 (fun _ h => h) rfl rfl dX12_init_211 (fun H locs hw => ?_)
  let σ93 : Me := sI σ92 a0 22 ((1 : Int32))
  have h := h σ93 rfl
  have hw : wS D cA z0 s σ93 H locs := hw
  refine lv_aload_n hx hb dX12_init_214 rfl (lv_at hl 0 rfl) ?_
  refine lv_iconst (v := 5) hx hb dX12_init_215 (by decide) ?_
  refine m_putI hX hw cl12 hT87 23 (by decide) k_897 (fun _ h => h) rfl rfl dX12_init_216 (fun H locs hw => ?_)
  let σ94 : Me := sI σ93 a0 23 ((5 : Int32))
  have h := h σ94 rfl
  have hw : wS D cA z0 s σ94 H locs := hw
  refine lv_aload_n hx hb dX12_init_219 rfl (lv_at hl 0 rfl) ?_
  refine lv_bipush (v := (-9)) hx hb dX12_init_220 (by decide) ?_
  refine m_putI hX hw cl12 hT87 48 (by decide) k_922 (fun _ h => h) rfl rfl dX12_init_222 (fun H locs hw => ?_)
  let σ95 : Me := sI σ94 a0 48 ((-9 : Int32))
  have h := h σ95 rfl
  have hw : wS D cA z0 s σ95 H locs := hw
  refine lv_aload_n hx hb dX12_init_225 rfl (lv_at hl 0 rfl) ?_
  refine lv_bipush (v := (-9)) hx hb dX12_init_226 (by decide) ?_
  refine m_putI hX hw cl12 hT87 49 (by decide) k_923 (fun _ h => h) rfl rfl dX12_init_228 (fun H locs hw => ?_)
  let σ96 : Me := sI σ95 a0 49 ((-9 : Int32))
  have h := h σ96 rfl
  have hw : wS D cA z0 s σ96 H locs := hw
  refine lv_iconst (v := 0) hx hb dX12_init_231 (by decide) ?_
  refine lv_istore_n (lv' := [(1, _), (0, _)]) hx hb dX12_init_232 rfl hl (by decide) rfl (fun ls hl => ?_)
  obtain ⟨I233, hI233, n233, h⟩ := h
  have key233 : ∀ (n233 : Nat) (σ97 : Me) (x1_98 : Int32) (H : Heap) (locs : List Loc) (ls : Array Slot), I233 n233 σ97 x1_98 → wS D cA z0 s σ97 H locs → lv_has ls 2 [(0, .ref a0), (1, .int x1_98)] → W p l e rX12_init s m args below meth c H locs 22 136527 (MQ below (va_Qv Q (BM D cA z0) (AM z0)) args s 22 136527 (AM z0)) (F0 m 233 ls []) := by
    intro n233
    induction n233 using Nat.strongRecOn with
    | _ n233 ih233 =>
      intro σ97 x1_98 H locs ls h hw hl
      have h := hI233 _ _ _ h
      refine lv_iload_n hx hb dX12_init_233 rfl (lv_at hl 1 rfl) ?_
      refine lv_iconst (v := 4) hx hb dX12_init_234 (by decide) ?_
      refine lv_icmp_ge (tgt := 251) hx hb dX12_init_235 (by decide) (fun hc100 => ?_) (fun hc100 => ?_)
      · have h := h.1 hc100
        refine W.widen (k := 22) (n := 136527) (Nat.le_of_ble_eq_true rfl) (Nat.le_of_ble_eq_true rfl) ?_
        exact m_vret hX hlk hr hw h dX12_init_251
      · have h := h.2 hc100
        refine lv_aload_n hx hb dX12_init_238 rfl (lv_at hl 0 rfl) ?_
        obtain ⟨hT101, h⟩ := h
        obtain ⟨b102, hb102, h⟩ := h
        refine m_get hX hw cl12 hT101 7 (by decide) k_881 (fun _ h => h) (v := .ref b102) (congrArg va_rf hb102) dX12_init_239 ?_
        refine lv_iload_n hx hb dX12_init_242 rfl (lv_at hl 1 rfl) ?_
        refine lv_iconst (v := (-1)) hx hb dX12_init_243 (by decide) ?_
        obtain ⟨hT103, h⟩ := h
        obtain ⟨hc104, h⟩ := h
        refine m_iast hX hw hT103 hc104 dX12_init_244 (fun H locs hw => ?_)
        let σ105 : Me := sI σ97 b102 x1_98.toNatClampNeg ((-1 : Int32))
        have h := h σ105 rfl
        have hw : wS D cA z0 s σ105 H locs := hw
        obtain ⟨x1_106, e_x1_106⟩ : ∃ y : Int32, y = x1_98 + 1 := ⟨_, rfl⟩
        have h := h x1_106 e_x1_106
        refine lv_iinc (v := x1_106) (lv' := [(1, _), (0, _)]) hx hb dX12_init_245 hl (k := 1) rfl (by rw [e_x1_106]; rfl) (by decide) rfl (fun ls hl => ?_)
        refine lv_goto (tgt := 233) hx hb dX12_init_248 (by decide) ?_
        obtain ⟨m233, hm233, h⟩ := h
        exact ih233 m233 hm233 _ _ _ _ _ h hw (lv_sub hl [1, 0] rfl)
  exact key233 _ _ _ _ _ _ h hw (lv_sub hl [1, 0] rfl)
theorem mtX12_init : Mth yX12_init cX12_init 2 none 0 := ⟨k_872, k_50, by decide +kernel⟩
theorem tX12_init {l : Launch} {D : va_G} {cA : Nat → ClassId} {z0 : Nat} {σ : Me} {a0 : Nat} {Q : Me → Prop} (h : pX12_init σ a0 Q) : Met l yX12_init (Cond.code yX12_init cX12_init 2 none :: gTab) rX12_init (PcM D cA z0 σ [.ref a0]) (va_Qv Q (BM D cA z0) (AM z0)) 22 136527 (AM z0) :=
  met_of (by decide) (Nat.le_of_ble_eq_true rfl) (fun hX hlk hr hn hw hl => wX12_init hX hlk hr hn h hw hl)
