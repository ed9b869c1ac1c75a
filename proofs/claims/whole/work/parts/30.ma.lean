abbrev rX0_kindNumber : Room := { frames := 0, cells := 0, slots := 0, locals := 0 }
def pX0_kindNumber (σ : Me) (a0 : Nat) (Q : Int32 → Me → Prop) : Prop := Q ((1 : Int32)) σ
set_option maxHeartbeats 4000000 in
set_option maxRecDepth 100000 in
theorem wX0_kindNumber {p : Program} {l : Launch} {e : Env} {s : State} {m : MethodId} {args : Array Value} {below : List Frame} {meth : Method} {c : Code} {D : va_G} {cA : Nat → ClassId} {z0 : Nat} (hX : Cx p m c cX0_kindNumber 1 s args RX0 D cA) (hlk : meth.locks = false) (hr : meth.sig.returnType = (some .int)) {σ : Me} {a0 : Nat} {Q : Int32 → Me → Prop} (h : pX0_kindNumber σ a0 Q) {H : Heap} {locs : List Loc} {ls : Array Slot} (hw : wS D cA z0 s σ H locs) (hl : lv_has ls 1 [(0, .ref a0)]) : W p l e rX0_kindNumber s m args below meth c H locs 0 0 (MQ below (va_Qi Q (BM D cA z0) (AM z0)) args s 0 0 (AM z0)) (F0 m 0 ls []) := by
  have hx := hX.1.1
  have hb := hX.1.2.1
  have hown := hX.1.2.2.2.1
  have hts := hX.1.2.2.2.2
  unfold pX0_kindNumber at h
  refine lv_iconst (v := 1) hx hb dX0_kindNumber_0 (by decide) ?_
  exact m_iret hX hlk hr hw h dX0_kindNumber_1
theorem mtX0_kindNumber : Mth yX0_kindNumber cX0_kindNumber 1 (some .int) 0 := ⟨k_469, k_55, by decide +kernel⟩
theorem tX0_kindNumber {l : Launch} {D : va_G} {cA : Nat → ClassId} {z0 : Nat} {σ : Me} {a0 : Nat} {Q : Int32 → Me → Prop} (h : pX0_kindNumber σ a0 Q) : Met l yX0_kindNumber (Cond.code yX0_kindNumber cX0_kindNumber 1 (some .int) :: gTab) rX0_kindNumber (PcM D cA z0 σ [.ref a0]) (va_Qi Q (BM D cA z0) (AM z0)) 0 0 (AM z0) :=
  met_of (by decide) (Nat.le_of_ble_eq_true rfl) (fun hX hlk hr hn hw hl => wX0_kindNumber hX hlk hr h hw hl)
abbrev rX0_wants : Room := { frames := 0, cells := 0, slots := 0, locals := 0 }
def pX0_wants (σ : Me) (a0 : Nat) (x1 : Int32) (Q : Int32 → Me → Prop) : Prop := gT σ a0 = 0 ∧ Q ((gI σ a0 0) - x1) σ
set_option maxHeartbeats 4000000 in
set_option maxRecDepth 100000 in
theorem wX0_wants {p : Program} {l : Launch} {e : Env} {s : State} {m : MethodId} {args : Array Value} {below : List Frame} {meth : Method} {c : Code} {D : va_G} {cA : Nat → ClassId} {z0 : Nat} (hX : Cx p m c cX0_wants 2 s args RX0 D cA) (hlk : meth.locks = false) (hr : meth.sig.returnType = (some .int)) {σ : Me} {a0 : Nat} {x1 : Int32} {Q : Int32 → Me → Prop} (h : pX0_wants σ a0 x1 Q) {H : Heap} {locs : List Loc} {ls : Array Slot} (hw : wS D cA z0 s σ H locs) (hl : lv_has ls 2 [(0, .ref a0), (1, .int x1)]) : W p l e rX0_wants s m args below meth c H locs 0 0 (MQ below (va_Qi Q (BM D cA z0) (AM z0)) args s 0 0 (AM z0)) (F0 m 0 ls []) := by
  have hx := hX.1.1
  have hb := hX.1.2.1
  have hown := hX.1.2.2.2.1
  have hts := hX.1.2.2.2.2
  unfold pX0_wants at h
  refine lv_aload_n hx hb dX0_wants_0 rfl (lv_at hl 0 rfl) ?_
  obtain ⟨hT1, h⟩ := h
  refine m_get hX hw cl0 hT1 0 (by decide) k_414 (fun _ h => h) (v := .int _) rfl dX0_wants_1 ?_
  refine lv_iload_n hx hb dX0_wants_4 rfl (lv_at hl 1 rfl) ?_
  refine lv_isub hx hb dX0_wants_5 ?_
  exact m_iret hX hlk hr hw h dX0_wants_6
theorem mtX0_wants : Mth yX0_wants cX0_wants 2 (some .int) 1 := ⟨k_537, k_55, by decide +kernel⟩
theorem tX0_wants {l : Launch} {D : va_G} {cA : Nat → ClassId} {z0 : Nat} {σ : Me} {a0 : Nat} {x1 : Int32} {Q : Int32 → Me → Prop} (h : pX0_wants σ a0 x1 Q) : Met l yX0_wants (Cond.code yX0_wants cX0_wants 2 (some .int) :: gTab) rX0_wants (PcM D cA z0 σ [.ref a0, .int x1]) (va_Qi Q (BM D cA z0) (AM z0)) 0 0 (AM z0) :=
  met_of (by decide) (Nat.le_of_ble_eq_true rfl) (fun hX hlk hr hn hw hl => wX0_wants hX hlk hr h hw hl)
abbrev rX0_topMark : Room := { frames := 0, cells := 0, slots := 0, locals := 0 }
def pX0_topMark (σ : Me) (a0 : Nat) (Q : Int32 → Me → Prop) : Prop := gT σ a0 = 0 ∧ Q (gI σ a0 0) σ
set_option maxHeartbeats 4000000 in
set_option maxRecDepth 100000 in
theorem wX0_topMark {p : Program} {l : Launch} {e : Env} {s : State} {m : MethodId} {args : Array Value} {below : List Frame} {meth : Method} {c : Code} {D : va_G} {cA : Nat → ClassId} {z0 : Nat} (hX : Cx p m c cX0_topMark 1 s args RX0 D cA) (hlk : meth.locks = false) (hr : meth.sig.returnType = (some .int)) {σ : Me} {a0 : Nat} {Q : Int32 → Me → Prop} (h : pX0_topMark σ a0 Q) {H : Heap} {locs : List Loc} {ls : Array Slot} (hw : wS D cA z0 s σ H locs) (hl : lv_has ls 1 [(0, .ref a0)]) : W p l e rX0_topMark s m args below meth c H locs 0 0 (MQ below (va_Qi Q (BM D cA z0) (AM z0)) args s 0 0 (AM z0)) (F0 m 0 ls []) := by
  have hx := hX.1.1
  have hb := hX.1.2.1
  have hown := hX.1.2.2.2.1
  have hts := hX.1.2.2.2.2
  unfold pX0_topMark at h
  refine lv_aload_n hx hb dX0_topMark_0 rfl (lv_at hl 0 rfl) ?_
  obtain ⟨hT1, h⟩ := h
  refine m_get hX hw cl0 hT1 0 (by decide) k_414 (fun _ h => h) (v := .int _) rfl dX0_topMark_1 ?_
  exact m_iret hX hlk hr hw h dX0_topMark_4
theorem mtX0_topMark : Mth yX0_topMark cX0_topMark 1 (some .int) 0 := ⟨k_484, k_55, by decide +kernel⟩
theorem tX0_topMark {l : Launch} {D : va_G} {cA : Nat → ClassId} {z0 : Nat} {σ : Me} {a0 : Nat} {Q : Int32 → Me → Prop} (h : pX0_topMark σ a0 Q) : Met l yX0_topMark (Cond.code yX0_topMark cX0_topMark 1 (some .int) :: gTab) rX0_topMark (PcM D cA z0 σ [.ref a0]) (va_Qi Q (BM D cA z0) (AM z0)) 0 0 (AM z0) :=
  met_of (by decide) (Nat.le_of_ble_eq_true rfl) (fun hX hlk hr hn hw hl => wX0_topMark hX hlk hr h hw hl)
abbrev rX0_topMark3 : Room := { frames := 0, cells := 0, slots := 0, locals := 0 }
def pX0_topMark3 (σ : Me) (a0 : Nat) (Q : Int32 → Me → Prop) : Prop := gT σ a0 = 3 ∧ Q (gI σ a0 0) σ
set_option maxHeartbeats 4000000 in
set_option maxRecDepth 100000 in
theorem wX0_topMark3 {p : Program} {l : Launch} {e : Env} {s : State} {m : MethodId} {args : Array Value} {below : List Frame} {meth : Method} {c : Code} {D : va_G} {cA : Nat → ClassId} {z0 : Nat} (hX : Cx p m c cX0_topMark 1 s args RX0 D cA) (hlk : meth.locks = false) (hr : meth.sig.returnType = (some .int)) {σ : Me} {a0 : Nat} {Q : Int32 → Me → Prop} (h : pX0_topMark3 σ a0 Q) {H : Heap} {locs : List Loc} {ls : Array Slot} (hw : wS D cA z0 s σ H locs) (hl : lv_has ls 1 [(0, .ref a0)]) : W p l e rX0_topMark3 s m args below meth c H locs 0 0 (MQ below (va_Qi Q (BM D cA z0) (AM z0)) args s 0 0 (AM z0)) (F0 m 0 ls []) := by
  have hx := hX.1.1
  have hb := hX.1.2.1
  have hown := hX.1.2.2.2.1
  have hts := hX.1.2.2.2.2
  unfold pX0_topMark3 at h
  refine lv_aload_n hx hb dX0_topMark_0 rfl (lv_at hl 0 rfl) ?_
  obtain ⟨hT1, h⟩ := h
  refine m_get hX hw cl3 hT1 0 (by decide) k_414 (fun _ h => h) (v := .int _) rfl dX0_topMark_1 ?_
  exact m_iret hX hlk hr hw h dX0_topMark_4
theorem tX0_topMark3 {l : Launch} {D : va_G} {cA : Nat → ClassId} {z0 : Nat} {σ : Me} {a0 : Nat} {Q : Int32 → Me → Prop} (h : pX0_topMark3 σ a0 Q) : Met l yX0_topMark (Cond.code yX0_topMark cX0_topMark 1 (some .int) :: gTab) rX0_topMark3 (PcM D cA z0 σ [.ref a0]) (va_Qi Q (BM D cA z0) (AM z0)) 0 0 (AM z0) :=
  met_of (by decide) (Nat.le_of_ble_eq_true rfl) (fun hX hlk hr hn hw hl => wX0_topMark3 hX hlk hr h hw hl)
abbrev rX1_init : Room := { frames := 1, cells := 1, slots := 7, locals := 20 }
def pX1_init (σ : Me) (a0 : Nat) (Q : Me → Prop) : Prop := ∀ (b1 : Nat) (σ2 : Me), b1 = gz σ → σ2 = nw σ 20 7 → gT σ2 a0 = 1 ∧ ∀ σ4 : Me, σ4 = sP σ2 a0 1 (some b1) → Q σ4
set_option maxHeartbeats 4000000 in
set_option maxRecDepth 100000 in
theorem wX1_init {p : Program} {l : Launch} {e : Env} {s : State} {m : MethodId} {args : Array Value} {below : List Frame} {meth : Method} {c : Code} {D : va_G} {cA : Nat → ClassId} {z0 : Nat} (hX : Cx p m c cX1_init 1 s args RX1 D cA) (hlk : meth.locks = false) (hr : meth.sig.returnType = none) (hin : meth.name = "<init>") {σ : Me} {a0 : Nat} {Q : Me → Prop} (h : pX1_init σ a0 Q) {H : Heap} {locs : List Loc} {ls : Array Slot} (hw : wS D cA z0 s σ H locs) (hl : lv_has ls 1 [(0, .ref a0)]) : W p l e rX1_init s m args below meth c H locs 0 0 (MQ below (va_Qv Q (BM D cA z0) (AM z0)) args s 1 7 (AM z0)) (F0 m 0 ls []) := by
  have hx := hX.1.1
  have hb := hX.1.2.1
  have hown := hX.1.2.2.2.1
  have hts := hX.1.2.2.2.2
  unfold pX1_init at h
  refine lv_aload_n hx hb dX1_init_0 rfl (lv_at hl 0 rfl) ?_
  refine m_objInit hX k_124 hl.1 dX1_init_1 (Nat.le_of_ble_eq_true rfl) (Nat.le_of_ble_eq_true rfl) ?_
  refine lv_aload_n hx hb dX1_init_4 rfl (lv_at hl 0 rfl) ?_
  refine lv_bipush (v := 7) hx hb dX1_init_5 (by decide) ?_
  refine m_newa hX hw (t := 0) (by decide) rfl k_119 (N' := 7) (by decide) (by decide) (by decide) ⟨Nat.le_of_ble_eq_true rfl, Nat.le_of_ble_eq_true rfl⟩ dX1_init_7 (fun H hw => ?_)
  let b1 : Nat := gz σ
  let σ2 : Me := nw σ 20 7
  have h := h b1 σ2 rfl rfl
  have hw : wS D cA z0 s σ2 H locs := hw
  obtain ⟨hT3, h⟩ := h
  refine m_putFP hX hin hw cl1 hT3 1 (by decide) k_127 (fun _ h => h) rfl rfl rfl rfl rfl dX1_init_9 (fun H locs hw => ?_)
  let σ4 : Me := sP σ2 a0 1 (some b1)
  have h := h σ4 rfl
  have hw : wS D cA z0 s σ4 H locs := hw
  refine W.widen (k := 1) (n := 7) (Nat.le_of_ble_eq_true rfl) (Nat.le_of_ble_eq_true rfl) ?_
  exact m_vret hX hlk hr hw h dX1_init_12
theorem mtX1_init : Mth yX1_init cX1_init 1 none 0 := ⟨k_123, k_45, by decide +kernel⟩
theorem tX1_init {l : Launch} {D : va_G} {cA : Nat → ClassId} {z0 : Nat} {σ : Me} {a0 : Nat} {Q : Me → Prop} (h : pX1_init σ a0 Q) : Met l yX1_init (Cond.code yX1_init cX1_init 1 none :: gTab) rX1_init (PcM D cA z0 σ [.ref a0]) (va_Qv Q (BM D cA z0) (AM z0)) 1 7 (AM z0) :=
  met_of (by decide) (Nat.le_of_ble_eq_true rfl) (fun hX hlk hr hn hw hl => wX1_init hX hlk hr hn h hw hl)
abbrev rX1_open : Room := { frames := 0, cells := 0, slots := 0, locals := 0 }
def pX1_open (σ : Me) (a0 : Nat) (Q : Me → Prop) : Prop := gT σ a0 = 1 ∧ ∀ σ2 : Me, σ2 = sI σ a0 0 ((1 : Int32)) → ∃ I7 : Nat → Me → Int32 → Prop, (∀ (n7 : Nat) (σ3 : Me) (x1_4 : Int32), I7 n7 σ3 x1_4 → gT σ3 a0 = 1 ∧ ∃ b6 : Nat, gP σ3 a0 1 = some b6 ∧ gT σ3 b6 = 20 ∧ ((nI (gN σ3 b6)) ≤ x1_4 → Q σ3) ∧ (¬ (nI (gN σ3 b6)) ≤ x1_4 → vp_in x1_4 (gN σ3 b6) ∧ ∀ σ10 : Me, σ10 = sI σ3 b6 x1_4.toNatClampNeg ((0 : Int32)) → ∀ x1_11 : Int32, x1_11 = x1_4 + 1 → ∃ m7 : Nat, m7 < n7 ∧ I7 m7 σ10 x1_11)) ∧ ∃ n7 : Nat, I7 n7 σ2 ((0 : Int32))
set_option maxHeartbeats 4000000 in
set_option maxRecDepth 100000 in
theorem wX1_open {p : Program} {l : Launch} {e : Env} {s : State} {m : MethodId} {args : Array Value} {below : List Frame} {meth : Method} {c : Code} {D : va_G} {cA : Nat → ClassId} {z0 : Nat} (hX : Cx p m c cX1_open 2 s args RX1 D cA) (hlk : meth.locks = false) (hr : meth.sig.returnType = none) {σ : Me} {a0 : Nat} {Q : Me → Prop} (h : pX1_open σ a0 Q) {H : Heap} {locs : List Loc} {ls : Array Slot} (hw : wS D cA z0 s σ H locs) (hl : lv_has ls 2 [(0, .ref a0)]) : W p l e rX1_open s m args below meth c H locs 0 0 (MQ below (va_Qv Q (BM D cA z0) (AM z0)) args s 0 0 (AM z0)) (F0 m 0 ls []) := by
  have hx := hX.1.1
  have hb := hX.1.2.1
  have hown := hX.1.2.2.2.1
  have hts := hX.1.2.2.2.2
  unfold pX1_open at h
  refine lv_aload_n hx hb dX1_open_0 rfl (lv_at hl 0 rfl) ?_
  refine lv_iconst (v := 1) hx hb dX1_open_1 (by decide) ?_
  obtain ⟨hT1, h⟩ := h
  refine m_putZ hX hw cl1 hT1 0 (by decide) k_125 (fun _ h => h) rfl rfl (by decide) dX1_open_2 (fun H locs hw => ?_)
  let σ2 : Me := sI σ a0 0 ((1 : Int32))
  have h := h σ2 rfl
  have hw : wS D cA z0 s σ2 H locs := hw
  refine lv_iconst (v := 0) hx hb dX1_open_5 (by decide) ?_
  refine lv_istore_n (lv' := [(1, _), (0, _)]) hx hb dX1_open_6 rfl hl (by decide) rfl (fun ls hl => ?_)
  obtain ⟨I7, hI7, n7, h⟩ := h
  have key7 : ∀ (n7 : Nat) (σ3 : Me) (x1_4 : Int32) (H : Heap) (locs : List Loc) (ls : Array Slot), I7 n7 σ3 x1_4 → wS D cA z0 s σ3 H locs → lv_has ls 2 [(0, .ref a0), (1, .int x1_4)] → W p l e rX1_open s m args below meth c H locs 0 0 (MQ below (va_Qv Q (BM D cA z0) (AM z0)) args s 0 0 (AM z0)) (F0 m 7 ls []) := by
    intro n7
    induction n7 using Nat.strongRecOn with
    | _ n7 ih7 =>
      intro σ3 x1_4 H locs ls h hw hl
      have h := hI7 _ _ _ h
      refine lv_iload_n hx hb dX1_open_7 rfl (lv_at hl 1 rfl) ?_
      refine lv_aload_n hx hb dX1_open_8 rfl (lv_at hl 0 rfl) ?_
      obtain ⟨hT5, h⟩ := h
      obtain ⟨b6, hb6, h⟩ := h
      refine m_get hX hw cl1 hT5 1 (by decide) k_127 (fun _ h => h) (v := .ref b6) (congrArg va_rf hb6) dX1_open_9 ?_
      obtain ⟨hT7, h⟩ := h
      refine m_alen hX hw (t := 0) (by decide) hT7 dX1_open_12 ?_
      refine lv_icmp_ge (tgt := 29) hx hb dX1_open_13 (by decide) (fun hc8 => ?_) (fun hc8 => ?_)
      · have h := h.1 hc8
        exact m_vret hX hlk hr hw h dX1_open_29
      · have h := h.2 hc8
        refine lv_aload_n hx hb dX1_open_16 rfl (lv_at hl 0 rfl) ?_
        refine m_get hX hw cl1 hT5 1 (by decide) k_127 (fun _ h => h) (v := .ref b6) (congrArg va_rf hb6) dX1_open_17 ?_
        refine lv_iload_n hx hb dX1_open_20 rfl (lv_at hl 1 rfl) ?_
        refine lv_iconst (v := 0) hx hb dX1_open_21 (by decide) ?_
        obtain ⟨hc9, h⟩ := h
        refine m_iast hX hw hT7 hc9 dX1_open_22 (fun H locs hw => ?_)
        let σ10 : Me := sI σ3 b6 x1_4.toNatClampNeg ((0 : Int32))
        have h := h σ10 rfl
        have hw : wS D cA z0 s σ10 H locs := hw
        obtain ⟨x1_11, e_x1_11⟩ : ∃ y : Int32, y = x1_4 + 1 := ⟨_, rfl⟩
        have h := h x1_11 e_x1_11
        refine lv_iinc (v := x1_11) (lv' := [(1, _), (0, _)]) hx hb dX1_open_23 hl (k := 1) rfl (by rw [e_x1_11]; rfl) (by decide) rfl (fun ls hl => ?_)
        refine lv_goto (tgt := 7) hx hb dX1_open_26 (by decide) ?_
        obtain ⟨m7, hm7, h⟩ := h
        exact ih7 m7 hm7 _ _ _ _ _ h hw (lv_sub hl [1, 0] rfl)
  exact key7 _ _ _ _ _ _ h hw (lv_sub hl [1, 0] rfl)
theorem mtX1_open : Mth yX1_open cX1_open 2 none 0 := ⟨k_317, k_45, by decide +kernel⟩
theorem tX1_open {l : Launch} {D : va_G} {cA : Nat → ClassId} {z0 : Nat} {σ : Me} {a0 : Nat} {Q : Me → Prop} (h : pX1_open σ a0 Q) : Met l yX1_open (Cond.code yX1_open cX1_open 2 none :: gTab) rX1_open (PcM D cA z0 σ [.ref a0]) (va_Qv Q (BM D cA z0) (AM z0)) 0 0 (AM z0) :=
  met_of (by decide) (Nat.le_of_ble_eq_true rfl) (fun hX hlk hr hn hw hl => wX1_open hX hlk hr h hw hl)
abbrev rX1_weightOf : Room := { frames := 0, cells := 0, slots := 0, locals := 0 }
def pX1_weightOf (σ : Me) (a0 : Nat) (x1 : Int32) (Q : Int32 → Me → Prop) : Prop := (x1 < 0 → Q ((0 : Int32)) σ) ∧ (¬ x1 < 0 → gT σ a0 = 1 ∧ ∃ b4 : Nat, gP σ a0 1 = some b4 ∧ gT σ b4 = 20 ∧ ((nI (gN σ b4)) ≤ x1 → Q ((0 : Int32)) σ) ∧ (¬ (nI (gN σ b4)) ≤ x1 → vp_in x1 (gN σ b4) ∧ Q (gI σ b4 x1.toNatClampNeg) σ))
set_option maxHeartbeats 4000000 in
set_option maxRecDepth 100000 in
theorem wX1_weightOf {p : Program} {l : Launch} {e : Env} {s : State} {m : MethodId} {args : Array Value} {below : List Frame} {meth : Method} {c : Code} {D : va_G} {cA : Nat → ClassId} {z0 : Nat} (hX : Cx p m c cX1_weightOf 2 s args RX1 D cA) (hlk : meth.locks = false) (hr : meth.sig.returnType = (some .int)) {σ : Me} {a0 : Nat} {x1 : Int32} {Q : Int32 → Me → Prop} (h : pX1_weightOf σ a0 x1 Q) {H : Heap} {locs : List Loc} {ls : Array Slot} (hw : wS D cA z0 s σ H locs) (hl : lv_has ls 2 [(0, .ref a0), (1, .int x1)]) : W p l e rX1_weightOf s m args below meth c H locs 0 0 (MQ below (va_Qi Q (BM D cA z0) (AM z0)) args s 0 0 (AM z0)) (F0 m 0 ls []) := by
  have hx := hX.1.1
  have hb := hX.1.2.1
  have hown := hX.1.2.2.2.1
  have hts := hX.1.2.2.2.2
  unfold pX1_weightOf at h
  refine lv_iload_n hx hb dX1_weightOf_0 rfl (lv_at hl 1 rfl) ?_
  refine lv_if_lt (tgt := 22) hx hb dX1_weightOf_1 (by decide) (fun hc2 => ?_) (fun hc2 => ?_)
  · have h := h.1 hc2
    refine lv_iconst (v := 0) hx hb dX1_weightOf_22 (by decide) ?_
    exact m_iret hX hlk hr hw h dX1_weightOf_23
  · have h := h.2 hc2
    refine lv_iload_n hx hb dX1_weightOf_4 rfl (lv_at hl 1 rfl) ?_
    refine lv_aload_n hx hb dX1_weightOf_5 rfl (lv_at hl 0 rfl) ?_
    obtain ⟨hT3, h⟩ := h
    obtain ⟨b4, hb4, h⟩ := h
    refine m_get hX hw cl1 hT3 1 (by decide) k_127 (fun _ h => h) (v := .ref b4) (congrArg va_rf hb4) dX1_weightOf_6 ?_
    obtain ⟨hT5, h⟩ := h
    refine m_alen hX hw (t := 0) (by decide) hT5 dX1_weightOf_9 ?_
    refine lv_icmp_ge (tgt := 22) hx hb dX1_weightOf_10 (by decide) (fun hc6 => ?_) (fun hc6 => ?_)
    · have h := h.1 hc6
      refine lv_iconst (v := 0) hx hb dX1_weightOf_22 (by decide) ?_
      exact m_iret hX hlk hr hw h dX1_weightOf_23
    · have h := h.2 hc6
      refine lv_aload_n hx hb dX1_weightOf_13 rfl (lv_at hl 0 rfl) ?_
      refine m_get hX hw cl1 hT3 1 (by decide) k_127 (fun _ h => h) (v := .ref b4) (congrArg va_rf hb4) dX1_weightOf_14 ?_
      refine lv_iload_n hx hb dX1_weightOf_17 rfl (lv_at hl 1 rfl) ?_
      obtain ⟨hc7, h⟩ := h
      refine m_iald hX hw hT5 hc7 dX1_weightOf_18 ?_
      refine lv_goto (tgt := 23) hx hb dX1_weightOf_19 (by decide) ?_
      exact m_iret hX hlk hr hw h dX1_weightOf_23
theorem mtX1_weightOf : Mth yX1_weightOf cX1_weightOf 2 (some .int) 1 := ⟨k_591, k_45, by decide +kernel⟩
theorem tX1_weightOf {l : Launch} {D : va_G} {cA : Nat → ClassId} {z0 : Nat} {σ : Me} {a0 : Nat} {x1 : Int32} {Q : Int32 → Me → Prop} (h : pX1_weightOf σ a0 x1 Q) : Met l yX1_weightOf (Cond.code yX1_weightOf cX1_weightOf 2 (some .int) :: gTab) rX1_weightOf (PcM D cA z0 σ [.ref a0, .int x1]) (va_Qi Q (BM D cA z0) (AM z0)) 0 0 (AM z0) :=
  met_of (by decide) (Nat.le_of_ble_eq_true rfl) (fun hX hlk hr hn hw hl => wX1_weightOf hX hlk hr h hw hl)
abbrev rX1_weightOfAll : Room := { frames := 0, cells := 0, slots := 0, locals := 0 }
def pX1_weightOfAll (σ : Me) (a0 : Nat) (Q : Int32 → Me → Prop) : Prop := ∃ I4 : Nat → Me → Int32 → Int32 → Prop, (∀ (n4 : Nat) (σ1 : Me) (x1_2 : Int32) (x2_3 : Int32), I4 n4 σ1 x1_2 x2_3 → gT σ1 a0 = 1 ∧ ∃ b5 : Nat, gP σ1 a0 1 = some b5 ∧ gT σ1 b5 = 20 ∧ ((nI (gN σ1 b5)) ≤ x2_3 → Q x1_2 σ1) ∧ (¬ (nI (gN σ1 b5)) ≤ x2_3 → vp_in x2_3 (gN σ1 b5) ∧ ∀ x1_9 : Int32, x1_9 = (x1_2 + (gI σ1 b5 x2_3.toNatClampNeg)) → ∀ x2_10 : Int32, x2_10 = x2_3 + 1 → ∃ m4 : Nat, m4 < n4 ∧ I4 m4 σ1 x1_9 x2_10)) ∧ ∃ n4 : Nat, I4 n4 σ ((0 : Int32)) ((0 : Int32))
set_option maxHeartbeats 4000000 in
set_option maxRecDepth 100000 in
theorem wX1_weightOfAll {p : Program} {l : Launch} {e : Env} {s : State} {m : MethodId} {args : Array Value} {below : List Frame} {meth : Method} {c : Code} {D : va_G} {cA : Nat → ClassId} {z0 : Nat} (hX : Cx p m c cX1_weightOfAll 3 s args RX1 D cA) (hlk : meth.locks = false) (hr : meth.sig.returnType = (some .int)) {σ : Me} {a0 : Nat} {Q : Int32 → Me → Prop} (h : pX1_weightOfAll σ a0 Q) {H : Heap} {locs : List Loc} {ls : Array Slot} (hw : wS D cA z0 s σ H locs) (hl : lv_has ls 3 [(0, .ref a0)]) : W p l e rX1_weightOfAll s m args below meth c H locs 0 0 (MQ below (va_Qi Q (BM D cA z0) (AM z0)) args s 0 0 (AM z0)) (F0 m 0 ls []) := by
  have hx := hX.1.1
  have hb := hX.1.2.1
  have hown := hX.1.2.2.2.1
  have hts := hX.1.2.2.2.2
  unfold pX1_weightOfAll at h
  refine lv_iconst (v := 0) hx hb dX1_weightOfAll_0 (by decide) ?_
  refine lv_istore_n (lv' := [(1, _), (0, _)]) hx hb dX1_weightOfAll_1 rfl hl (by decide) rfl (fun ls hl => ?_)
  refine lv_iconst (v := 0) hx hb dX1_weightOfAll_2 (by decide) ?_
  refine lv_istore_n (lv' := [(2, _), (1, _), (0, _)]) hx hb dX1_weightOfAll_3 rfl hl (by decide) rfl (fun ls hl => ?_)
  obtain ⟨I4, hI4, n4, h⟩ := h
  have key4 : ∀ (n4 : Nat) (σ1 : Me) (x1_2 : Int32) (x2_3 : Int32) (H : Heap) (locs : List Loc) (ls : Array Slot), I4 n4 σ1 x1_2 x2_3 → wS D cA z0 s σ1 H locs → lv_has ls 3 [(0, .ref a0), (1, .int x1_2), (2, .int x2_3)] → W p l e rX1_weightOfAll s m args below meth c H locs 0 0 (MQ below (va_Qi Q (BM D cA z0) (AM z0)) args s 0 0 (AM z0)) (F0 m 4 ls []) := by
    intro n4
    induction n4 using Nat.strongRecOn with
    | _ n4 ih4 =>
      intro σ1 x1_2 x2_3 H locs ls h hw hl
      have h := hI4 _ _ _ _ h
      refine lv_iload_n hx hb dX1_weightOfAll_4 rfl (lv_at hl 2 rfl) ?_
      refine lv_aload_n hx hb dX1_weightOfAll_5 rfl (lv_at hl 0 rfl) ?_
      obtain ⟨hT4, h⟩ := h
      obtain ⟨b5, hb5, h⟩ := h
      refine m_get hX hw cl1 hT4 1 (by decide) k_127 (fun _ h => h) (v := .ref b5) (congrArg va_rf hb5) dX1_weightOfAll_6 ?_
      obtain ⟨hT6, h⟩ := h
      refine m_alen hX hw (t := 0) (by decide) hT6 dX1_weightOfAll_9 ?_
      refine lv_icmp_ge (tgt := 28) hx hb dX1_weightOfAll_10 (by decide) (fun hc7 => ?_) (fun hc7 => ?_)
      · have h := h.1 hc7
        refine lv_iload_n hx hb dX1_weightOfAll_28 rfl (lv_at hl 1 rfl) ?_
        exact m_iret hX hlk hr hw h dX1_weightOfAll_29
      · have h := h.2 hc7
        refine lv_iload_n hx hb dX1_weightOfAll_13 rfl (lv_at hl 1 rfl) ?_
        refine lv_aload_n hx hb dX1_weightOfAll_14 rfl (lv_at hl 0 rfl) ?_
        refine m_get hX hw cl1 hT4 1 (by decide) k_127 (fun _ h => h) (v := .ref b5) (congrArg va_rf hb5) dX1_weightOfAll_15 ?_
        refine lv_iload_n hx hb dX1_weightOfAll_18 rfl (lv_at hl 2 rfl) ?_
        obtain ⟨hc8, h⟩ := h
        refine m_iald hX hw hT6 hc8 dX1_weightOfAll_19 ?_
        refine lv_iadd hx hb dX1_weightOfAll_20 ?_
        refine lv_topi (fun x1_9 e_x1_9 => ?_)
        have h := h x1_9 e_x1_9
        refine lv_istore_n (lv' := [(1, _), (0, _), (2, _)]) hx hb dX1_weightOfAll_21 rfl hl (by decide) rfl (fun ls hl => ?_)
        obtain ⟨x2_10, e_x2_10⟩ : ∃ y : Int32, y = x2_3 + 1 := ⟨_, rfl⟩
        have h := h x2_10 e_x2_10
        refine lv_iinc (v := x2_10) (lv' := [(2, _), (1, _), (0, _)]) hx hb dX1_weightOfAll_22 hl (k := 2) rfl (by rw [e_x2_10]; rfl) (by decide) rfl (fun ls hl => ?_)
        refine lv_goto (tgt := 4) hx hb dX1_weightOfAll_25 (by decide) ?_
        obtain ⟨m4, hm4, h⟩ := h
        exact ih4 m4 hm4 _ _ _ _ _ _ h hw (lv_sub hl [2, 1, 0] rfl)
  exact key4 _ _ _ _ _ _ _ h hw (lv_sub hl [2, 1, 0] rfl)
theorem mtX1_weightOfAll : Mth yX1_weightOfAll cX1_weightOfAll 3 (some .int) 0 := ⟨k_353, k_45, by decide +kernel⟩
theorem tX1_weightOfAll {l : Launch} {D : va_G} {cA : Nat → ClassId} {z0 : Nat} {σ : Me} {a0 : Nat} {Q : Int32 → Me → Prop} (h : pX1_weightOfAll σ a0 Q) : Met l yX1_weightOfAll (Cond.code yX1_weightOfAll cX1_weightOfAll 3 (some .int) :: gTab) rX1_weightOfAll (PcM D cA z0 σ [.ref a0]) (va_Qi Q (BM D cA z0) (AM z0)) 0 0 (AM z0) :=
  met_of (by decide) (Nat.le_of_ble_eq_true rfl) (fun hX hlk hr hn hw hl => wX1_weightOfAll hX hlk hr h hw hl)
abbrev rX1_weightedDemands : Room := { frames := 0, cells := 0, slots := 0, locals := 0 }
def pX1_weightedDemands (σ : Me) (a0 : Nat) (Q : Int32 → Me → Prop) : Prop := ∃ I4 : Nat → Me → Int32 → Int32 → Prop, (∀ (n4 : Nat) (σ1 : Me) (x1_2 : Int32) (x2_3 : Int32), I4 n4 σ1 x1_2 x2_3 → gT σ1 a0 = 1 ∧ ∃ b5 : Nat, gP σ1 a0 1 = some b5 ∧ gT σ1 b5 = 20 ∧ ((nI (gN σ1 b5)) ≤ x2_3 → Q x1_2 σ1) ∧ (¬ (nI (gN σ1 b5)) ≤ x2_3 → vp_in x2_3 (gN σ1 b5) ∧ ∀ x1_9 : Int32, x1_9 = (x1_2 + (x2_3 * (gI σ1 b5 x2_3.toNatClampNeg))) → ∀ x2_10 : Int32, x2_10 = x2_3 + 1 → ∃ m4 : Nat, m4 < n4 ∧ I4 m4 σ1 x1_9 x2_10)) ∧ ∃ n4 : Nat, I4 n4 σ ((0 : Int32)) ((0 : Int32))
set_option maxHeartbeats 4000000 in
set_option maxRecDepth 100000 in
theorem wX1_weightedDemands {p : Program} {l : Launch} {e : Env} {s : State} {m : MethodId} {args : Array Value} {below : List Frame} {meth : Method} {c : Code} {D : va_G} {cA : Nat → ClassId} {z0 : Nat} (hX : Cx p m c cX1_weightedDemands 3 s args RX1 D cA) (hlk : meth.locks = false) (hr : meth.sig.returnType = (some .int)) {σ : Me} {a0 : Nat} {Q : Int32 → Me → Prop} (h : pX1_weightedDemands σ a0 Q) {H : Heap} {locs : List Loc} {ls : Array Slot} (hw : wS D cA z0 s σ H locs) (hl : lv_has ls 3 [(0, .ref a0)]) : W p l e rX1_weightedDemands s m args below meth c H locs 0 0 (MQ below (va_Qi Q (BM D cA z0) (AM z0)) args s 0 0 (AM z0)) (F0 m 0 ls []) := by
  have hx := hX.1.1
  have hb := hX.1.2.1
  have hown := hX.1.2.2.2.1
  have hts := hX.1.2.2.2.2
  unfold pX1_weightedDemands at h
  refine lv_iconst (v := 0) hx hb dX1_weightedDemands_0 (by decide) ?_
  refine lv_istore_n (lv' := [(1, _), (0, _)]) hx hb dX1_weightedDemands_1 rfl hl (by decide) rfl (fun ls hl => ?_)
  refine lv_iconst (v := 0) hx hb dX1_weightedDemands_2 (by decide) ?_
  refine lv_istore_n (lv' := [(2, _), (1, _), (0, _)]) hx hb dX1_weightedDemands_3 rfl hl (by decide) rfl (fun ls hl => ?_)
  obtain ⟨I4, hI4, n4, h⟩ := h
  have key4 : ∀ (n4 : Nat) (σ1 : Me) (x1_2 : Int32) (x2_3 : Int32) (H : Heap) (locs : List Loc) (ls : Array Slot), I4 n4 σ1 x1_2 x2_3 → wS D cA z0 s σ1 H locs → lv_has ls 3 [(0, .ref a0), (1, .int x1_2), (2, .int x2_3)] → W p l e rX1_weightedDemands s m args below meth c H locs 0 0 (MQ below (va_Qi Q (BM D cA z0) (AM z0)) args s 0 0 (AM z0)) (F0 m 4 ls []) := by
    intro n4
    induction n4 using Nat.strongRecOn with
    | _ n4 ih4 =>
      intro σ1 x1_2 x2_3 H locs ls h hw hl
      have h := hI4 _ _ _ _ h
      refine lv_iload_n hx hb dX1_weightedDemands_4 rfl (lv_at hl 2 rfl) ?_
      refine lv_aload_n hx hb dX1_weightedDemands_5 rfl (lv_at hl 0 rfl) ?_
      obtain ⟨hT4, h⟩ := h
      obtain ⟨b5, hb5, h⟩ := h
      refine m_get hX hw cl1 hT4 1 (by decide) k_127 (fun _ h => h) (v := .ref b5) (congrArg va_rf hb5) dX1_weightedDemands_6 ?_
      obtain ⟨hT6, h⟩ := h
      refine m_alen hX hw (t := 0) (by decide) hT6 dX1_weightedDemands_9 ?_
      refine lv_icmp_ge (tgt := 30) hx hb dX1_weightedDemands_10 (by decide) (fun hc7 => ?_) (fun hc7 => ?_)
      · have h := h.1 hc7
        refine lv_iload_n hx hb dX1_weightedDemands_30 rfl (lv_at hl 1 rfl) ?_
        exact m_iret hX hlk hr hw h dX1_weightedDemands_31
      · have h := h.2 hc7
        refine lv_iload_n hx hb dX1_weightedDemands_13 rfl (lv_at hl 1 rfl) ?_
        refine lv_iload_n hx hb dX1_weightedDemands_14 rfl (lv_at hl 2 rfl) ?_
        refine lv_aload_n hx hb dX1_weightedDemands_15 rfl (lv_at hl 0 rfl) ?_
        refine m_get hX hw cl1 hT4 1 (by decide) k_127 (fun _ h => h) (v := .ref b5) (congrArg va_rf hb5) dX1_weightedDemands_16 ?_
        refine lv_iload_n hx hb dX1_weightedDemands_19 rfl (lv_at hl 2 rfl) ?_
        obtain ⟨hc8, h⟩ := h
        refine m_iald hX hw hT6 hc8 dX1_weightedDemands_20 ?_
        refine lv_imul hx hb dX1_weightedDemands_21 ?_
        refine lv_iadd hx hb dX1_weightedDemands_22 ?_
        refine lv_topi (fun x1_9 e_x1_9 => ?_)
        have h := h x1_9 e_x1_9
        refine lv_istore_n (lv' := [(1, _), (0, _), (2, _)]) hx hb dX1_weightedDemands_23 rfl hl (by decide) rfl (fun ls hl => ?_)
        obtain ⟨x2_10, e_x2_10⟩ : ∃ y : Int32, y = x2_3 + 1 := ⟨_, rfl⟩
        have h := h x2_10 e_x2_10
        refine lv_iinc (v := x2_10) (lv' := [(2, _), (1, _), (0, _)]) hx hb dX1_weightedDemands_24 hl (k := 2) rfl (by rw [e_x2_10]; rfl) (by decide) rfl (fun ls hl => ?_)
        refine lv_goto (tgt := 4) hx hb dX1_weightedDemands_27 (by decide) ?_
        obtain ⟨m4, hm4, h⟩ := h
        exact ih4 m4 hm4 _ _ _ _ _ _ h hw (lv_sub hl [2, 1, 0] rfl)
  exact key4 _ _ _ _ _ _ _ h hw (lv_sub hl [2, 1, 0] rfl)
theorem mtX1_weightedDemands : Mth yX1_weightedDemands cX1_weightedDemands 3 (some .int) 0 := ⟨k_357, k_45, by decide +kernel⟩
theorem tX1_weightedDemands {l : Launch} {D : va_G} {cA : Nat → ClassId} {z0 : Nat} {σ : Me} {a0 : Nat} {Q : Int32 → Me → Prop} (h : pX1_weightedDemands σ a0 Q) : Met l yX1_weightedDemands (Cond.code yX1_weightedDemands cX1_weightedDemands 3 (some .int) :: gTab) rX1_weightedDemands (PcM D cA z0 σ [.ref a0]) (va_Qi Q (BM D cA z0) (AM z0)) 0 0 (AM z0) :=
  met_of (by decide) (Nat.le_of_ble_eq_true rfl) (fun hX hlk hr hn hw hl => wX1_weightedDemands hX hlk hr h hw hl)
abbrev rX2_kindNumber : Room := { frames := 0, cells := 0, slots := 0, locals := 0 }
def pX2_kindNumber (σ : Me) (a0 : Nat) (Q : Int32 → Me → Prop) : Prop := Q ((3 : Int32)) σ
set_option maxHeartbeats 4000000 in
set_option maxRecDepth 100000 in
theorem wX2_kindNumber {p : Program} {l : Launch} {e : Env} {s : State} {m : MethodId} {args : Array Value} {below : List Frame} {meth : Method} {c : Code} {D : va_G} {cA : Nat → ClassId} {z0 : Nat} (hX : Cx p m c cX2_kindNumber 1 s args RX2 D cA) (hlk : meth.locks = false) (hr : meth.sig.returnType = (some .int)) {σ : Me} {a0 : Nat} {Q : Int32 → Me → Prop} (h : pX2_kindNumber σ a0 Q) {H : Heap} {locs : List Loc} {ls : Array Slot} (hw : wS D cA z0 s σ H locs) (hl : lv_has ls 1 [(0, .ref a0)]) : W p l e rX2_kindNumber s m args below meth c H locs 0 0 (MQ below (va_Qi Q (BM D cA z0) (AM z0)) args s 0 0 (AM z0)) (F0 m 0 ls []) := by
  have hx := hX.1.1
  have hb := hX.1.2.1
  have hown := hX.1.2.2.2.1
  have hts := hX.1.2.2.2.2
  unfold pX2_kindNumber at h
  refine lv_iconst (v := 3) hx hb dX2_kindNumber_0 (by decide) ?_
  exact m_iret hX hlk hr hw h dX2_kindNumber_1
theorem mtX2_kindNumber : Mth yX2_kindNumber cX2_kindNumber 1 (some .int) 0 := ⟨k_472, k_57, by decide +kernel⟩
theorem tX2_kindNumber {l : Launch} {D : va_G} {cA : Nat → ClassId} {z0 : Nat} {σ : Me} {a0 : Nat} {Q : Int32 → Me → Prop} (h : pX2_kindNumber σ a0 Q) : Met l yX2_kindNumber (Cond.code yX2_kindNumber cX2_kindNumber 1 (some .int) :: gTab) rX2_kindNumber (PcM D cA z0 σ [.ref a0]) (va_Qi Q (BM D cA z0) (AM z0)) 0 0 (AM z0) :=
  met_of (by decide) (Nat.le_of_ble_eq_true rfl) (fun hX hlk hr hn hw hl => wX2_kindNumber hX hlk hr h hw hl)
abbrev rX2_wants : Room := { frames := 0, cells := 0, slots := 0, locals := 0 }
def pX2_wants (σ : Me) (a0 : Nat) (x1 : Int32) (Q : Int32 → Me → Prop) : Prop := gT σ a0 = 2 ∧ ∀ v_2 : Int32, v_2 = (if (gI σ a0 0) < x1 then ((0 : Int32)) else (gI σ a0 1)) → Q v_2 σ
set_option maxHeartbeats 4000000 in
set_option maxRecDepth 100000 in
theorem wX2_wants {p : Program} {l : Launch} {e : Env} {s : State} {m : MethodId} {args : Array Value} {below : List Frame} {meth : Method} {c : Code} {D : va_G} {cA : Nat → ClassId} {z0 : Nat} (hX : Cx p m c cX2_wants 2 s args RX2 D cA) (hlk : meth.locks = false) (hr : meth.sig.returnType = (some .int)) {σ : Me} {a0 : Nat} {x1 : Int32} {Q : Int32 → Me → Prop} (h : pX2_wants σ a0 x1 Q) {H : Heap} {locs : List Loc} {ls : Array Slot} (hw : wS D cA z0 s σ H locs) (hl : lv_has ls 2 [(0, .ref a0), (1, .int x1)]) : W p l e rX2_wants s m args below meth c H locs 0 0 (MQ below (va_Qi Q (BM D cA z0) (AM z0)) args s 0 0 (AM z0)) (F0 m 0 ls []) := by
  have hx := hX.1.1
  have hb := hX.1.2.1
  have hown := hX.1.2.2.2.1
  have hts := hX.1.2.2.2.2
  unfold pX2_wants at h
  refine lv_iload_n hx hb dX2_wants_0 rfl (lv_at hl 1 rfl) ?_
  refine lv_aload_n hx hb dX2_wants_1 rfl (lv_at hl 0 rfl) ?_
  obtain ⟨hT1, h⟩ := h
  refine m_get hX hw cl2 hT1 0 (by decide) k_440 (fun _ h => h) (v := .int _) rfl dX2_wants_2 ?_
  have kM3 : ∀ (v_2 : Int32) (ls : Array Slot), v_2 = (if (gI σ a0 0) < x1 then ((0 : Int32)) else (gI σ a0 1)) → lv_has ls 2 [] → W p l e rX2_wants s m args below meth c H locs 0 0 (MQ below (va_Qi Q (BM D cA z0) (AM z0)) args s 0 0 (AM z0)) (F0 m 16 ls [.int v_2]) := by
    intro v_2 ls e_v_2 hl
    have h := h v_2 e_v_2
    exact m_iret hX hlk hr hw h dX2_wants_16
  refine lv_icmp_gt (tgt := 15) hx hb dX2_wants_5 (by decide) (fun hc4 => ?_) (fun hc4 => ?_)
  · refine lv_iconst (v := 0) hx hb dX2_wants_15 (by decide) ?_
    exact kM3 _ _ (by first | rfl | rw [if_pos hc4] | simp only [if_pos hc4]) (lv_sub hl [] rfl)
  · refine lv_aload_n hx hb dX2_wants_8 rfl (lv_at hl 0 rfl) ?_
    refine m_get hX hw cl2 hT1 1 (by decide) k_441 (fun _ h => h) (v := .int _) rfl dX2_wants_9 ?_
    refine lv_goto (tgt := 16) hx hb dX2_wants_12 (by decide) ?_
    exact kM3 _ _ (by first | rfl | rw [if_neg hc4] | simp only [if_neg hc4]) (lv_sub hl [] rfl)
theorem mtX2_wants : Mth yX2_wants cX2_wants 2 (some .int) 1 := ⟨k_540, k_57, by decide +kernel⟩
theorem tX2_wants {l : Launch} {D : va_G} {cA : Nat → ClassId} {z0 : Nat} {σ : Me} {a0 : Nat} {x1 : Int32} {Q : Int32 → Me → Prop} (h : pX2_wants σ a0 x1 Q) : Met l yX2_wants (Cond.code yX2_wants cX2_wants 2 (some .int) :: gTab) rX2_wants (PcM D cA z0 σ [.ref a0, .int x1]) (va_Qi Q (BM D cA z0) (AM z0)) 0 0 (AM z0) :=
  met_of (by decide) (Nat.le_of_ble_eq_true rfl) (fun hX hlk hr hn hw hl => wX2_wants hX hlk hr h hw hl)
abbrev rX2_lowMark : Room := { frames := 0, cells := 0, slots := 0, locals := 0 }
def pX2_lowMark (σ : Me) (a0 : Nat) (Q : Int32 → Me → Prop) : Prop := gT σ a0 = 2 ∧ Q (gI σ a0 0) σ
set_option maxHeartbeats 4000000 in
set_option maxRecDepth 100000 in
theorem wX2_lowMark {p : Program} {l : Launch} {e : Env} {s : State} {m : MethodId} {args : Array Value} {below : List Frame} {meth : Method} {c : Code} {D : va_G} {cA : Nat → ClassId} {z0 : Nat} (hX : Cx p m c cX2_lowMark 1 s args RX2 D cA) (hlk : meth.locks = false) (hr : meth.sig.returnType = (some .int)) {σ : Me} {a0 : Nat} {Q : Int32 → Me → Prop} (h : pX2_lowMark σ a0 Q) {H : Heap} {locs : List Loc} {ls : Array Slot} (hw : wS D cA z0 s σ H locs) (hl : lv_has ls 1 [(0, .ref a0)]) : W p l e rX2_lowMark s m args below meth c H locs 0 0 (MQ below (va_Qi Q (BM D cA z0) (AM z0)) args s 0 0 (AM z0)) (F0 m 0 ls []) := by
  have hx := hX.1.1
  have hb := hX.1.2.1
  have hown := hX.1.2.2.2.1
  have hts := hX.1.2.2.2.2
  unfold pX2_lowMark at h
  refine lv_aload_n hx hb dX2_lowMark_0 rfl (lv_at hl 0 rfl) ?_
  obtain ⟨hT1, h⟩ := h
  refine m_get hX hw cl2 hT1 0 (by decide) k_440 (fun _ h => h) (v := .int _) rfl dX2_lowMark_1 ?_
  exact m_iret hX hlk hr hw h dX2_lowMark_4
theorem mtX2_lowMark : Mth yX2_lowMark cX2_lowMark 1 (some .int) 0 := ⟨k_495, k_57, by decide +kernel⟩
theorem tX2_lowMark {l : Launch} {D : va_G} {cA : Nat → ClassId} {z0 : Nat} {σ : Me} {a0 : Nat} {Q : Int32 → Me → Prop} (h : pX2_lowMark σ a0 Q) : Met l yX2_lowMark (Cond.code yX2_lowMark cX2_lowMark 1 (some .int) :: gTab) rX2_lowMark (PcM D cA z0 σ [.ref a0]) (va_Qi Q (BM D cA z0) (AM z0)) 0 0 (AM z0) :=
  met_of (by decide) (Nat.le_of_ble_eq_true rfl) (fun hX hlk hr hn hw hl => wX2_lowMark hX hlk hr h hw hl)
abbrev rX2_lotSize : Room := { frames := 0, cells := 0, slots := 0, locals := 0 }
def pX2_lotSize (σ : Me) (a0 : Nat) (Q : Int32 → Me → Prop) : Prop := gT σ a0 = 2 ∧ Q (gI σ a0 1) σ
set_option maxHeartbeats 4000000 in
set_option maxRecDepth 100000 in
theorem wX2_lotSize {p : Program} {l : Launch} {e : Env} {s : State} {m : MethodId} {args : Array Value} {below : List Frame} {meth : Method} {c : Code} {D : va_G} {cA : Nat → ClassId} {z0 : Nat} (hX : Cx p m c cX2_lotSize 1 s args RX2 D cA) (hlk : meth.locks = false) (hr : meth.sig.returnType = (some .int)) {σ : Me} {a0 : Nat} {Q : Int32 → Me → Prop} (h : pX2_lotSize σ a0 Q) {H : Heap} {locs : List Loc} {ls : Array Slot} (hw : wS D cA z0 s σ H locs) (hl : lv_has ls 1 [(0, .ref a0)]) : W p l e rX2_lotSize s m args below meth c H locs 0 0 (MQ below (va_Qi Q (BM D cA z0) (AM z0)) args s 0 0 (AM z0)) (F0 m 0 ls []) := by
  have hx := hX.1.1
  have hb := hX.1.2.1
  have hown := hX.1.2.2.2.1
  have hts := hX.1.2.2.2.2
  unfold pX2_lotSize at h
  refine lv_aload_n hx hb dX2_lotSize_0 rfl (lv_at hl 0 rfl) ?_
  obtain ⟨hT1, h⟩ := h
  refine m_get hX hw cl2 hT1 1 (by decide) k_441 (fun _ h => h) (v := .int _) rfl dX2_lotSize_1 ?_
  exact m_iret hX hlk hr hw h dX2_lotSize_4
theorem mtX2_lotSize : Mth yX2_lotSize cX2_lotSize 1 (some .int) 0 := ⟨k_507, k_57, by decide +kernel⟩
theorem tX2_lotSize {l : Launch} {D : va_G} {cA : Nat → ClassId} {z0 : Nat} {σ : Me} {a0 : Nat} {Q : Int32 → Me → Prop} (h : pX2_lotSize σ a0 Q) : Met l yX2_lotSize (Cond.code yX2_lotSize cX2_lotSize 1 (some .int) :: gTab) rX2_lotSize (PcM D cA z0 σ [.ref a0]) (va_Qi Q (BM D cA z0) (AM z0)) 0 0 (AM z0) :=
  met_of (by decide) (Nat.le_of_ble_eq_true rfl) (fun hX hlk hr hn hw hl => wX2_lotSize hX hlk hr h hw hl)
abbrev rX3_kindNumber : Room := { frames := 0, cells := 0, slots := 0, locals := 0 }
def pX3_kindNumber (σ : Me) (a0 : Nat) (Q : Int32 → Me → Prop) : Prop := Q ((2 : Int32)) σ
set_option maxHeartbeats 4000000 in
set_option maxRecDepth 100000 in
theorem wX3_kindNumber {p : Program} {l : Launch} {e : Env} {s : State} {m : MethodId} {args : Array Value} {below : List Frame} {meth : Method} {c : Code} {D : va_G} {cA : Nat → ClassId} {z0 : Nat} (hX : Cx p m c cX3_kindNumber 1 s args RX3 D cA) (hlk : meth.locks = false) (hr : meth.sig.returnType = (some .int)) {σ : Me} {a0 : Nat} {Q : Int32 → Me → Prop} (h : pX3_kindNumber σ a0 Q) {H : Heap} {locs : List Loc} {ls : Array Slot} (hw : wS D cA z0 s σ H locs) (hl : lv_has ls 1 [(0, .ref a0)]) : W p l e rX3_kindNumber s m args below meth c H locs 0 0 (MQ below (va_Qi Q (BM D cA z0) (AM z0)) args s 0 0 (AM z0)) (F0 m 0 ls []) := by
  have hx := hX.1.1
  have hb := hX.1.2.1
  have hown := hX.1.2.2.2.1
  have hts := hX.1.2.2.2.2
  unfold pX3_kindNumber at h
  refine lv_iconst (v := 2) hx hb dX3_kindNumber_0 (by decide) ?_
  exact m_iret hX hlk hr hw h dX3_kindNumber_1
theorem mtX3_kindNumber : Mth yX3_kindNumber cX3_kindNumber 1 (some .int) 0 := ⟨k_475, k_56, by decide +kernel⟩
theorem tX3_kindNumber {l : Launch} {D : va_G} {cA : Nat → ClassId} {z0 : Nat} {σ : Me} {a0 : Nat} {Q : Int32 → Me → Prop} (h : pX3_kindNumber σ a0 Q) : Met l yX3_kindNumber (Cond.code yX3_kindNumber cX3_kindNumber 1 (some .int) :: gTab) rX3_kindNumber (PcM D cA z0 σ [.ref a0]) (va_Qi Q (BM D cA z0) (AM z0)) 0 0 (AM z0) :=
  met_of (by decide) (Nat.le_of_ble_eq_true rfl) (fun hX hlk hr hn hw hl => wX3_kindNumber hX hlk hr h hw hl)
abbrev rX3_lowMark : Room := { frames := 0, cells := 0, slots := 0, locals := 0 }
def pX3_lowMark (σ : Me) (a0 : Nat) (Q : Int32 → Me → Prop) : Prop := gT σ a0 = 3 ∧ Q (gI σ a0 1) σ
set_option maxHeartbeats 4000000 in
set_option maxRecDepth 100000 in
theorem wX3_lowMark {p : Program} {l : Launch} {e : Env} {s : State} {m : MethodId} {args : Array Value} {below : List Frame} {meth : Method} {c : Code} {D : va_G} {cA : Nat → ClassId} {z0 : Nat} (hX : Cx p m c cX3_lowMark 1 s args RX3 D cA) (hlk : meth.locks = false) (hr : meth.sig.returnType = (some .int)) {σ : Me} {a0 : Nat} {Q : Int32 → Me → Prop} (h : pX3_lowMark σ a0 Q) {H : Heap} {locs : List Loc} {ls : Array Slot} (hw : wS D cA z0 s σ H locs) (hl : lv_has ls 1 [(0, .ref a0)]) : W p l e rX3_lowMark s m args below meth c H locs 0 0 (MQ below (va_Qi Q (BM D cA z0) (AM z0)) args s 0 0 (AM z0)) (F0 m 0 ls []) := by
  have hx := hX.1.1
  have hb := hX.1.2.1
  have hown := hX.1.2.2.2.1
  have hts := hX.1.2.2.2.2
  unfold pX3_lowMark at h
  refine lv_aload_n hx hb dX3_lowMark_0 rfl (lv_at hl 0 rfl) ?_
  obtain ⟨hT1, h⟩ := h
  refine m_get hX hw cl3 hT1 1 (by decide) k_428 (fun _ h => h) (v := .int _) rfl dX3_lowMark_1 ?_
  exact m_iret hX hlk hr hw h dX3_lowMark_4
theorem mtX3_lowMark : Mth yX3_lowMark cX3_lowMark 1 (some .int) 0 := ⟨k_498, k_56, by decide +kernel⟩
theorem tX3_lowMark {l : Launch} {D : va_G} {cA : Nat → ClassId} {z0 : Nat} {σ : Me} {a0 : Nat} {Q : Int32 → Me → Prop} (h : pX3_lowMark σ a0 Q) : Met l yX3_lowMark (Cond.code yX3_lowMark cX3_lowMark 1 (some .int) :: gTab) rX3_lowMark (PcM D cA z0 σ [.ref a0]) (va_Qi Q (BM D cA z0) (AM z0)) 0 0 (AM z0) :=
  met_of (by decide) (Nat.le_of_ble_eq_true rfl) (fun hX hlk hr hn hw hl => wX3_lowMark hX hlk hr h hw hl)
abbrev rX3_pairWants : Room := { frames := 0, cells := 0, slots := 0, locals := 0 }
def pX3_pairWants (σ : Me) (x0 : Int32) (x1 : Int32) (x2 : Int32) (Q : Int32 → Me → Prop) : Prop := ∀ v_1 : Int32, v_1 = (if x0 < x2 then ((0 : Int32)) else (x1 - x2)) → Q v_1 σ
set_option maxHeartbeats 4000000 in
set_option maxRecDepth 100000 in
theorem wX3_pairWants {p : Program} {l : Launch} {e : Env} {s : State} {m : MethodId} {args : Array Value} {below : List Frame} {meth : Method} {c : Code} {D : va_G} {cA : Nat → ClassId} {z0 : Nat} (hX : Cx p m c cX3_pairWants 3 s args RX3 D cA) (hlk : meth.locks = false) (hr : meth.sig.returnType = (some .int)) {σ : Me} {x0 : Int32} {x1 : Int32} {x2 : Int32} {Q : Int32 → Me → Prop} (h : pX3_pairWants σ x0 x1 x2 Q) {H : Heap} {locs : List Loc} {ls : Array Slot} (hw : wS D cA z0 s σ H locs) (hl : lv_has ls 3 [(0, .int x0), (1, .int x1), (2, .int x2)]) : W p l e rX3_pairWants s m args below meth c H locs 0 0 (MQ below (va_Qi Q (BM D cA z0) (AM z0)) args s 0 0 (AM z0)) (F0 m 0 ls []) := by
  have hx := hX.1.1
  have hb := hX.1.2.1
  have hown := hX.1.2.2.2.1
  have hts := hX.1.2.2.2.2
  unfold pX3_pairWants at h
  refine lv_iload_n hx hb dX3_pairWants_0 rfl (lv_at hl 2 rfl) ?_
  refine lv_iload_n hx hb dX3_pairWants_1 rfl (lv_at hl 0 rfl) ?_
  have kM2 : ∀ (v_1 : Int32) (ls : Array Slot), v_1 = (if x0 < x2 then ((0 : Int32)) else (x1 - x2)) → lv_has ls 3 [] → W p l e rX3_pairWants s m args below meth c H locs 0 0 (MQ below (va_Qi Q (BM D cA z0) (AM z0)) args s 0 0 (AM z0)) (F0 m 12 ls [.int v_1]) := by
    intro v_1 ls e_v_1 hl
    have h := h v_1 e_v_1
    exact m_iret hX hlk hr hw h dX3_pairWants_12
  refine lv_icmp_gt (tgt := 11) hx hb dX3_pairWants_2 (by decide) (fun hc3 => ?_) (fun hc3 => ?_)
  · refine lv_iconst (v := 0) hx hb dX3_pairWants_11 (by decide) ?_
    exact kM2 _ _ (by first | rfl | rw [if_pos hc3] | simp only [if_pos hc3]) (lv_sub hl [] rfl)
  · refine lv_iload_n hx hb dX3_pairWants_5 rfl (lv_at hl 1 rfl) ?_
    refine lv_iload_n hx hb dX3_pairWants_6 rfl (lv_at hl 2 rfl) ?_
    refine lv_isub hx hb dX3_pairWants_7 ?_
    refine lv_goto (tgt := 12) hx hb dX3_pairWants_8 (by decide) ?_
    exact kM2 _ _ (by first | rfl | rw [if_neg hc3] | simp only [if_neg hc3]) (lv_sub hl [] rfl)
theorem mtX3_pairWants : Mth yX3_pairWants cX3_pairWants 3 (some .int) 3 := ⟨k_546, k_56, by decide +kernel⟩
theorem tX3_pairWants {l : Launch} {D : va_G} {cA : Nat → ClassId} {z0 : Nat} {σ : Me} {x0 : Int32} {x1 : Int32} {x2 : Int32} {Q : Int32 → Me → Prop} (h : pX3_pairWants σ x0 x1 x2 Q) : Met l yX3_pairWants (Cond.code yX3_pairWants cX3_pairWants 3 (some .int) :: gTab) rX3_pairWants (PcM D cA z0 σ [.int x0, .int x1, .int x2]) (va_Qi Q (BM D cA z0) (AM z0)) 0 0 (AM z0) :=
  met_of (by decide) (Nat.le_of_ble_eq_true rfl) (fun hX hlk hr hn hw hl => wX3_pairWants hX hlk hr h hw hl)
abbrev rX4_init : Room := { frames := 1, cells := 2, slots := 650, locals := 20 }
def pX4_init (σ : Me) (a0 : Nat) (a1 : Nat) (Q : Me → Prop) : Prop := ∀ (b1 : Nat) (σ2 : Me), b1 = gz σ → σ2 = nw σ 21 325 → gT σ2 a0 = 4 ∧ ∀ σ4 : Me, σ4 = sP σ2 a0 1 (some b1) → ∀ (b5 : Nat) (σ6 : Me), b5 = gz σ4 → σ6 = nw σ4 21 325 → gT σ6 a0 = 4 ∧ ∀ σ8 : Me, σ8 = sP σ6 a0 2 (some b5) → ∀ σ9 : Me, σ9 = sP σ8 a0 0 (some a1) → Q σ9
set_option maxHeartbeats 4000000 in
set_option maxRecDepth 100000 in
theorem wX4_init {p : Program} {l : Launch} {e : Env} {s : State} {m : MethodId} {args : Array Value} {below : List Frame} {meth : Method} {c : Code} {D : va_G} {cA : Nat → ClassId} {z0 : Nat} (hX : Cx p m c cX4_init 2 s args RX4 D cA) (hlk : meth.locks = false) (hr : meth.sig.returnType = none) (hin : meth.name = "<init>") {σ : Me} {a0 : Nat} {a1 : Nat} {Q : Me → Prop} (h : pX4_init σ a0 a1 Q) {H : Heap} {locs : List Loc} {ls : Array Slot} (hw : wS D cA z0 s σ H locs) (hl : lv_has ls 2 [(0, .ref a0), (1, .ref a1)]) : W p l e rX4_init s m args below meth c H locs 0 0 (MQ below (va_Qv Q (BM D cA z0) (AM z0)) args s 2 650 (AM z0)) (F0 m 0 ls []) := by
  have hx := hX.1.1
  have hb := hX.1.2.1
  have hown := hX.1.2.2.2.1
  have hts := hX.1.2.2.2.2
  unfold pX4_init at h
  refine lv_aload_n hx hb dX4_init_0 rfl (lv_at hl 0 rfl) ?_
  refine m_objInit hX k_199 hl.1 dX4_init_1 (Nat.le_of_ble_eq_true rfl) (Nat.le_of_ble_eq_true rfl) ?_
  refine lv_aload_n hx hb dX4_init_4 rfl (lv_at hl 0 rfl) ?_
  refine lv_sipush (v := 325) hx hb dX4_init_5 (by decide) ?_
  refine m_newa hX hw (t := 1) (by decide) rfl k_159 (N' := 325) (by decide) (by decide) (by decide) ⟨Nat.le_of_ble_eq_true rfl, Nat.le_of_ble_eq_true rfl⟩ dX4_init_8 (fun H hw => ?_)
  let b1 : Nat := gz σ
  let σ2 : Me := nw σ 21 325
  have h := h b1 σ2 rfl rfl
  have hw : wS D cA z0 s σ2 H locs := hw
  obtain ⟨hT3, h⟩ := h
  refine m_putP hX hw cl4 hT3 1 (by decide) k_201 (fun _ h => h) rfl rfl rfl rfl dX4_init_10 (fun H locs hw => ?_)
  let σ4 : Me := sP σ2 a0 1 (some b1)
  have h := h σ4 rfl
  have hw : wS D cA z0 s σ4 H locs := hw
  refine lv_aload_n hx hb dX4_init_13 rfl (lv_at hl 0 rfl) ?_
  refine lv_sipush (v := 325) hx hb dX4_init_14 (by decide) ?_
  refine m_newa hX hw (t := 1) (by decide) rfl k_159 (N' := 325) (by decide) (by decide) (by decide) ⟨Nat.le_of_ble_eq_true rfl, Nat.le_of_ble_eq_true rfl⟩ dX4_init_17 (fun H hw => ?_)
  let b5 : Nat := gz σ4
  let σ6 : Me := nw σ4 21 325
  have h := h b5 σ6 rfl rfl
  have hw : wS D cA z0 s σ6 H locs := hw
  obtain ⟨hT7, h⟩ := h
  refine m_putP hX hw cl4 hT7 2 (by decide) k_202 (fun _ h => h) rfl rfl rfl rfl dX4_init_19 (fun H locs hw => ?_)
  let σ8 : Me := sP σ6 a0 2 (some b5)
  have h := h σ8 rfl
  have hw : wS D cA z0 s σ8 H locs := hw
  refine lv_aload_n hx hb dX4_init_22 rfl (lv_at hl 0 rfl) ?_
  refine lv_aload_n hx hb dX4_init_23 rfl (lv_at hl 1 rfl) ?_
  refine m_putFP hX hin hw cl4 hT7 0 (by decide) k_200 (fun _ h => h) rfl rfl rfl rfl rfl dX4_init_24 (fun H locs hw => ?_)
  let σ9 : Me := sP σ8 a0 0 (some a1)
  have h := h σ9 rfl
  have hw : wS D cA z0 s σ9 H locs := hw
  refine W.widen (k := 2) (n := 650) (Nat.le_of_ble_eq_true rfl) (Nat.le_of_ble_eq_true rfl) ?_
  exact m_vret hX hlk hr hw h dX4_init_27
theorem mtX4_init : Mth yX4_init cX4_init 2 none 1 := ⟨k_198, k_48, by decide +kernel⟩
theorem tX4_init {l : Launch} {D : va_G} {cA : Nat → ClassId} {z0 : Nat} {σ : Me} {a0 : Nat} {a1 : Nat} {Q : Me → Prop} (h : pX4_init σ a0 a1 Q) : Met l yX4_init (Cond.code yX4_init cX4_init 2 none :: gTab) rX4_init (PcM D cA z0 σ [.ref a0, .ref a1]) (va_Qv Q (BM D cA z0) (AM z0)) 2 650 (AM z0) :=
  met_of (by decide) (Nat.le_of_ble_eq_true rfl) (fun hX hlk hr hn hw hl => wX4_init hX hlk hr hn h hw hl)
abbrev rX4_usefulOrder : Room := { frames := 0, cells := 0, slots := 0, locals := 0 }
def pX4_usefulOrder (σ : Me) (a0 : Nat) (x1 : Int32) (x2 : Int32) (Q : Int32 → Me → Prop) : Prop := gT σ a0 = 4 ∧ ∃ b2 : Nat, gP σ a0 0 = some b2 ∧ gT σ b2 = 6 ∧ ∀ v_4 : Int32, v_4 = (if x2 < (x1 + (gI σ b2 1)) then ((0 : Int32)) else ((12 : Int32))) → Q v_4 σ
set_option maxHeartbeats 4000000 in
set_option maxRecDepth 100000 in
theorem wX4_usefulOrder {p : Program} {l : Launch} {e : Env} {s : State} {m : MethodId} {args : Array Value} {below : List Frame} {meth : Method} {c : Code} {D : va_G} {cA : Nat → ClassId} {z0 : Nat} (hX : Cx p m c cX4_usefulOrder 3 s args RX4 D cA) (hlk : meth.locks = false) (hr : meth.sig.returnType = (some .int)) {σ : Me} {a0 : Nat} {x1 : Int32} {x2 : Int32} {Q : Int32 → Me → Prop} (h : pX4_usefulOrder σ a0 x1 x2 Q) {H : Heap} {locs : List Loc} {ls : Array Slot} (hw : wS D cA z0 s σ H locs) (hl : lv_has ls 3 [(0, .ref a0), (1, .int x1), (2, .int x2)]) : W p l e rX4_usefulOrder s m args below meth c H locs 0 0 (MQ below (va_Qi Q (BM D cA z0) (AM z0)) args s 0 0 (AM z0)) (F0 m 0 ls []) := by
  have hx := hX.1.1
  have hb := hX.1.2.1
  have hown := hX.1.2.2.2.1
  have hts := hX.1.2.2.2.2
  unfold pX4_usefulOrder at h
  refine lv_iload_n hx hb dX4_usefulOrder_0 rfl (lv_at hl 1 rfl) ?_
  refine lv_aload_n hx hb dX4_usefulOrder_1 rfl (lv_at hl 0 rfl) ?_
  obtain ⟨hT1, h⟩ := h
  obtain ⟨b2, hb2, h⟩ := h
  refine m_get hX hw cl4 hT1 0 (by decide) k_200 (fun _ h => h) (v := .ref b2) (congrArg va_rf hb2) dX4_usefulOrder_2 ?_
  obtain ⟨hT3, h⟩ := h
  refine m_get hX hw cl6 hT3 1 (by decide) k_81 (fun _ h => h) (v := .int _) rfl dX4_usefulOrder_5 ?_
  refine lv_iadd hx hb dX4_usefulOrder_8 ?_
  refine lv_iload_n hx hb dX4_usefulOrder_9 rfl (lv_at hl 2 rfl) ?_
  have kM5 : ∀ (v_4 : Int32) (ls : Array Slot), v_4 = (if x2 < (x1 + (gI σ b2 1)) then ((0 : Int32)) else ((12 : Int32))) → lv_has ls 3 [] → W p l e rX4_usefulOrder s m args below meth c H locs 0 0 (MQ below (va_Qi Q (BM D cA z0) (AM z0)) args s 0 0 (AM z0)) (F0 m 19 ls [.int v_4]) := by
    intro v_4 ls e_v_4 hl
    have h := h v_4 e_v_4
    exact m_iret hX hlk hr hw h dX4_usefulOrder_19
  refine lv_icmp_gt (tgt := 18) hx hb dX4_usefulOrder_10 (by decide) (fun hc6 => ?_) (fun hc6 => ?_)
  · refine lv_iconst (v := 0) hx hb dX4_usefulOrder_18 (by decide) ?_
    exact kM5 _ _ (by first | rfl | rw [if_pos hc6] | simp only [if_pos hc6]) (lv_sub hl [] rfl)
  · refine lv_bipush (v := 12) hx hb dX4_usefulOrder_13 (by decide) ?_
    refine lv_goto (tgt := 19) hx hb dX4_usefulOrder_15 (by decide) ?_
    exact kM5 _ _ (by first | rfl | rw [if_neg hc6] | simp only [if_neg hc6]) (lv_sub hl [] rfl)
theorem mtX4_usefulOrder : Mth yX4_usefulOrder cX4_usefulOrder 3 (some .int) 2 := ⟨k_731, k_48, by decide +kernel⟩
theorem tX4_usefulOrder {l : Launch} {D : va_G} {cA : Nat → ClassId} {z0 : Nat} {σ : Me} {a0 : Nat} {x1 : Int32} {x2 : Int32} {Q : Int32 → Me → Prop} (h : pX4_usefulOrder σ a0 x1 x2 Q) : Met l yX4_usefulOrder (Cond.code yX4_usefulOrder cX4_usefulOrder 3 (some .int) :: gTab) rX4_usefulOrder (PcM D cA z0 σ [.ref a0, .int x1, .int x2]) (va_Qi Q (BM D cA z0) (AM z0)) 0 0 (AM z0) :=
  met_of (by decide) (Nat.le_of_ble_eq_true rfl) (fun hX hlk hr hn hw hl => wX4_usefulOrder hX hlk hr h hw hl)
abbrev rX4_laterAt : Room := { frames := 0, cells := 0, slots := 0, locals := 0 }
def pX4_laterAt (σ : Me) (a0 : Nat) (x1 : Int32) (Q : Int64 → Me → Prop) : Prop := (x1 < 0 → Q ((0 : Int64)) σ) ∧ (¬ x1 < 0 → gT σ a0 = 4 ∧ ∃ b4 : Nat, gP σ a0 2 = some b4 ∧ gT σ b4 = 21 ∧ ((nI (gN σ b4)) ≤ x1 → Q ((0 : Int64)) σ) ∧ (¬ (nI (gN σ b4)) ≤ x1 → vp_in x1 (gN σ b4) ∧ Q (gL σ b4 x1.toNatClampNeg) σ))
set_option maxHeartbeats 4000000 in
set_option maxRecDepth 100000 in
theorem wX4_laterAt {p : Program} {l : Launch} {e : Env} {s : State} {m : MethodId} {args : Array Value} {below : List Frame} {meth : Method} {c : Code} {D : va_G} {cA : Nat → ClassId} {z0 : Nat} (hX : Cx p m c cX4_laterAt 2 s args RX4 D cA) (hlk : meth.locks = false) (hr : meth.sig.returnType = (some .long)) {σ : Me} {a0 : Nat} {x1 : Int32} {Q : Int64 → Me → Prop} (h : pX4_laterAt σ a0 x1 Q) {H : Heap} {locs : List Loc} {ls : Array Slot} (hw : wS D cA z0 s σ H locs) (hl : lv_has ls 2 [(0, .ref a0), (1, .int x1)]) : W p l e rX4_laterAt s m args below meth c H locs 0 0 (MQ below (va_Ql Q (BM D cA z0) (AM z0)) args s 0 0 (AM z0)) (F0 m 0 ls []) := by
  have hx := hX.1.1
  have hb := hX.1.2.1
  have hown := hX.1.2.2.2.1
  have hts := hX.1.2.2.2.2
  unfold pX4_laterAt at h
  refine lv_iload_n hx hb dX4_laterAt_0 rfl (lv_at hl 1 rfl) ?_
  refine lv_if_lt (tgt := 22) hx hb dX4_laterAt_1 (by decide) (fun hc2 => ?_) (fun hc2 => ?_)
  · have h := h.1 hc2
    refine lv_lconst (v := 0) hx hb dX4_laterAt_22 (by decide) ?_
    exact m_lret hX hlk hr hw h dX4_laterAt_23
  · have h := h.2 hc2
    refine lv_iload_n hx hb dX4_laterAt_4 rfl (lv_at hl 1 rfl) ?_
    refine lv_aload_n hx hb dX4_laterAt_5 rfl (lv_at hl 0 rfl) ?_
    obtain ⟨hT3, h⟩ := h
    obtain ⟨b4, hb4, h⟩ := h
    refine m_get hX hw cl4 hT3 2 (by decide) k_202 (fun _ h => h) (v := .ref b4) (congrArg va_rf hb4) dX4_laterAt_6 ?_
    obtain ⟨hT5, h⟩ := h
    refine m_alen hX hw (t := 1) (by decide) hT5 dX4_laterAt_9 ?_
    refine lv_icmp_ge (tgt := 22) hx hb dX4_laterAt_10 (by decide) (fun hc6 => ?_) (fun hc6 => ?_)
    · have h := h.1 hc6
      refine lv_lconst (v := 0) hx hb dX4_laterAt_22 (by decide) ?_
      exact m_lret hX hlk hr hw h dX4_laterAt_23
    · have h := h.2 hc6
      refine lv_aload_n hx hb dX4_laterAt_13 rfl (lv_at hl 0 rfl) ?_
      refine m_get hX hw cl4 hT3 2 (by decide) k_202 (fun _ h => h) (v := .ref b4) (congrArg va_rf hb4) dX4_laterAt_14 ?_
      refine lv_iload_n hx hb dX4_laterAt_17 rfl (lv_at hl 1 rfl) ?_
      obtain ⟨hc7, h⟩ := h
      refine m_lald hX hw hT5 hc7 dX4_laterAt_18 ?_
      refine lv_goto (tgt := 23) hx hb dX4_laterAt_19 (by decide) ?_
      exact m_lret hX hlk hr hw h dX4_laterAt_23
theorem mtX4_laterAt : Mth yX4_laterAt cX4_laterAt 2 (some .long) 1 := ⟨k_756, k_48, by decide +kernel⟩
theorem tX4_laterAt {l : Launch} {D : va_G} {cA : Nat → ClassId} {z0 : Nat} {σ : Me} {a0 : Nat} {x1 : Int32} {Q : Int64 → Me → Prop} (h : pX4_laterAt σ a0 x1 Q) : Met l yX4_laterAt (Cond.code yX4_laterAt cX4_laterAt 2 (some .long) :: gTab) rX4_laterAt (PcM D cA z0 σ [.ref a0, .int x1]) (va_Ql Q (BM D cA z0) (AM z0)) 0 0 (AM z0) :=
  met_of (by decide) (Nat.le_of_ble_eq_true rfl) (fun hX hlk hr hn hw hl => wX4_laterAt hX hlk hr h hw hl)
abbrev rX4_placeOf : Room := { frames := 0, cells := 0, slots := 0, locals := 0 }
def pX4_placeOf (σ : Me) (x0 : Int32) (x1 : Int32) (Q : Int32 → Me → Prop) : Prop := Q (((x1 * ((25 : Int32))) + x0) - ((-12 : Int32))) σ
set_option maxHeartbeats 4000000 in
set_option maxRecDepth 100000 in
theorem wX4_placeOf {p : Program} {l : Launch} {e : Env} {s : State} {m : MethodId} {args : Array Value} {below : List Frame} {meth : Method} {c : Code} {D : va_G} {cA : Nat → ClassId} {z0 : Nat} (hX : Cx p m c cX4_placeOf 2 s args RX4 D cA) (hlk : meth.locks = false) (hr : meth.sig.returnType = (some .int)) {σ : Me} {x0 : Int32} {x1 : Int32} {Q : Int32 → Me → Prop} (h : pX4_placeOf σ x0 x1 Q) {H : Heap} {locs : List Loc} {ls : Array Slot} (hw : wS D cA z0 s σ H locs) (hl : lv_has ls 2 [(0, .int x0), (1, .int x1)]) : W p l e rX4_placeOf s m args below meth c H locs 0 0 (MQ below (va_Qi Q (BM D cA z0) (AM z0)) args s 0 0 (AM z0)) (F0 m 0 ls []) := by
  have hx := hX.1.1
  have hb := hX.1.2.1
  have hown := hX.1.2.2.2.1
  have hts := hX.1.2.2.2.2
  unfold pX4_placeOf at h
  refine lv_iload_n hx hb dX4_placeOf_0 rfl (lv_at hl 1 rfl) ?_
  refine lv_bipush (v := 25) hx hb dX4_placeOf_1 (by decide) ?_
  refine lv_imul hx hb dX4_placeOf_3 ?_
  refine lv_iload_n hx hb dX4_placeOf_4 rfl (lv_at hl 0 rfl) ?_
  refine lv_iadd hx hb dX4_placeOf_5 ?_
  refine lv_bipush (v := (-12)) hx hb dX4_placeOf_6 (by decide) ?_
  refine lv_isub hx hb dX4_placeOf_8 ?_
  exact m_iret hX hlk hr hw h dX4_placeOf_9
theorem mtX4_placeOf : Mth yX4_placeOf cX4_placeOf 2 (some .int) 2 := ⟨k_752, k_48, by decide +kernel⟩
theorem tX4_placeOf {l : Launch} {D : va_G} {cA : Nat → ClassId} {z0 : Nat} {σ : Me} {x0 : Int32} {x1 : Int32} {Q : Int32 → Me → Prop} (h : pX4_placeOf σ x0 x1 Q) : Met l yX4_placeOf (Cond.code yX4_placeOf cX4_placeOf 2 (some .int) :: gTab) rX4_placeOf (PcM D cA z0 σ [.int x0, .int x1]) (va_Qi Q (BM D cA z0) (AM z0)) 0 0 (AM z0) :=
  met_of (by decide) (Nat.le_of_ble_eq_true rfl) (fun hX hlk hr hn hw hl => wX4_placeOf hX hlk hr h hw hl)
abbrev rX5_init : Room := { frames := 1, cells := 0, slots := 0, locals := 20 }
def pX5_init (σ : Me) (a0 : Nat) (Q : Me → Prop) : Prop := Q σ
set_option maxHeartbeats 4000000 in
set_option maxRecDepth 100000 in
theorem wX5_init {p : Program} {l : Launch} {e : Env} {s : State} {m : MethodId} {args : Array Value} {below : List Frame} {meth : Method} {c : Code} {D : va_G} {cA : Nat → ClassId} {z0 : Nat} (hX : Cx p m c cX5_init 1 s args RX5 D cA) (hlk : meth.locks = false) (hr : meth.sig.returnType = none) (hin : meth.name = "<init>") {σ : Me} {a0 : Nat} {Q : Me → Prop} (h : pX5_init σ a0 Q) {H : Heap} {locs : List Loc} {ls : Array Slot} (hw : wS D cA z0 s σ H locs) (hl : lv_has ls 1 [(0, .ref a0)]) : W p l e rX5_init s m args below meth c H locs 0 0 (MQ below (va_Qv Q (BM D cA z0) (AM z0)) args s 0 0 (AM z0)) (F0 m 0 ls []) := by
  have hx := hX.1.1
  have hb := hX.1.2.1
  have hown := hX.1.2.2.2.1
  have hts := hX.1.2.2.2.2
  unfold pX5_init at h
  refine lv_aload_n hx hb dX5_init_0 rfl (lv_at hl 0 rfl) ?_
  refine m_objInit hX k_385 hl.1 dX5_init_1 (Nat.le_of_ble_eq_true rfl) (Nat.le_of_ble_eq_true rfl) ?_
  exact m_vret hX hlk hr hw h dX5_init_4
theorem mtX5_init : Mth yX5_init cX5_init 1 none 0 := ⟨k_384, k_52, by decide +kernel⟩
theorem tX5_init {l : Launch} {D : va_G} {cA : Nat → ClassId} {z0 : Nat} {σ : Me} {a0 : Nat} {Q : Me → Prop} (h : pX5_init σ a0 Q) : Met l yX5_init (Cond.code yX5_init cX5_init 1 none :: gTab) rX5_init (PcM D cA z0 σ [.ref a0]) (va_Qv Q (BM D cA z0) (AM z0)) 0 0 (AM z0) :=
  met_of (by decide) (Nat.le_of_ble_eq_true rfl) (fun hX hlk hr hn hw hl => wX5_init hX hlk hr hn h hw hl)
abbrev rX5_topMark : Room := { frames := 0, cells := 0, slots := 0, locals := 0 }
def pX5_topMark (σ : Me) (a0 : Nat) (Q : Int32 → Me → Prop) : Prop := Q ((-9 : Int32)) σ
set_option maxHeartbeats 4000000 in
set_option maxRecDepth 100000 in
theorem wX5_topMark {p : Program} {l : Launch} {e : Env} {s : State} {m : MethodId} {args : Array Value} {below : List Frame} {meth : Method} {c : Code} {D : va_G} {cA : Nat → ClassId} {z0 : Nat} (hX : Cx p m c cX5_topMark 1 s args RX5 D cA) (hlk : meth.locks = false) (hr : meth.sig.returnType = (some .int)) {σ : Me} {a0 : Nat} {Q : Int32 → Me → Prop} (h : pX5_topMark σ a0 Q) {H : Heap} {locs : List Loc} {ls : Array Slot} (hw : wS D cA z0 s σ H locs) (hl : lv_has ls 1 [(0, .ref a0)]) : W p l e rX5_topMark s m args below meth c H locs 0 0 (MQ below (va_Qi Q (BM D cA z0) (AM z0)) args s 0 0 (AM z0)) (F0 m 0 ls []) := by
  have hx := hX.1.1
  have hb := hX.1.2.1
  have hown := hX.1.2.2.2.1
  have hts := hX.1.2.2.2.2
  unfold pX5_topMark at h
  refine lv_bipush (v := (-9)) hx hb dX5_topMark_0 (by decide) ?_
  exact m_iret hX hlk hr hw h dX5_topMark_2
theorem mtX5_topMark : Mth yX5_topMark cX5_topMark 1 (some .int) 0 := ⟨k_488, k_52, by decide +kernel⟩
theorem tX5_topMark {l : Launch} {D : va_G} {cA : Nat → ClassId} {z0 : Nat} {σ : Me} {a0 : Nat} {Q : Int32 → Me → Prop} (h : pX5_topMark σ a0 Q) : Met l yX5_topMark (Cond.code yX5_topMark cX5_topMark 1 (some .int) :: gTab) rX5_topMark (PcM D cA z0 σ [.ref a0]) (va_Qi Q (BM D cA z0) (AM z0)) 0 0 (AM z0) :=
  met_of (by decide) (Nat.le_of_ble_eq_true rfl) (fun hX hlk hr hn hw hl => wX5_topMark hX hlk hr h hw hl)
abbrev rX5_lowMark : Room := { frames := 0, cells := 0, slots := 0, locals := 0 }
def pX5_lowMark (σ : Me) (a0 : Nat) (Q : Int32 → Me → Prop) : Prop := Q ((-9 : Int32)) σ
set_option maxHeartbeats 4000000 in
set_option maxRecDepth 100000 in
theorem wX5_lowMark {p : Program} {l : Launch} {e : Env} {s : State} {m : MethodId} {args : Array Value} {below : List Frame} {meth : Method} {c : Code} {D : va_G} {cA : Nat → ClassId} {z0 : Nat} (hX : Cx p m c cX5_lowMark 1 s args RX5 D cA) (hlk : meth.locks = false) (hr : meth.sig.returnType = (some .int)) {σ : Me} {a0 : Nat} {Q : Int32 → Me → Prop} (h : pX5_lowMark σ a0 Q) {H : Heap} {locs : List Loc} {ls : Array Slot} (hw : wS D cA z0 s σ H locs) (hl : lv_has ls 1 [(0, .ref a0)]) : W p l e rX5_lowMark s m args below meth c H locs 0 0 (MQ below (va_Qi Q (BM D cA z0) (AM z0)) args s 0 0 (AM z0)) (F0 m 0 ls []) := by
  have hx := hX.1.1
  have hb := hX.1.2.1
  have hown := hX.1.2.2.2.1
  have hts := hX.1.2.2.2.2
  unfold pX5_lowMark at h
  refine lv_bipush (v := (-9)) hx hb dX5_lowMark_0 (by decide) ?_
  exact m_iret hX hlk hr hw h dX5_lowMark_2
theorem mtX5_lowMark : Mth yX5_lowMark cX5_lowMark 1 (some .int) 0 := ⟨k_500, k_52, by decide +kernel⟩
theorem tX5_lowMark {l : Launch} {D : va_G} {cA : Nat → ClassId} {z0 : Nat} {σ : Me} {a0 : Nat} {Q : Int32 → Me → Prop} (h : pX5_lowMark σ a0 Q) : Met l yX5_lowMark (Cond.code yX5_lowMark cX5_lowMark 1 (some .int) :: gTab) rX5_lowMark (PcM D cA z0 σ [.ref a0]) (va_Qi Q (BM D cA z0) (AM z0)) 0 0 (AM z0) :=
  met_of (by decide) (Nat.le_of_ble_eq_true rfl) (fun hX hlk hr hn hw hl => wX5_lowMark hX hlk hr h hw hl)
abbrev rX5_lotSize : Room := { frames := 0, cells := 0, slots := 0, locals := 0 }
def pX5_lotSize (σ : Me) (a0 : Nat) (Q : Int32 → Me → Prop) : Prop := Q ((-9 : Int32)) σ
set_option maxHeartbeats 4000000 in
set_option maxRecDepth 100000 in
theorem wX5_lotSize {p : Program} {l : Launch} {e : Env} {s : State} {m : MethodId} {args : Array Value} {below : List Frame} {meth : Method} {c : Code} {D : va_G} {cA : Nat → ClassId} {z0 : Nat} (hX : Cx p m c cX5_lotSize 1 s args RX5 D cA) (hlk : meth.locks = false) (hr : meth.sig.returnType = (some .int)) {σ : Me} {a0 : Nat} {Q : Int32 → Me → Prop} (h : pX5_lotSize σ a0 Q) {H : Heap} {locs : List Loc} {ls : Array Slot} (hw : wS D cA z0 s σ H locs) (hl : lv_has ls 1 [(0, .ref a0)]) : W p l e rX5_lotSize s m args below meth c H locs 0 0 (MQ below (va_Qi Q (BM D cA z0) (AM z0)) args s 0 0 (AM z0)) (F0 m 0 ls []) := by
  have hx := hX.1.1
  have hb := hX.1.2.1
  have hown := hX.1.2.2.2.1
  have hts := hX.1.2.2.2.2
  unfold pX5_lotSize at h
  refine lv_bipush (v := (-9)) hx hb dX5_lotSize_0 (by decide) ?_
  exact m_iret hX hlk hr hw h dX5_lotSize_2
theorem mtX5_lotSize : Mth yX5_lotSize cX5_lotSize 1 (some .int) 0 := ⟨k_510, k_52, by decide +kernel⟩
theorem tX5_lotSize {l : Launch} {D : va_G} {cA : Nat → ClassId} {z0 : Nat} {σ : Me} {a0 : Nat} {Q : Int32 → Me → Prop} (h : pX5_lotSize σ a0 Q) : Met l yX5_lotSize (Cond.code yX5_lotSize cX5_lotSize 1 (some .int) :: gTab) rX5_lotSize (PcM D cA z0 σ [.ref a0]) (va_Qi Q (BM D cA z0) (AM z0)) 0 0 (AM z0) :=
  met_of (by decide) (Nat.le_of_ble_eq_true rfl) (fun hX hlk hr hn hw hl => wX5_lotSize hX hlk hr h hw hl)
abbrev rX5_tableSize : Room := { frames := 0, cells := 0, slots := 0, locals := 0 }
def pX5_tableSize (σ : Me) (a0 : Nat) (Q : Int32 → Me → Prop) : Prop := Q ((-9 : Int32)) σ
set_option maxHeartbeats 4000000 in
set_option maxRecDepth 100000 in
theorem wX5_tableSize {p : Program} {l : Launch} {e : Env} {s : State} {m : MethodId} {args : Array Value} {below : List Frame} {meth : Method} {c : Code} {D : va_G} {cA : Nat → ClassId} {z0 : Nat} (hX : Cx p m c cX5_tableSize 1 s args RX5 D cA) (hlk : meth.locks = false) (hr : meth.sig.returnType = (some .int)) {σ : Me} {a0 : Nat} {Q : Int32 → Me → Prop} (h : pX5_tableSize σ a0 Q) {H : Heap} {locs : List Loc} {ls : Array Slot} (hw : wS D cA z0 s σ H locs) (hl : lv_has ls 1 [(0, .ref a0)]) : W p l e rX5_tableSize s m args below meth c H locs 0 0 (MQ below (va_Qi Q (BM D cA z0) (AM z0)) args s 0 0 (AM z0)) (F0 m 0 ls []) := by
  have hx := hX.1.1
  have hb := hX.1.2.1
  have hown := hX.1.2.2.2.1
  have hts := hX.1.2.2.2.2
  unfold pX5_tableSize at h
  refine lv_bipush (v := (-9)) hx hb dX5_tableSize_0 (by decide) ?_
  exact m_iret hX hlk hr hw h dX5_tableSize_2
theorem mtX5_tableSize : Mth yX5_tableSize cX5_tableSize 1 (some .int) 0 := ⟨k_520, k_52, by decide +kernel⟩
theorem tX5_tableSize {l : Launch} {D : va_G} {cA : Nat → ClassId} {z0 : Nat} {σ : Me} {a0 : Nat} {Q : Int32 → Me → Prop} (h : pX5_tableSize σ a0 Q) : Met l yX5_tableSize (Cond.code yX5_tableSize cX5_tableSize 1 (some .int) :: gTab) rX5_tableSize (PcM D cA z0 σ [.ref a0]) (va_Qi Q (BM D cA z0) (AM z0)) 0 0 (AM z0) :=
  met_of (by decide) (Nat.le_of_ble_eq_true rfl) (fun hX hlk hr hn hw hl => wX5_tableSize hX hlk hr h hw hl)
abbrev rX6_init : Room := { frames := 1, cells := 3, slots := 75, locals := 20 }
def pX6_init (σ : Me) (a0 : Nat) (Q : Me → Prop) : Prop := gT σ a0 = 6 ∧ ∀ σ2 : Me, σ2 = sI σ a0 0 ((12 : Int32)) → ∀ σ3 : Me, σ3 = sI σ2 a0 3 ((10 : Int32)) → ∀ σ4 : Me, σ4 = sI σ3 a0 4 ((1 : Int32)) → ∀ σ5 : Me, σ5 = sI σ4 a0 5 ((1 : Int32)) → ∀ σ6 : Me, σ6 = sI σ5 a0 6 ((5 : Int32)) → ∀ (b7 : Nat) (σ8 : Me), b7 = gz σ6 → σ8 = nw σ6 20 25 → gT σ8 a0 = 6 ∧ ∀ σ10 : Me, σ10 = sP σ8 a0 7 (some b7) → ∀ (b11 : Nat) (σ12 : Me), b11 = gz σ10 → σ12 = nw σ10 20 25 → gT σ12 a0 = 6 ∧ ∀ σ14 : Me, σ14 = sP σ12 a0 8 (some b11) → ∀ (b15 : Nat) (σ16 : Me), b15 = gz σ14 → σ16 = nw σ14 20 25 → gT σ16 a0 = 6 ∧ ∀ σ18 : Me, σ18 = sP σ16 a0 9 (some b15) → Q σ18
set_option maxHeartbeats 4000000 in
set_option maxRecDepth 100000 in
theorem wX6_init {p : Program} {l : Launch} {e : Env} {s : State} {m : MethodId} {args : Array Value} {below : List Frame} {meth : Method} {c : Code} {D : va_G} {cA : Nat → ClassId} {z0 : Nat} (hX : Cx p m c cX6_init 1 s args RX6 D cA) (hlk : meth.locks = false) (hr : meth.sig.returnType = none) (hin : meth.name = "<init>") {σ : Me} {a0 : Nat} {Q : Me → Prop} (h : pX6_init σ a0 Q) {H : Heap} {locs : List Loc} {ls : Array Slot} (hw : wS D cA z0 s σ H locs) (hl : lv_has ls 1 [(0, .ref a0)]) : W p l e rX6_init s m args below meth c H locs 0 0 (MQ below (va_Qv Q (BM D cA z0) (AM z0)) args s 3 75 (AM z0)) (F0 m 0 ls []) := by
  have hx := hX.1.1
  have hb := hX.1.2.1
  have hown := hX.1.2.2.2.1
  have hts := hX.1.2.2.2.2
  unfold pX6_init at h
  refine lv_aload_n hx hb dX6_init_0 rfl (lv_at hl 0 rfl) ?_
  refine m_objInit hX k_77 hl.1 dX6_init_1 (Nat.le_of_ble_eq_true rfl) (Nat.le_of_ble_eq_true rfl) ?_
  refine lv_aload_n hx hb dX6_init_4 rfl (lv_at hl 0 rfl) ?_
  refine lv_bipush (v := 12) hx hb dX6_init_5 (by decide) ?_
  obtain ⟨hT1, h⟩ := h
  refine m_putI hX hw cl6 hT1 0 (by decide) k_78 (fun _ h => h) rfl rfl dX6_init_7 (fun H locs hw => ?_)
  let σ2 : Me := sI σ a0 0 ((12 : Int32))
  have h := h σ2 rfl
  have hw : wS D cA z0 s σ2 H locs := hw
  refine lv_aload_n hx hb dX6_init_10 rfl (lv_at hl 0 rfl) ?_
  refine lv_bipush (v := 10) hx hb dX6_init_11 (by decide) ?_
  refine m_putI hX hw cl6 hT1 3 (by decide) k_86 (fun _ h => h) rfl rfl dX6_init_13 (fun H locs hw => ?_)
  let σ3 : Me := sI σ2 a0 3 ((10 : Int32))
  have h := h σ3 rfl
  have hw : wS D cA z0 s σ3 H locs := hw
  refine lv_aload_n hx hb dX6_init_16 rfl (lv_at hl 0 rfl) ?_
  refine lv_iconst (v := 1) hx hb dX6_init_17 (by decide) ?_
  refine m_putI hX hw cl6 hT1 4 (by decide) k_88 (fun _ h => h) rfl rfl dX6_init_18 (fun H locs hw => ?_)
  let σ4 : Me := sI σ3 a0 4 ((1 : Int32))
  have h := h σ4 rfl
  have hw : wS D cA z0 s σ4 H locs := hw
  refine lv_aload_n hx hb dX6_init_21 rfl (lv_at hl 0 rfl) ?_
  refine lv_iconst (v := 1) hx hb dX6_init_22 (by decide) ?_
  refine m_putI hX hw cl6 hT1 5 (by decide) k_90 (fun _ h => h) rfl rfl dX6_init_23 (fun H locs hw => ?_)
  let σ5 : Me := sI σ4 a0 5 ((1 : Int32))
  have h := h σ5 rfl
  have hw : wS D cA z0 s σ5 H locs := hw
  refine lv_aload_n hx hb dX6_init_26 rfl (lv_at hl 0 rfl) ?_
  refine lv_iconst (v := 5) hx hb dX6_init_27 (by decide) ?_
  refine m_putI hX hw cl6 hT1 6 (by decide) k_92 (fun _ h => h) rfl rfl dX6_init_28 (fun H locs hw => ?_)
  let σ6 : Me := sI σ5 a0 6 ((5 : Int32))
  have h := h σ6 rfl
  have hw : wS D cA z0 s σ6 H locs := hw
  refine lv_aload_n hx hb dX6_init_31 rfl (lv_at hl 0 rfl) ?_
  refine lv_bipush (v := 25) hx hb dX6_init_32 (by decide) ?_
  refine m_newa hX hw (t := 0) (by decide) rfl k_119 (N' := 25) (by decide) (by decide) (by decide) ⟨Nat.le_of_ble_eq_true rfl, Nat.le_of_ble_eq_true rfl⟩ dX6_init_34 (fun H hw => ?_)
  let b7 : Nat := gz σ6
  let σ8 : Me := nw σ6 20 25
  have h := h b7 σ8 rfl rfl
  have hw : wS D cA z0 s σ8 H locs := hw
  obtain ⟨hT9, h⟩ := h
  refine m_putFP hX hin hw cl6 hT9 7 (by decide) k_94 (fun _ h => h) rfl rfl rfl rfl rfl dX6_init_36 (fun H locs hw => ?_)
  let σ10 : Me := sP σ8 a0 7 (some b7)
  have h := h σ10 rfl
  have hw : wS D cA z0 s σ10 H locs := hw
  refine lv_aload_n hx hb dX6_init_39 rfl (lv_at hl 0 rfl) ?_
  refine lv_bipush (v := 25) hx hb dX6_init_40 (by decide) ?_
  refine m_newa hX hw (t := 0) (by decide) rfl k_119 (N' := 25) (by decide) (by decide) (by decide) ⟨Nat.le_of_ble_eq_true rfl, Nat.le_of_ble_eq_true rfl⟩ dX6_init_42 (fun H hw => ?_)
  let b11 : Nat := gz σ10
  let σ12 : Me := nw σ10 20 25
  have h := h b11 σ12 rfl rfl
  have hw : wS D cA z0 s σ12 H locs := hw
  obtain ⟨hT13, h⟩ := h
  refine m_putFP hX hin hw cl6 hT13 8 (by decide) k_95 (fun _ h => h) rfl rfl rfl rfl rfl dX6_init_44 (fun H locs hw => ?_)
  let σ14 : Me := sP σ12 a0 8 (some b11)
  have h := h σ14 rfl
  have hw : wS D cA z0 s σ14 H locs := hw
  refine lv_aload_n hx hb dX6_init_47 rfl (lv_at hl 0 rfl) ?_
  refine lv_bipush (v := 25) hx hb dX6_init_48 (by decide) ?_
  refine m_newa hX hw (t := 0) (by decide) rfl k_119 (N' := 25) (by decide) (by decide) (by decide) ⟨Nat.le_of_ble_eq_true rfl, Nat.le_of_ble_eq_true rfl⟩ dX6_init_50 (fun H hw => ?_)
  let b15 : Nat := gz σ14
  let σ16 : Me := nw σ14 20 25
  have h := h b15 σ16 rfl rfl
  have hw : wS D cA z0 s σ16 H locs := hw
  obtain ⟨hT17, h⟩ := h
  refine m_putFP hX hin hw cl6 hT17 9 (by decide) k_96 (fun _ h => h) rfl rfl rfl rfl rfl dX6_init_52 (fun H locs hw => ?_)
  let σ18 : Me := sP σ16 a0 9 (some b15)
  have h := h σ18 rfl
  have hw : wS D cA z0 s σ18 H locs := hw
  refine W.widen (k := 3) (n := 75) (Nat.le_of_ble_eq_true rfl) (Nat.le_of_ble_eq_true rfl) ?_
  exact m_vret hX hlk hr hw h dX6_init_55
theorem mtX6_init : Mth yX6_init cX6_init 1 none 0 := ⟨k_76, k_44, by decide +kernel⟩
theorem tX6_init {l : Launch} {D : va_G} {cA : Nat → ClassId} {z0 : Nat} {σ : Me} {a0 : Nat} {Q : Me → Prop} (h : pX6_init σ a0 Q) : Met l yX6_init (Cond.code yX6_init cX6_init 1 none :: gTab) rX6_init (PcM D cA z0 σ [.ref a0]) (va_Qv Q (BM D cA z0) (AM z0)) 3 75 (AM z0) :=
  met_of (by decide) (Nat.le_of_ble_eq_true rfl) (fun hX hlk hr hn hw hl => wX6_init hX hlk hr hn h hw hl)
abbrev rX6_floor : Room := { frames := 0, cells := 0, slots := 0, locals := 0 }
def pX6_floor (σ : Me) (a0 : Nat) (Q : Int32 → Me → Prop) : Prop := gT σ a0 = 6 ∧ ∀ v_2 : Int32, v_2 = (if (gI σ a0 2) = 0 then ((0 : Int32)) else ((-12 : Int32))) → Q v_2 σ
set_option maxHeartbeats 4000000 in
set_option maxRecDepth 100000 in
theorem wX6_floor {p : Program} {l : Launch} {e : Env} {s : State} {m : MethodId} {args : Array Value} {below : List Frame} {meth : Method} {c : Code} {D : va_G} {cA : Nat → ClassId} {z0 : Nat} (hX : Cx p m c cX6_floor 1 s args RX6 D cA) (hlk : meth.locks = false) (hr : meth.sig.returnType = (some .int)) {σ : Me} {a0 : Nat} {Q : Int32 → Me → Prop} (h : pX6_floor σ a0 Q) {H : Heap} {locs : List Loc} {ls : Array Slot} (hw : wS D cA z0 s σ H locs) (hl : lv_has ls 1 [(0, .ref a0)]) : W p l e rX6_floor s m args below meth c H locs 0 0 (MQ below (va_Qi Q (BM D cA z0) (AM z0)) args s 0 0 (AM z0)) (F0 m 0 ls []) := by
  have hx := hX.1.1
  have hb := hX.1.2.1
  have hown := hX.1.2.2.2.1
  have hts := hX.1.2.2.2.2
  unfold pX6_floor at h
  refine lv_aload_n hx hb dX6_floor_0 rfl (lv_at hl 0 rfl) ?_
  obtain ⟨hT1, h⟩ := h
  refine m_get hX hw cl6 hT1 2 (by decide) k_84 (fun _ h => h) (v := .int _) rfl dX6_floor_1 ?_
  have kM3 : ∀ (v_2 : Int32) (ls : Array Slot), v_2 = (if (gI σ a0 2) = 0 then ((0 : Int32)) else ((-12 : Int32))) → lv_has ls 1 [] → W p l e rX6_floor s m args below meth c H locs 0 0 (MQ below (va_Qi Q (BM D cA z0) (AM z0)) args s 0 0 (AM z0)) (F0 m 13 ls [.int v_2]) := by
    intro v_2 ls e_v_2 hl
    have h := h v_2 e_v_2
    exact m_iret hX hlk hr hw h dX6_floor_13
  refine lv_if_eq (tgt := 12) hx hb dX6_floor_4 (by decide) (fun hc4 => ?_) (fun hc4 => ?_)
  · refine lv_iconst (v := 0) hx hb dX6_floor_12 (by decide) ?_
    exact kM3 _ _ (by first | rfl | rw [if_pos hc4] | simp only [if_pos hc4]) (lv_sub hl [] rfl)
  · refine lv_bipush (v := (-12)) hx hb dX6_floor_7 (by decide) ?_
    refine lv_goto (tgt := 13) hx hb dX6_floor_9 (by decide) ?_
    exact kM3 _ _ (by first | rfl | rw [if_neg hc4] | simp only [if_neg hc4]) (lv_sub hl [] rfl)
theorem mtX6_floor : Mth yX6_floor cX6_floor 1 (some .int) 0 := ⟨k_580, k_44, by decide +kernel⟩
theorem tX6_floor {l : Launch} {D : va_G} {cA : Nat → ClassId} {z0 : Nat} {σ : Me} {a0 : Nat} {Q : Int32 → Me → Prop} (h : pX6_floor σ a0 Q) : Met l yX6_floor (Cond.code yX6_floor cX6_floor 1 (some .int) :: gTab) rX6_floor (PcM D cA z0 σ [.ref a0]) (va_Qi Q (BM D cA z0) (AM z0)) 0 0 (AM z0) :=
  met_of (by decide) (Nat.le_of_ble_eq_true rfl) (fun hX hlk hr hn hw hl => wX6_floor hX hlk hr h hw hl)
abbrev rX6_filled : Room := { frames := 1, cells := 0, slots := 0, locals := 21 }
def pX6_filled (σ : Me) (a0 : Nat) (x1 : Int32) (x2 : Int32) (Q : Int32 → Me → Prop) : Prop := gT σ a0 = 6 ∧ Q (if (gI σ a0 0) < (x1 + x2) then (gI σ a0 0) else (x1 + x2)) σ
set_option maxHeartbeats 4000000 in
set_option maxRecDepth 100000 in
theorem wX6_filled {p : Program} {l : Launch} {e : Env} {s : State} {m : MethodId} {args : Array Value} {below : List Frame} {meth : Method} {c : Code} {D : va_G} {cA : Nat → ClassId} {z0 : Nat} (hX : Cx p m c cX6_filled 3 s args RX6 D cA) (hlk : meth.locks = false) (hr : meth.sig.returnType = (some .int)) {σ : Me} {a0 : Nat} {x1 : Int32} {x2 : Int32} {Q : Int32 → Me → Prop} (h : pX6_filled σ a0 x1 x2 Q) {H : Heap} {locs : List Loc} {ls : Array Slot} (hw : wS D cA z0 s σ H locs) (hl : lv_has ls 3 [(0, .ref a0), (1, .int x1), (2, .int x2)]) : W p l e rX6_filled s m args below meth c H locs 0 0 (MQ below (va_Qi Q (BM D cA z0) (AM z0)) args s 0 0 (AM z0)) (F0 m 0 ls []) := by
  have hx := hX.1.1
  have hb := hX.1.2.1
  have hown := hX.1.2.2.2.1
  have hts := hX.1.2.2.2.2
  unfold pX6_filled at h
  refine lv_iload_n hx hb dX6_filled_0 rfl (lv_at hl 1 rfl) ?_
  refine lv_iload_n hx hb dX6_filled_1 rfl (lv_at hl 2 rfl) ?_
  refine lv_iadd hx hb dX6_filled_2 ?_
  refine lv_aload_n hx hb dX6_filled_3 rfl (lv_at hl 0 rfl) ?_
  obtain ⟨hT1, h⟩ := h
  refine m_get hX hw cl6 hT1 0 (by decide) k_78 (fun _ h => h) (v := .int _) rfl dX6_filled_4 ?_
  refine m_min hX k_597 hl.1 (Nat.le_of_ble_eq_true rfl) (Nat.le_of_ble_eq_true rfl) ⟨Nat.le_of_ble_eq_true rfl, Nat.le_of_ble_eq_true rfl⟩ dX6_filled_7 ?_
  exact m_iret hX hlk hr hw h dX6_filled_10
theorem mtX6_filled : Mth yX6_filled cX6_filled 3 (some .int) 2 := ⟨k_661, k_44, by decide +kernel⟩
theorem tX6_filled {l : Launch} {D : va_G} {cA : Nat → ClassId} {z0 : Nat} {σ : Me} {a0 : Nat} {x1 : Int32} {x2 : Int32} {Q : Int32 → Me → Prop} (h : pX6_filled σ a0 x1 x2 Q) : Met l yX6_filled (Cond.code yX6_filled cX6_filled 3 (some .int) :: gTab) rX6_filled (PcM D cA z0 σ [.ref a0, .int x1, .int x2]) (va_Qi Q (BM D cA z0) (AM z0)) 0 0 (AM z0) :=
  met_of (by decide) (Nat.le_of_ble_eq_true rfl) (fun hX hlk hr hn hw hl => wX6_filled hX hlk hr h hw hl)
abbrev rX6_leftOf : Room := { frames := 1, cells := 0, slots := 0, locals := 21 }
def pX6_leftOf (σ : Me) (a0 : Nat) (x1 : Int32) (x2 : Int32) (Q : Int32 → Me → Prop) : Prop := gT σ a0 = 6 ∧ ∀ v_2 : Int32, v_2 = (if (gI σ a0 2) = 0 then ((0 : Int32)) else ((-12 : Int32))) → Q (if (x1 - x2) < v_2 then v_2 else (x1 - x2)) σ
set_option maxHeartbeats 4000000 in
set_option maxRecDepth 100000 in
theorem wX6_leftOf {p : Program} {l : Launch} {e : Env} {s : State} {m : MethodId} {args : Array Value} {below : List Frame} {meth : Method} {c : Code} {D : va_G} {cA : Nat → ClassId} {z0 : Nat} (hX : Cx p m c cX6_leftOf 3 s args RX6 D cA) (hlk : meth.locks = false) (hr : meth.sig.returnType = (some .int)) {σ : Me} {a0 : Nat} {x1 : Int32} {x2 : Int32} {Q : Int32 → Me → Prop} (h : pX6_leftOf σ a0 x1 x2 Q) {H : Heap} {locs : List Loc} {ls : Array Slot} (hw : wS D cA z0 s σ H locs) (hl : lv_has ls 3 [(0, .ref a0), (1, .int x1), (2, .int x2)]) : W p l e rX6_leftOf s m args below meth c H locs 0 0 (MQ below (va_Qi Q (BM D cA z0) (AM z0)) args s 0 0 (AM z0)) (F0 m 0 ls []) := by
  have hx := hX.1.1
  have hb := hX.1.2.1
  have hown := hX.1.2.2.2.1
  have hts := hX.1.2.2.2.2
  unfold pX6_leftOf at h
  refine lv_iload_n hx hb dX6_leftOf_0 rfl (lv_at hl 1 rfl) ?_
  refine lv_iload_n hx hb dX6_leftOf_1 rfl (lv_at hl 2 rfl) ?_
  refine lv_isub hx hb dX6_leftOf_2 ?_
  refine lv_aload_n hx hb dX6_leftOf_3 rfl (lv_at hl 0 rfl) ?_
  obtain ⟨hT1, h⟩ := h
  refine m_get hX hw cl6 hT1 2 (by decide) k_84 (fun _ h => h) (v := .int _) rfl dX6_leftOf_4 ?_
  have kM3 : ∀ (v_2 : Int32) (ls : Array Slot), v_2 = (if (gI σ a0 2) = 0 then ((0 : Int32)) else ((-12 : Int32))) → lv_has ls 3 [] → W p l e rX6_leftOf s m args below meth c H locs 0 0 (MQ below (va_Qi Q (BM D cA z0) (AM z0)) args s 0 0 (AM z0)) (F0 m 16 ls [.int v_2, .int (x1 - x2)]) := by
    intro v_2 ls e_v_2 hl
    have h := h v_2 e_v_2
    refine m_max hX k_596 hl.1 (Nat.le_of_ble_eq_true rfl) (Nat.le_of_ble_eq_true rfl) ⟨Nat.le_of_ble_eq_true rfl, Nat.le_of_ble_eq_true rfl⟩ dX6_leftOf_16 ?_
    exact m_iret hX hlk hr hw h dX6_leftOf_19
  refine lv_if_eq (tgt := 15) hx hb dX6_leftOf_7 (by decide) (fun hc4 => ?_) (fun hc4 => ?_)
  · refine lv_iconst (v := 0) hx hb dX6_leftOf_15 (by decide) ?_
    exact kM3 _ _ (by first | rfl | rw [if_pos hc4] | simp only [if_pos hc4]) (lv_sub hl [] rfl)
  · refine lv_bipush (v := (-12)) hx hb dX6_leftOf_10 (by decide) ?_
    refine lv_goto (tgt := 16) hx hb dX6_leftOf_12 (by decide) ?_
    exact kM3 _ _ (by first | rfl | rw [if_neg hc4] | simp only [if_neg hc4]) (lv_sub hl [] rfl)
theorem mtX6_leftOf : Mth yX6_leftOf cX6_leftOf 3 (some .int) 2 := ⟨k_601, k_44, by decide +kernel⟩
theorem tX6_leftOf {l : Launch} {D : va_G} {cA : Nat → ClassId} {z0 : Nat} {σ : Me} {a0 : Nat} {x1 : Int32} {x2 : Int32} {Q : Int32 → Me → Prop} (h : pX6_leftOf σ a0 x1 x2 Q) : Met l yX6_leftOf (Cond.code yX6_leftOf cX6_leftOf 3 (some .int) :: gTab) rX6_leftOf (PcM D cA z0 σ [.ref a0, .int x1, .int x2]) (va_Qi Q (BM D cA z0) (AM z0)) 0 0 (AM z0) :=
  met_of (by decide) (Nat.le_of_ble_eq_true rfl) (fun hX hlk hr hn hw hl => wX6_leftOf hX hlk hr h hw hl)
abbrev rX6_orderPrice : Room := { frames := 0, cells := 0, slots := 0, locals := 0 }
def pX6_orderPrice (σ : Me) (a0 : Nat) (x1 : Int32) (Q : Int32 → Me → Prop) : Prop := gT σ a0 = 6 ∧ ∀ v_3 : Int32, v_3 = (if x1 ≤ 0 then ((0 : Int32)) else ((gI σ a0 3) + ((gI σ a0 4) * x1))) → Q v_3 σ
set_option maxHeartbeats 4000000 in
set_option maxRecDepth 100000 in
theorem wX6_orderPrice {p : Program} {l : Launch} {e : Env} {s : State} {m : MethodId} {args : Array Value} {below : List Frame} {meth : Method} {c : Code} {D : va_G} {cA : Nat → ClassId} {z0 : Nat} (hX : Cx p m c cX6_orderPrice 2 s args RX6 D cA) (hlk : meth.locks = false) (hr : meth.sig.returnType = (some .int)) {σ : Me} {a0 : Nat} {x1 : Int32} {Q : Int32 → Me → Prop} (h : pX6_orderPrice σ a0 x1 Q) {H : Heap} {locs : List Loc} {ls : Array Slot} (hw : wS D cA z0 s σ H locs) (hl : lv_has ls 2 [(0, .ref a0), (1, .int x1)]) : W p l e rX6_orderPrice s m args below meth c H locs 0 0 (MQ below (va_Qi Q (BM D cA z0) (AM z0)) args s 0 0 (AM z0)) (F0 m 0 ls []) := by
  have hx := hX.1.1
  have hb := hX.1.2.1
  have hown := hX.1.2.2.2.1
  have hts := hX.1.2.2.2.2
  unfold pX6_orderPrice at h
  refine lv_iload_n hx hb dX6_orderPrice_0 rfl (lv_at hl 1 rfl) ?_
  obtain ⟨hT2, h⟩ := h
  have kM4 : ∀ (v_3 : Int32) (ls : Array Slot), v_3 = (if x1 ≤ 0 then ((0 : Int32)) else ((gI σ a0 3) + ((gI σ a0 4) * x1))) → lv_has ls 2 [] → W p l e rX6_orderPrice s m args below meth c H locs 0 0 (MQ below (va_Qi Q (BM D cA z0) (AM z0)) args s 0 0 (AM z0)) (F0 m 19 ls [.int v_3]) := by
    intro v_3 ls e_v_3 hl
    have h := h v_3 e_v_3
    exact m_iret hX hlk hr hw h dX6_orderPrice_19
  refine lv_if_le (tgt := 18) hx hb dX6_orderPrice_1 (by decide) (fun hc5 => ?_) (fun hc5 => ?_)
  · refine lv_iconst (v := 0) hx hb dX6_orderPrice_18 (by decide) ?_
    exact kM4 _ _ (by first | rfl | rw [if_pos hc5] | simp only [if_pos hc5]) (lv_sub hl [] rfl)
  · refine lv_aload_n hx hb dX6_orderPrice_4 rfl (lv_at hl 0 rfl) ?_
    refine m_get hX hw cl6 hT2 3 (by decide) k_86 (fun _ h => h) (v := .int _) rfl dX6_orderPrice_5 ?_
    refine lv_aload_n hx hb dX6_orderPrice_8 rfl (lv_at hl 0 rfl) ?_
    refine m_get hX hw cl6 hT2 4 (by decide) k_88 (fun _ h => h) (v := .int _) rfl dX6_orderPrice_9 ?_
    refine lv_iload_n hx hb dX6_orderPrice_12 rfl (lv_at hl 1 rfl) ?_
    refine lv_imul hx hb dX6_orderPrice_13 ?_
    refine lv_iadd hx hb dX6_orderPrice_14 ?_
    refine lv_goto (tgt := 19) hx hb dX6_orderPrice_15 (by decide) ?_
    exact kM4 _ _ (by first | rfl | rw [if_neg hc5] | simp only [if_neg hc5]) (lv_sub hl [] rfl)
theorem mtX6_orderPrice : Mth yX6_orderPrice cX6_orderPrice 2 (some .int) 1 := ⟨k_669, k_44, by decide +kernel⟩
theorem tX6_orderPrice {l : Launch} {D : va_G} {cA : Nat → ClassId} {z0 : Nat} {σ : Me} {a0 : Nat} {x1 : Int32} {Q : Int32 → Me → Prop} (h : pX6_orderPrice σ a0 x1 Q) : Met l yX6_orderPrice (Cond.code yX6_orderPrice cX6_orderPrice 2 (some .int) :: gTab) rX6_orderPrice (PcM D cA z0 σ [.ref a0, .int x1]) (va_Qi Q (BM D cA z0) (AM z0)) 0 0 (AM z0) :=
  met_of (by decide) (Nat.le_of_ble_eq_true rfl) (fun hX hlk hr hn hw hl => wX6_orderPrice hX hlk hr h hw hl)
abbrev rX6_reckonDemand : Room := { frames := 2, cells := 0, slots := 0, locals := 43 }
def pX6_reckonDemand (σ : Me) (a0 : Nat) (x1 : Int32) (x2 : Int32) (x3 : Int32) (Q : Me → Prop) : Prop := ∀ x4_1 : Int32, x4_1 = (x1 + ((-12 : Int32))) → ∀ x5_2 : Int32, x5_2 = (if (if x4_1 < ((0 : Int32)) then ((0 : Int32)) else x4_1) < x2 then (if x4_1 < ((0 : Int32)) then ((0 : Int32)) else x4_1) else x2) → gT σ a0 = 6 ∧ pX6_leftOf σ a0 x4_1 x2 (fun r3 σ4 => ∀ x6_6 : Int32, x6_6 = (if r3 < ((0 : Int32)) then ((0 : Int32)) else r3) → gT σ4 a0 = 6 ∧ ∃ b8 : Nat, gP σ4 a0 7 = some b8 ∧ gT σ4 b8 = 20 ∧ vp_in x1 (gN σ4 b8) ∧ vp_in x1 (gN σ4 b8) ∧ ∀ σ12 : Me, σ12 = sI σ4 b8 x1.toNatClampNeg ((gI σ4 b8 x1.toNatClampNeg) + (x3 * (((gI σ4 a0 5) * x6_6) + ((gI σ4 a0 6) * (x2 - x5_2))))) → ∃ b13 : Nat, gP σ12 a0 8 = some b13 ∧ gT σ12 b13 = 20 ∧ vp_in x1 (gN σ12 b13) ∧ vp_in x1 (gN σ12 b13) ∧ ∀ σ17 : Me, σ17 = sI σ12 b13 x1.toNatClampNeg ((gI σ12 b13 x1.toNatClampNeg) + (x3 * x5_2)) → ∃ b18 : Nat, gP σ17 a0 9 = some b18 ∧ gT σ17 b18 = 20 ∧ vp_in x1 (gN σ17 b18) ∧ ∀ v_21 : Int32, v_21 = (if x6_6 ≤ 0 then ((0 : Int32)) else x3) → vp_in x1 (gN σ17 b18) ∧ ∀ σ24 : Me, σ24 = sI σ17 b18 x1.toNatClampNeg ((gI σ17 b18 x1.toNatClampNeg) + v_21) → Q σ24)
set_option maxHeartbeats 4000000 in
set_option maxRecDepth 100000 in
theorem wX6_reckonDemand {p : Program} {l : Launch} {e : Env} {s : State} {m : MethodId} {args : Array Value} {below : List Frame} {meth : Method} {c : Code} {D : va_G} {cA : Nat → ClassId} {z0 : Nat} (hX : Cx p m c cX6_reckonDemand 7 s args RX6 D cA) (hlk : meth.locks = false) (hr : meth.sig.returnType = none) {σ : Me} {a0 : Nat} {x1 : Int32} {x2 : Int32} {x3 : Int32} {Q : Me → Prop} (h : pX6_reckonDemand σ a0 x1 x2 x3 Q) {H : Heap} {locs : List Loc} {ls : Array Slot} (hw : wS D cA z0 s σ H locs) (hl : lv_has ls 7 [(0, .ref a0), (1, .int x1), (2, .int x2), (3, .int x3)]) : W p l e rX6_reckonDemand s m args below meth c H locs 0 0 (MQ below (va_Qv Q (BM D cA z0) (AM z0)) args s 0 0 (AM z0)) (F0 m 0 ls []) := by
  have hx := hX.1.1
  have hb := hX.1.2.1
  have hown := hX.1.2.2.2.1
  have hts := hX.1.2.2.2.2
  unfold pX6_reckonDemand at h
  refine lv_iload_n hx hb dX6_reckonDemand_0 rfl (lv_at hl 1 rfl) ?_
  refine lv_bipush (v := (-12)) hx hb dX6_reckonDemand_1 (by decide) ?_
  refine lv_iadd hx hb dX6_reckonDemand_3 ?_
  refine lv_topi (fun x4_1 e_x4_1 => ?_)
  have h := h x4_1 e_x4_1
  refine lv_istore (lv' := [(4, _), (0, _), (1, _), (2, _), (3, _)]) hx hb dX6_reckonDemand_4 hl (by decide) rfl (fun ls hl => ?_)
  refine lv_iload_n hx hb dX6_reckonDemand_6 rfl (lv_at hl 3 rfl) ?_
  refine lv_iload hx hb dX6_reckonDemand_7 (lv_at hl 0 rfl) ?_
  refine lv_iconst (v := 0) hx hb dX6_reckonDemand_9 (by decide) ?_
  refine m_max hX k_596 hl.1 (Nat.le_of_ble_eq_true rfl) (Nat.le_of_ble_eq_true rfl) ⟨Nat.le_of_ble_eq_true rfl, Nat.le_of_ble_eq_true rfl⟩ dX6_reckonDemand_10 ?_
  refine m_min hX k_597 hl.1 (Nat.le_of_ble_eq_true rfl) (Nat.le_of_ble_eq_true rfl) ⟨Nat.le_of_ble_eq_true rfl, Nat.le_of_ble_eq_true rfl⟩ dX6_reckonDemand_13 ?_
  refine lv_topi (fun x5_2 e_x5_2 => ?_)
  have h := h x5_2 e_x5_2
  refine lv_istore (lv' := [(5, _), (4, _), (0, _), (1, _), (2, _), (3, _)]) hx hb dX6_reckonDemand_16 hl (by decide) rfl (fun ls hl => ?_)
  refine lv_aload_n hx hb dX6_reckonDemand_18 rfl (lv_at hl 2 rfl) ?_
  refine lv_iload hx hb dX6_reckonDemand_19 (lv_at hl 1 rfl) ?_
  refine lv_iload_n hx hb dX6_reckonDemand_21 rfl (lv_at hl 4 rfl) ?_
  obtain ⟨hT5, h⟩ := h
  refine m_ci (m_runV (rest := []) hX hw (tX6_leftOf h) mtX6_leftOf k_598 ⟨k_599, k_600⟩ cl6 hT5 ⟨⟨rfl, rfl, Nat.le_of_ble_eq_true rfl, Nat.le_of_ble_eq_true rfl⟩, Nat.le_of_ble_eq_true rfl, Nat.le_of_ble_eq_true rfl⟩ rfl hl.1 rfl (Nat.le_of_ble_eq_true rfl) dX6_reckonDemand_22) hw (fun r3 σ4 H locs h hw => ?_)
  refine lv_iconst (v := 0) hx hb dX6_reckonDemand_25 (by decide) ?_
  refine m_max hX k_596 hl.1 (Nat.le_of_ble_eq_true rfl) (Nat.le_of_ble_eq_true rfl) ⟨Nat.le_of_ble_eq_true rfl, Nat.le_of_ble_eq_true rfl⟩ dX6_reckonDemand_26 ?_
  refine lv_topi (fun x6_6 e_x6_6 => ?_)
  have h := h x6_6 e_x6_6
  refine lv_istore (lv' := [(6, _), (5, _), (4, _), (0, _), (1, _), (2, _), (3, _)]) hx hb dX6_reckonDemand_29 hl (by decide) rfl (fun ls hl => ?_)
  refine lv_aload_n hx hb dX6_reckonDemand_31 rfl (lv_at hl 3 rfl) ?_
  obtain ⟨hT7, h⟩ := h
  obtain ⟨b8, hb8, h⟩ := h
  refine m_get hX hw cl6 hT7 7 (by decide) k_94 (fun _ h => h) (v := .ref b8) (congrArg va_rf hb8) dX6_reckonDemand_32 ?_
  refine lv_iload_n hx hb dX6_reckonDemand_35 rfl (lv_at hl 4 rfl) ?_
  refine lv_dup2_11 hx hb dX6_reckonDemand_36 rfl rfl ?_
  obtain ⟨hT9, h⟩ := h
  obtain ⟨hc10, h⟩ := h
  refine m_iald hX hw hT9 hc10 dX6_reckonDemand_37 ?_
  refine lv_iload_n hx hb dX6_reckonDemand_38 rfl (lv_at hl 6 rfl) ?_
  refine lv_aload_n hx hb dX6_reckonDemand_39 rfl (lv_at hl 3 rfl) ?_
  refine m_get hX hw cl6 hT7 5 (by decide) k_90 (fun _ h => h) (v := .int _) rfl dX6_reckonDemand_40 ?_
  refine lv_iload hx hb dX6_reckonDemand_43 (lv_at hl 0 rfl) ?_
  refine lv_imul hx hb dX6_reckonDemand_45 ?_
  refine lv_aload_n hx hb dX6_reckonDemand_46 rfl (lv_at hl 3 rfl) ?_
  refine m_get hX hw cl6 hT7 6 (by decide) k_92 (fun _ h => h) (v := .int _) rfl dX6_reckonDemand_47 ?_
  refine lv_iload_n hx hb dX6_reckonDemand_50 rfl (lv_at hl 5 rfl) ?_
  refine lv_iload hx hb dX6_reckonDemand_51 (lv_at hl 1 rfl) ?_
  refine lv_isub hx hb dX6_reckonDemand_53 ?_
  refine lv_imul hx hb dX6_reckonDemand_54 ?_
  refine lv_iadd hx hb dX6_reckonDemand_55 ?_
  refine lv_imul hx hb dX6_reckonDemand_56 ?_
  refine lv_iadd hx hb dX6_reckonDemand_57 ?_
  obtain ⟨hc11, h⟩ := h
  refine m_iast hX hw hT9 hc11 dX6_reckonDemand_58 (fun H locs hw => ?_)
  let σ12 : Me := sI σ4 b8 x1.toNatClampNeg ((gI σ4 b8 x1.toNatClampNeg) + (x3 * (((gI σ4 a0 5) * x6_6) + ((gI σ4 a0 6) * (x2 - x5_2)))))
  have h := h σ12 rfl
  have hw : wS D cA z0 s σ12 H locs := hw
  refine lv_aload_n hx hb dX6_reckonDemand_59 rfl (lv_at hl 3 rfl) ?_
  obtain ⟨b13, hb13, h⟩ := h
  refine m_get hX hw cl6 hT7 8 (by decide) k_95 (fun _ h => h) (v := .ref b13) (congrArg va_rf hb13) dX6_reckonDemand_60 ?_
  refine lv_iload_n hx hb dX6_reckonDemand_63 rfl (lv_at hl 4 rfl) ?_
  refine lv_dup2_11 hx hb dX6_reckonDemand_64 rfl rfl ?_
  obtain ⟨hT14, h⟩ := h
  obtain ⟨hc15, h⟩ := h
  refine m_iald hX hw hT14 hc15 dX6_reckonDemand_65 ?_
  refine lv_iload_n hx hb dX6_reckonDemand_66 rfl (lv_at hl 6 rfl) ?_
  refine lv_iload hx hb dX6_reckonDemand_67 (lv_at hl 1 rfl) ?_
  refine lv_imul hx hb dX6_reckonDemand_69 ?_
  refine lv_iadd hx hb dX6_reckonDemand_70 ?_
  obtain ⟨hc16, h⟩ := h
  refine m_iast hX hw hT14 hc16 dX6_reckonDemand_71 (fun H locs hw => ?_)
  let σ17 : Me := sI σ12 b13 x1.toNatClampNeg ((gI σ12 b13 x1.toNatClampNeg) + (x3 * x5_2))
  have h := h σ17 rfl
  have hw : wS D cA z0 s σ17 H locs := hw
  refine lv_aload_n hx hb dX6_reckonDemand_72 rfl (lv_at hl 3 rfl) ?_
  obtain ⟨b18, hb18, h⟩ := h
  refine m_get hX hw cl6 hT7 9 (by decide) k_96 (fun _ h => h) (v := .ref b18) (congrArg va_rf hb18) dX6_reckonDemand_73 ?_
  refine lv_iload_n hx hb dX6_reckonDemand_76 rfl (lv_at hl 4 rfl) ?_
  refine lv_dup2_11 hx hb dX6_reckonDemand_77 rfl rfl ?_
  obtain ⟨hT19, h⟩ := h
  obtain ⟨hc20, h⟩ := h
  refine m_iald hX hw hT19 hc20 dX6_reckonDemand_78 ?_
  refine lv_iload hx hb dX6_reckonDemand_79 (lv_at hl 0 rfl) ?_
  have kM22 : ∀ (v_21 : Int32) (ls : Array Slot), v_21 = (if x6_6 ≤ 0 then ((0 : Int32)) else x3) → lv_has ls 7 [] → W p l e rX6_reckonDemand s m args below meth c H locs 0 0 (MQ below (va_Qv Q (BM D cA z0) (AM z0)) args s 0 0 (AM z0)) (F0 m 89 ls [.int v_21, .int (gI σ17 b18 x1.toNatClampNeg), .int x1, .ref b18]) := by
    intro v_21 ls e_v_21 hl
    have h := h v_21 e_v_21
    refine lv_iadd hx hb dX6_reckonDemand_89 ?_
    obtain ⟨hc23, h⟩ := h
    refine m_iast hX hw hT19 hc23 dX6_reckonDemand_90 (fun H locs hw => ?_)
    let σ24 : Me := sI σ17 b18 x1.toNatClampNeg ((gI σ17 b18 x1.toNatClampNeg) + v_21)
    have h := h σ24 rfl
    have hw : wS D cA z0 s σ24 H locs := hw
    exact m_vret hX hlk hr hw h dX6_reckonDemand_91
  refine lv_if_le (tgt := 88) hx hb dX6_reckonDemand_81 (by decide) (fun hc25 => ?_) (fun hc25 => ?_)
  · refine lv_iconst (v := 0) hx hb dX6_reckonDemand_88 (by decide) ?_
    exact kM22 _ _ (by first | rfl | rw [if_pos hc25] | simp only [if_pos hc25]) (lv_sub hl [] rfl)
  · refine lv_iload_n hx hb dX6_reckonDemand_84 rfl (lv_at hl 6 rfl) ?_
    refine lv_goto (tgt := 89) hx hb dX6_reckonDemand_85 (by decide) ?_
    exact kM22 _ _ (by first | rfl | rw [if_neg hc25] | simp only [if_neg hc25]) (lv_sub hl [] rfl)
theorem mtX6_reckonDemand : Mth yX6_reckonDemand cX6_reckonDemand 7 none 3 := ⟨k_595, k_44, by decide +kernel⟩
theorem tX6_reckonDemand {l : Launch} {D : va_G} {cA : Nat → ClassId} {z0 : Nat} {σ : Me} {a0 : Nat} {x1 : Int32} {x2 : Int32} {x3 : Int32} {Q : Me → Prop} (h : pX6_reckonDemand σ a0 x1 x2 x3 Q) : Met l yX6_reckonDemand (Cond.code yX6_reckonDemand cX6_reckonDemand 7 none :: gTab) rX6_reckonDemand (PcM D cA z0 σ [.ref a0, .int x1, .int x2, .int x3]) (va_Qv Q (BM D cA z0) (AM z0)) 0 0 (AM z0) :=
  met_of (by decide) (Nat.le_of_ble_eq_true rfl) (fun hX hlk hr hn hw hl => wX6_reckonDemand hX hlk hr h hw hl)
abbrev rX6_isHand : Room := { frames := 0, cells := 0, slots := 0, locals := 0 }
def pX6_isHand (σ : Me) (x0 : Int32) (Q : Int32 → Me → Prop) : Prop := ∀ v_1 : Int32, v_1 = (if x0 < ((-12 : Int32)) then ((0 : Int32)) else (if ((12 : Int32)) < x0 then ((0 : Int32)) else ((1 : Int32)))) → (v_1 = 0 ∨ v_1 = 1) ∧ Q v_1 σ
set_option maxHeartbeats 4000000 in
set_option maxRecDepth 100000 in
theorem wX6_isHand {p : Program} {l : Launch} {e : Env} {s : State} {m : MethodId} {args : Array Value} {below : List Frame} {meth : Method} {c : Code} {D : va_G} {cA : Nat → ClassId} {z0 : Nat} (hX : Cx p m c cX6_isHand 1 s args RX6 D cA) (hlk : meth.locks = false) (hr : meth.sig.returnType = (some .boolean)) {σ : Me} {x0 : Int32} {Q : Int32 → Me → Prop} (h : pX6_isHand σ x0 Q) {H : Heap} {locs : List Loc} {ls : Array Slot} (hw : wS D cA z0 s σ H locs) (hl : lv_has ls 1 [(0, .int x0)]) : W p l e rX6_isHand s m args below meth c H locs 0 0 (MQ below (va_Qi Q (BM D cA z0) (AM z0)) args s 0 0 (AM z0)) (F0 m 0 ls []) := by
  have hx := hX.1.1
  have hb := hX.1.2.1
  have hown := hX.1.2.2.2.1
  have hts := hX.1.2.2.2.2
  unfold pX6_isHand at h
  refine lv_iload_n hx hb dX6_isHand_0 rfl (lv_at hl 0 rfl) ?_
  refine lv_bipush (v := (-12)) hx hb dX6_isHand_1 (by decide) ?_
  have kM2 : ∀ (v_1 : Int32) (ls : Array Slot), v_1 = (if x0 < ((-12 : Int32)) then ((0 : Int32)) else (if ((12 : Int32)) < x0 then ((0 : Int32)) else ((1 : Int32)))) → lv_has ls 1 [] → W p l e rX6_isHand s m args below meth c H locs 0 0 (MQ below (va_Qi Q (BM D cA z0) (AM z0)) args s 0 0 (AM z0)) (F0 m 17 ls [.int v_1]) := by
    intro v_1 ls e_v_1 hl
    have h := h v_1 e_v_1
    exact m_zret hX hlk hr hw h.1 h.2 dX6_isHand_17
  refine lv_icmp_lt (tgt := 16) hx hb dX6_isHand_3 (by decide) (fun hc3 => ?_) (fun hc3 => ?_)
  · refine lv_iconst (v := 0) hx hb dX6_isHand_16 (by decide) ?_
    exact kM2 _ _ (by first | rfl | rw [if_pos hc3] | simp only [if_pos hc3]) (lv_sub hl [] rfl)
  · refine lv_iload_n hx hb dX6_isHand_6 rfl (lv_at hl 0 rfl) ?_
    refine lv_bipush (v := 12) hx hb dX6_isHand_7 (by decide) ?_
    refine lv_icmp_gt (tgt := 16) hx hb dX6_isHand_9 (by decide) (fun hc4 => ?_) (fun hc4 => ?_)
    · refine lv_iconst (v := 0) hx hb dX6_isHand_16 (by decide) ?_
      exact kM2 _ _ (by first | rfl | rw [if_neg hc3, if_pos hc4] | simp only [if_neg hc3, if_pos hc4]) (lv_sub hl [] rfl)
    · refine lv_iconst (v := 1) hx hb dX6_isHand_12 (by decide) ?_
      refine lv_goto (tgt := 17) hx hb dX6_isHand_13 (by decide) ?_
      exact kM2 _ _ (by first | rfl | rw [if_neg hc3, if_neg hc4] | simp only [if_neg hc3, if_neg hc4]) (lv_sub hl [] rfl)
theorem mtX6_isHand : Mth yX6_isHand cX6_isHand 1 (some .boolean) 1 := ⟨k_676, k_44, by decide +kernel⟩
theorem tX6_isHand {l : Launch} {D : va_G} {cA : Nat → ClassId} {z0 : Nat} {σ : Me} {x0 : Int32} {Q : Int32 → Me → Prop} (h : pX6_isHand σ x0 Q) : Met l yX6_isHand (Cond.code yX6_isHand cX6_isHand 1 (some .boolean) :: gTab) rX6_isHand (PcM D cA z0 σ [.int x0]) (va_Qi Q (BM D cA z0) (AM z0)) 0 0 (AM z0) :=
  met_of (by decide) (Nat.le_of_ble_eq_true rfl) (fun hX hlk hr hn hw hl => wX6_isHand hX hlk hr h hw hl)
abbrev rX7_init : Room := { frames := 1, cells := 1, slots := 3, locals := 20 }
def pX7_init (σ : Me) (a0 : Nat) (a1 : Nat) (Q : Me → Prop) : Prop := ∀ (b1 : Nat) (σ2 : Me), b1 = gz σ → σ2 = nw σ 20 3 → gT σ2 a0 = 7 ∧ ∀ σ4 : Me, σ4 = sP σ2 a0 1 (some b1) → ∀ σ5 : Me, σ5 = sP σ4 a0 0 (some a1) → Q σ5
set_option maxHeartbeats 4000000 in
set_option maxRecDepth 100000 in
theorem wX7_init {p : Program} {l : Launch} {e : Env} {s : State} {m : MethodId} {args : Array Value} {below : List Frame} {meth : Method} {c : Code} {D : va_G} {cA : Nat → ClassId} {z0 : Nat} (hX : Cx p m c cX7_init 2 s args RX7 D cA) (hlk : meth.locks = false) (hr : meth.sig.returnType = none) (hin : meth.name = "<init>") {σ : Me} {a0 : Nat} {a1 : Nat} {Q : Me → Prop} (h : pX7_init σ a0 a1 Q) {H : Heap} {locs : List Loc} {ls : Array Slot} (hw : wS D cA z0 s σ H locs) (hl : lv_has ls 2 [(0, .ref a0), (1, .ref a1)]) : W p l e rX7_init s m args below meth c H locs 0 0 (MQ below (va_Qv Q (BM D cA z0) (AM z0)) args s 1 3 (AM z0)) (F0 m 0 ls []) := by
  have hx := hX.1.1
  have hb := hX.1.2.1
  have hown := hX.1.2.2.2.1
  have hts := hX.1.2.2.2.2
  unfold pX7_init at h
  refine lv_aload_n hx hb dX7_init_0 rfl (lv_at hl 0 rfl) ?_
  refine m_objInit hX k_229 hl.1 dX7_init_1 (Nat.le_of_ble_eq_true rfl) (Nat.le_of_ble_eq_true rfl) ?_
  refine lv_aload_n hx hb dX7_init_4 rfl (lv_at hl 0 rfl) ?_
  refine lv_iconst (v := 3) hx hb dX7_init_5 (by decide) ?_
  refine m_newa hX hw (t := 0) (by decide) rfl k_119 (N' := 3) (by decide) (by decide) (by decide) ⟨Nat.le_of_ble_eq_true rfl, Nat.le_of_ble_eq_true rfl⟩ dX7_init_6 (fun H hw => ?_)
  let b1 : Nat := gz σ
  let σ2 : Me := nw σ 20 3
  have h := h b1 σ2 rfl rfl
  have hw : wS D cA z0 s σ2 H locs := hw
  obtain ⟨hT3, h⟩ := h
  refine m_putFP hX hin hw cl7 hT3 1 (by decide) k_231 (fun _ h => h) rfl rfl rfl rfl rfl dX7_init_8 (fun H locs hw => ?_)
  let σ4 : Me := sP σ2 a0 1 (some b1)
  have h := h σ4 rfl
  have hw : wS D cA z0 s σ4 H locs := hw
  refine lv_aload_n hx hb dX7_init_11 rfl (lv_at hl 0 rfl) ?_
  refine lv_aload_n hx hb dX7_init_12 rfl (lv_at hl 1 rfl) ?_
  refine m_putFP hX hin hw cl7 hT3 0 (by decide) k_230 (fun _ h => h) rfl rfl rfl rfl rfl dX7_init_13 (fun H locs hw => ?_)
  let σ5 : Me := sP σ4 a0 0 (some a1)
  have h := h σ5 rfl
  have hw : wS D cA z0 s σ5 H locs := hw
  refine W.widen (k := 1) (n := 3) (Nat.le_of_ble_eq_true rfl) (Nat.le_of_ble_eq_true rfl) ?_
  exact m_vret hX hlk hr hw h dX7_init_16
theorem mtX7_init : Mth yX7_init cX7_init 2 none 1 := ⟨k_228, k_49, by decide +kernel⟩
theorem tX7_init {l : Launch} {D : va_G} {cA : Nat → ClassId} {z0 : Nat} {σ : Me} {a0 : Nat} {a1 : Nat} {Q : Me → Prop} (h : pX7_init σ a0 a1 Q) : Met l yX7_init (Cond.code yX7_init cX7_init 2 none :: gTab) rX7_init (PcM D cA z0 σ [.ref a0, .ref a1]) (va_Qv Q (BM D cA z0) (AM z0)) 1 3 (AM z0) :=
  met_of (by decide) (Nat.le_of_ble_eq_true rfl) (fun hX hlk hr hn hw hl => wX7_init hX hlk hr hn h hw hl)
abbrev rX7_give : Room := { frames := 1, cells := 0, slots := 0, locals := 21 }
def pX7_give (σ : Me) (a0 : Nat) (x1 : Int32) (Q : Me → Prop) : Prop := ∃ I4 : Nat → Me → Int32 → Int32 → Prop, (∀ (n4 : Nat) (σ1 : Me) (x2_2 : Int32) (x3_3 : Int32), I4 n4 σ1 x2_2 x3_3 → gT σ1 a0 = 7 ∧ ((gI σ1 a0 3) ≤ x3_3 → Q σ1) ∧ (¬ (gI σ1 a0 3) ≤ x3_3 → ∀ v_6 : Int32, v_6 = (if (gI σ1 a0 4) = 0 then (((gI σ1 a0 3) - ((1 : Int32))) - x3_3) else x3_3) → ∃ b8 : Nat, gP σ1 a0 1 = some b8 ∧ gT σ1 b8 = 20 ∧ vp_in v_6 (gN σ1 b8) ∧ ∀ x5_11 : Int32, x5_11 = (if (gI σ1 b8 v_6.toNatClampNeg) < x2_2 then (gI σ1 b8 v_6.toNatClampNeg) else x2_2) → vp_in v_6 (gN σ1 b8) ∧ vp_in v_6 (gN σ1 b8) ∧ ∀ σ14 : Me, σ14 = sI σ1 b8 v_6.toNatClampNeg ((gI σ1 b8 v_6.toNatClampNeg) - x5_11) → ∀ x2_15 : Int32, x2_15 = (x2_2 - x5_11) → ∀ x3_16 : Int32, x3_16 = x3_3 + 1 → ∃ m4 : Nat, m4 < n4 ∧ I4 m4 σ14 x2_15 x3_16)) ∧ ∃ n4 : Nat, I4 n4 σ x1 ((0 : Int32))
set_option maxHeartbeats 4000000 in
set_option maxRecDepth 100000 in
theorem wX7_give {p : Program} {l : Launch} {e : Env} {s : State} {m : MethodId} {args : Array Value} {below : List Frame} {meth : Method} {c : Code} {D : va_G} {cA : Nat → ClassId} {z0 : Nat} (hX : Cx p m c cX7_give 6 s args RX7 D cA) (hlk : meth.locks = false) (hr : meth.sig.returnType = none) {σ : Me} {a0 : Nat} {x1 : Int32} {Q : Me → Prop} (h : pX7_give σ a0 x1 Q) {H : Heap} {locs : List Loc} {ls : Array Slot} (hw : wS D cA z0 s σ H locs) (hl : lv_has ls 6 [(0, .ref a0), (1, .int x1)]) : W p l e rX7_give s m args below meth c H locs 0 0 (MQ below (va_Qv Q (BM D cA z0) (AM z0)) args s 0 0 (AM z0)) (F0 m 0 ls []) := by
  have hx := hX.1.1
  have hb := hX.1.2.1
  have hown := hX.1.2.2.2.1
  have hts := hX.1.2.2.2.2
  unfold pX7_give at h
  refine lv_iload_n hx hb dX7_give_0 rfl (lv_at hl 1 rfl) ?_
  refine lv_istore_n (lv' := [(2, _), (0, _), (1, _)]) hx hb dX7_give_1 rfl hl (by decide) rfl (fun ls hl => ?_)
  refine lv_iconst (v := 0) hx hb dX7_give_2 (by decide) ?_
  refine lv_istore_n (lv' := [(3, _), (2, _), (0, _), (1, _)]) hx hb dX7_give_3 rfl hl (by decide) rfl (fun ls hl => ?_)
  obtain ⟨I4, hI4, n4, h⟩ := h
  have key4 : ∀ (n4 : Nat) (σ1 : Me) (x2_2 : Int32) (x3_3 : Int32) (H : Heap) (locs : List Loc) (ls : Array Slot), I4 n4 σ1 x2_2 x3_3 → wS D cA z0 s σ1 H locs → lv_has ls 6 [(0, .ref a0), (2, .int x2_2), (3, .int x3_3)] → W p l e rX7_give s m args below meth c H locs 0 0 (MQ below (va_Qv Q (BM D cA z0) (AM z0)) args s 0 0 (AM z0)) (F0 m 4 ls []) := by
    intro n4
    induction n4 using Nat.strongRecOn with
    | _ n4 ih4 =>
      intro σ1 x2_2 x3_3 H locs ls h hw hl
      have h := hI4 _ _ _ _ h
      refine lv_iload_n hx hb dX7_give_4 rfl (lv_at hl 2 rfl) ?_
      refine lv_aload_n hx hb dX7_give_5 rfl (lv_at hl 0 rfl) ?_
      obtain ⟨hT4, h⟩ := h
      refine m_get hX hw cl7 hT4 3 (by decide) k_233 (fun _ h => h) (v := .int _) rfl dX7_give_6 ?_
      refine lv_icmp_ge (tgt := 69) hx hb dX7_give_9 (by decide) (fun hc5 => ?_) (fun hc5 => ?_)
      · have h := h.1 hc5
        exact m_vret hX hlk hr hw h dX7_give_69
      · have h := h.2 hc5
        refine lv_aload_n hx hb dX7_give_12 rfl (lv_at hl 0 rfl) ?_
        refine m_get hX hw cl7 hT4 4 (by decide) k_234 (fun _ h => h) (v := .int _) rfl dX7_give_13 ?_
        have kM7 : ∀ (v_6 : Int32) (ls : Array Slot), v_6 = (if (gI σ1 a0 4) = 0 then (((gI σ1 a0 3) - ((1 : Int32))) - x3_3) else x3_3) → lv_has ls 6 [(0, .ref a0), (2, .int x2_2), (3, .int x3_3)] → W p l e rX7_give s m args below meth c H locs 0 0 (MQ below (va_Qv Q (BM D cA z0) (AM z0)) args s 0 0 (AM z0)) (F0 m 31 ls [.int v_6]) := by
          intro v_6 ls e_v_6 hl
          have h := h v_6 e_v_6
          refine lv_istore (lv' := [(4, _), (0, _), (2, _), (3, _)]) hx hb dX7_give_31 hl (by decide) rfl (fun ls hl => ?_)
          refine lv_iload_n hx hb dX7_give_33 rfl (lv_at hl 2 rfl) ?_
          refine lv_aload_n hx hb dX7_give_34 rfl (lv_at hl 1 rfl) ?_
          obtain ⟨b8, hb8, h⟩ := h
          refine m_get hX hw cl7 hT4 1 (by decide) k_231 (fun _ h => h) (v := .ref b8) (congrArg va_rf hb8) dX7_give_35 ?_
          refine lv_iload hx hb dX7_give_38 (lv_at hl 0 rfl) ?_
          obtain ⟨hT9, h⟩ := h
          obtain ⟨hc10, h⟩ := h
          refine m_iald hX hw hT9 hc10 dX7_give_40 ?_
          refine m_min hX k_786 hl.1 (Nat.le_of_ble_eq_true rfl) (Nat.le_of_ble_eq_true rfl) ⟨Nat.le_of_ble_eq_true rfl, Nat.le_of_ble_eq_true rfl⟩ dX7_give_41 ?_
          refine lv_topi (fun x5_11 e_x5_11 => ?_)
          have h := h x5_11 e_x5_11
          refine lv_istore (lv' := [(5, _), (4, _), (0, _), (2, _), (3, _)]) hx hb dX7_give_44 hl (by decide) rfl (fun ls hl => ?_)
          refine lv_aload_n hx hb dX7_give_46 rfl (lv_at hl 2 rfl) ?_
          refine m_get hX hw cl7 hT4 1 (by decide) k_231 (fun _ h => h) (v := .ref b8) (congrArg va_rf hb8) dX7_give_47 ?_
          refine lv_iload hx hb dX7_give_50 (lv_at hl 1 rfl) ?_
          refine lv_dup2_11 hx hb dX7_give_52 rfl rfl ?_
          obtain ⟨hc12, h⟩ := h
          refine m_iald hX hw hT9 hc12 dX7_give_53 ?_
          refine lv_iload hx hb dX7_give_54 (lv_at hl 0 rfl) ?_
          refine lv_isub hx hb dX7_give_56 ?_
          obtain ⟨hc13, h⟩ := h
          refine m_iast hX hw hT9 hc13 dX7_give_57 (fun H locs hw => ?_)
          let σ14 : Me := sI σ1 b8 v_6.toNatClampNeg ((gI σ1 b8 v_6.toNatClampNeg) - x5_11)
          have h := h σ14 rfl
          have hw : wS D cA z0 s σ14 H locs := hw
          refine lv_iload_n hx hb dX7_give_58 rfl (lv_at hl 3 rfl) ?_
          refine lv_iload hx hb dX7_give_59 (lv_at hl 0 rfl) ?_
          refine lv_isub hx hb dX7_give_61 ?_
          refine lv_topi (fun x2_15 e_x2_15 => ?_)
          have h := h x2_15 e_x2_15
          refine lv_istore_n (lv' := [(2, _), (5, _), (4, _), (0, _), (3, _)]) hx hb dX7_give_62 rfl hl (by decide) rfl (fun ls hl => ?_)
          obtain ⟨x3_16, e_x3_16⟩ : ∃ y : Int32, y = x3_3 + 1 := ⟨_, rfl⟩
          have h := h x3_16 e_x3_16
          refine lv_iinc (v := x3_16) (lv' := [(3, _), (2, _), (5, _), (4, _), (0, _)]) hx hb dX7_give_63 hl (k := 4) rfl (by rw [e_x3_16]; rfl) (by decide) rfl (fun ls hl => ?_)
          refine lv_goto (tgt := 4) hx hb dX7_give_66 (by decide) ?_
          obtain ⟨m4, hm4, h⟩ := h
          exact ih4 m4 hm4 _ _ _ _ _ _ h hw (lv_sub hl [4, 1, 0] rfl)
        refine lv_if_eq (tgt := 23) hx hb dX7_give_16 (by decide) (fun hc17 => ?_) (fun hc17 => ?_)
        · refine lv_aload_n hx hb dX7_give_23 rfl (lv_at hl 0 rfl) ?_
          refine m_get hX hw cl7 hT4 3 (by decide) k_233 (fun _ h => h) (v := .int _) rfl dX7_give_24 ?_
          refine lv_iconst (v := 1) hx hb dX7_give_27 (by decide) ?_
          refine lv_isub hx hb dX7_give_28 ?_
          refine lv_iload_n hx hb dX7_give_29 rfl (lv_at hl 2 rfl) ?_
          refine lv_isub hx hb dX7_give_30 ?_
          exact kM7 _ _ (by first | rfl | rw [if_pos hc17] | simp only [if_pos hc17]) (lv_sub hl [0, 1, 2] rfl)
        · refine lv_iload_n hx hb dX7_give_19 rfl (lv_at hl 2 rfl) ?_
          refine lv_goto (tgt := 31) hx hb dX7_give_20 (by decide) ?_
          exact kM7 _ _ (by first | rfl | rw [if_neg hc17] | simp only [if_neg hc17]) (lv_sub hl [0, 1, 2] rfl)
  exact key4 _ _ _ _ _ _ _ h hw (lv_sub hl [2, 1, 0] rfl)
theorem mtX7_give : Mth yX7_give cX7_give 6 none 1 := ⟨k_805, k_49, by decide +kernel⟩
theorem tX7_give {l : Launch} {D : va_G} {cA : Nat → ClassId} {z0 : Nat} {σ : Me} {a0 : Nat} {x1 : Int32} {Q : Me → Prop} (h : pX7_give σ a0 x1 Q) : Met l yX7_give (Cond.code yX7_give cX7_give 6 none :: gTab) rX7_give (PcM D cA z0 σ [.ref a0, .int x1]) (va_Qv Q (BM D cA z0) (AM z0)) 0 0 (AM z0) :=
  met_of (by decide) (Nat.le_of_ble_eq_true rfl) (fun hX hlk hr hn hw hl => wX7_give hX hlk hr h hw hl)
abbrev rX8_init : Room := { frames := 1, cells := 4, slots := 1924, locals := 20 }
def pX8_init (σ : Me) (a0 : Nat) (Q : Me → Prop) : Prop := ∀ (b1 : Nat) (σ2 : Me), b1 = gz σ → σ2 = nw σ 21 481 → gT σ2 a0 = 8 ∧ ∀ σ4 : Me, σ4 = sP σ2 a0 0 (some b1) → ∀ (b5 : Nat) (σ6 : Me), b5 = gz σ4 → σ6 = nw σ4 21 481 → gT σ6 a0 = 8 ∧ ∀ σ8 : Me, σ8 = sP σ6 a0 1 (some b5) → ∀ (b9 : Nat) (σ10 : Me), b9 = gz σ8 → σ10 = nw σ8 20 481 → gT σ10 a0 = 8 ∧ ∀ σ12 : Me, σ12 = sP σ10 a0 2 (some b9) → ∀ (b13 : Nat) (σ14 : Me), b13 = gz σ12 → σ14 = nw σ12 20 481 → gT σ14 a0 = 8 ∧ ∀ σ16 : Me, σ16 = sP σ14 a0 3 (some b13) → Q σ16
set_option maxHeartbeats 4000000 in
set_option maxRecDepth 100000 in
theorem wX8_init {p : Program} {l : Launch} {e : Env} {s : State} {m : MethodId} {args : Array Value} {below : List Frame} {meth : Method} {c : Code} {D : va_G} {cA : Nat → ClassId} {z0 : Nat} (hX : Cx p m c cX8_init 1 s args RX8 D cA) (hlk : meth.locks = false) (hr : meth.sig.returnType = none) (hin : meth.name = "<init>") {σ : Me} {a0 : Nat} {Q : Me → Prop} (h : pX8_init σ a0 Q) {H : Heap} {locs : List Loc} {ls : Array Slot} (hw : wS D cA z0 s σ H locs) (hl : lv_has ls 1 [(0, .ref a0)]) : W p l e rX8_init s m args below meth c H locs 0 0 (MQ below (va_Qv Q (BM D cA z0) (AM z0)) args s 4 1924 (AM z0)) (F0 m 0 ls []) := by
  have hx := hX.1.1
  have hb := hX.1.2.1
  have hown := hX.1.2.2.2.1
  have hts := hX.1.2.2.2.2
  unfold pX8_init at h
  refine lv_aload_n hx hb dX8_init_0 rfl (lv_at hl 0 rfl) ?_
  refine m_objInit hX k_139 hl.1 dX8_init_1 (Nat.le_of_ble_eq_true rfl) (Nat.le_of_ble_eq_true rfl) ?_
  refine lv_aload_n hx hb dX8_init_4 rfl (lv_at hl 0 rfl) ?_
  refine lv_sipush (v := 481) hx hb dX8_init_5 (by decide) ?_
  refine m_newa hX hw (t := 1) (by decide) rfl k_159 (N' := 481) (by decide) (by decide) (by decide) ⟨Nat.le_of_ble_eq_true rfl, Nat.le_of_ble_eq_true rfl⟩ dX8_init_8 (fun H hw => ?_)
  let b1 : Nat := gz σ
  let σ2 : Me := nw σ 21 481
  have h := h b1 σ2 rfl rfl
  have hw : wS D cA z0 s σ2 H locs := hw
  obtain ⟨hT3, h⟩ := h
  refine m_putP hX hw cl8 hT3 0 (by decide) k_140 (fun _ h => h) rfl rfl rfl rfl dX8_init_10 (fun H locs hw => ?_)
  let σ4 : Me := sP σ2 a0 0 (some b1)
  have h := h σ4 rfl
  have hw : wS D cA z0 s σ4 H locs := hw
  refine lv_aload_n hx hb dX8_init_13 rfl (lv_at hl 0 rfl) ?_
  refine lv_sipush (v := 481) hx hb dX8_init_14 (by decide) ?_
  refine m_newa hX hw (t := 1) (by decide) rfl k_159 (N' := 481) (by decide) (by decide) (by decide) ⟨Nat.le_of_ble_eq_true rfl, Nat.le_of_ble_eq_true rfl⟩ dX8_init_17 (fun H hw => ?_)
  let b5 : Nat := gz σ4
  let σ6 : Me := nw σ4 21 481
  have h := h b5 σ6 rfl rfl
  have hw : wS D cA z0 s σ6 H locs := hw
  obtain ⟨hT7, h⟩ := h
  refine m_putP hX hw cl8 hT7 1 (by decide) k_141 (fun _ h => h) rfl rfl rfl rfl dX8_init_19 (fun H locs hw => ?_)
  let σ8 : Me := sP σ6 a0 1 (some b5)
  have h := h σ8 rfl
  have hw : wS D cA z0 s σ8 H locs := hw
  refine lv_aload_n hx hb dX8_init_22 rfl (lv_at hl 0 rfl) ?_
  refine lv_sipush (v := 481) hx hb dX8_init_23 (by decide) ?_
  refine m_newa hX hw (t := 0) (by decide) rfl k_119 (N' := 481) (by decide) (by decide) (by decide) ⟨Nat.le_of_ble_eq_true rfl, Nat.le_of_ble_eq_true rfl⟩ dX8_init_26 (fun H hw => ?_)
  let b9 : Nat := gz σ8
  let σ10 : Me := nw σ8 20 481
  have h := h b9 σ10 rfl rfl
  have hw : wS D cA z0 s σ10 H locs := hw
  obtain ⟨hT11, h⟩ := h
  refine m_putP hX hw cl8 hT11 2 (by decide) k_142 (fun _ h => h) rfl rfl rfl rfl dX8_init_28 (fun H locs hw => ?_)
  let σ12 : Me := sP σ10 a0 2 (some b9)
  have h := h σ12 rfl
  have hw : wS D cA z0 s σ12 H locs := hw
  refine lv_aload_n hx hb dX8_init_31 rfl (lv_at hl 0 rfl) ?_
  refine lv_sipush (v := 481) hx hb dX8_init_32 (by decide) ?_
  refine m_newa hX hw (t := 0) (by decide) rfl k_119 (N' := 481) (by decide) (by decide) (by decide) ⟨Nat.le_of_ble_eq_true rfl, Nat.le_of_ble_eq_true rfl⟩ dX8_init_35 (fun H hw => ?_)
  let b13 : Nat := gz σ12
  let σ14 : Me := nw σ12 20 481
  have h := h b13 σ14 rfl rfl
  have hw : wS D cA z0 s σ14 H locs := hw
  obtain ⟨hT15, h⟩ := h
  refine m_putP hX hw cl8 hT15 3 (by decide) k_143 (fun _ h => h) rfl rfl rfl rfl dX8_init_37 (fun H locs hw => ?_)
  let σ16 : Me := sP σ14 a0 3 (some b13)
  have h := h σ16 rfl
  have hw : wS D cA z0 s σ16 H locs := hw
  refine W.widen (k := 4) (n := 1924) (Nat.le_of_ble_eq_true rfl) (Nat.le_of_ble_eq_true rfl) ?_
  exact m_vret hX hlk hr hw h dX8_init_40
theorem mtX8_init : Mth yX8_init cX8_init 1 none 0 := ⟨k_138, k_46, by decide +kernel⟩
theorem tX8_init {l : Launch} {D : va_G} {cA : Nat → ClassId} {z0 : Nat} {σ : Me} {a0 : Nat} {Q : Me → Prop} (h : pX8_init σ a0 Q) : Met l yX8_init (Cond.code yX8_init cX8_init 1 none :: gTab) rX8_init (PcM D cA z0 σ [.ref a0]) (va_Qv Q (BM D cA z0) (AM z0)) 4 1924 (AM z0) :=
  met_of (by decide) (Nat.le_of_ble_eq_true rfl) (fun hX hlk hr hn hw hl => wX8_init hX hlk hr hn h hw hl)
abbrev rX8_add : Room := { frames := 0, cells := 0, slots := 0, locals := 0 }
def pX8_add (σ : Me) (a0 : Nat) (x1 : Int32) (y2 : Int64) (Q : Me → Prop) : Prop := (x1 < 0 → Q σ) ∧ (¬ x1 < 0 → (((481 : Int32)) ≤ x1 → Q σ) ∧ (¬ ((481 : Int32)) ≤ x1 → (((0 : Int64)) < y2 → gT σ a0 = 8 ∧ ∃ b43 : Nat, gP σ a0 1 = some b43 ∧ gT σ b43 = 21 ∧ vp_in x1 (gN σ b43) ∧ ((gL σ b43 x1.toNatClampNeg) = ((0 : Int64)) → (((481 : Int32)) ≤ (gI σ a0 5) → vp_in x1 (gN σ b43) ∧ vp_in x1 (gN σ b43) ∧ ∀ σ69 : Me, σ69 = sL σ b43 x1.toNatClampNeg ((gL σ b43 x1.toNatClampNeg) + y2) → Q σ69) ∧ (¬ ((481 : Int32)) ≤ (gI σ a0 5) → ∃ b70 : Nat, gP σ a0 3 = some b70 ∧ gT σ b70 = 20 ∧ vp_in (gI σ a0 5) (gN σ b70) ∧ ∀ σ73 : Me, σ73 = sI σ b70 (gI σ a0 5).toNatClampNeg x1 → ∀ σ74 : Me, σ74 = sI σ73 a0 5 ((gI σ73 a0 5) + ((1 : Int32))) → vp_in x1 (gN σ74 b43) ∧ vp_in x1 (gN σ74 b43) ∧ ∀ σ77 : Me, σ77 = sL σ74 b43 x1.toNatClampNeg ((gL σ74 b43 x1.toNatClampNeg) + y2) → Q σ77)) ∧ (¬ (gL σ b43 x1.toNatClampNeg) = ((0 : Int64)) → vp_in x1 (gN σ b43) ∧ vp_in x1 (gN σ b43) ∧ ∀ σ65 : Me, σ65 = sL σ b43 x1.toNatClampNeg ((gL σ b43 x1.toNatClampNeg) + y2) → Q σ65)) ∧ (¬ ((0 : Int64)) < y2 → Q σ)))
set_option maxHeartbeats 4000000 in
set_option maxRecDepth 100000 in
theorem wX8_add {p : Program} {l : Launch} {e : Env} {s : State} {m : MethodId} {args : Array Value} {below : List Frame} {meth : Method} {c : Code} {D : va_G} {cA : Nat → ClassId} {z0 : Nat} (hX : Cx p m c cX8_add 4 s args RX8 D cA) (hlk : meth.locks = false) (hr : meth.sig.returnType = none) {σ : Me} {a0 : Nat} {x1 : Int32} {y2 : Int64} {Q : Me → Prop} (h : pX8_add σ a0 x1 y2 Q) {H : Heap} {locs : List Loc} {ls : Array Slot} (hw : wS D cA z0 s σ H locs) (hl : lv_has ls 4 [(0, .ref a0), (1, .int x1), (2, .long y2)]) : W p l e rX8_add s m args below meth c H locs 0 0 (MQ below (va_Qv Q (BM D cA z0) (AM z0)) args s 0 0 (AM z0)) (F0 m 0 ls []) := by
  have hx := hX.1.1
  have hb := hX.1.2.1
  have hown := hX.1.2.2.2.1
  have hts := hX.1.2.2.2.2
  unfold pX8_add at h
  refine lv_iload_n hx hb dX8_add_0 rfl (lv_at hl 1 rfl) ?_
  refine lv_if_lt (tgt := 17) hx hb dX8_add_1 (by decide) (fun hc1 => ?_) (fun hc1 => ?_)
  · have h := h.1 hc1
    exact m_vret hX hlk hr hw h dX8_add_17
  · have h := h.2 hc1
    refine lv_iload_n hx hb dX8_add_4 rfl (lv_at hl 1 rfl) ?_
    refine lv_sipush (v := 481) hx hb dX8_add_5 (by decide) ?_
    refine lv_icmp_ge (tgt := 17) hx hb dX8_add_8 (by decide) (fun hc2 => ?_) (fun hc2 => ?_)
    · have h := h.1 hc2
      exact m_vret hX hlk hr hw h dX8_add_17
    · have h := h.2 hc2
      refine lv_lload_n hx hb dX8_add_11 rfl (lv_at hl 2 rfl) ?_
      refine lv_lconst (v := 0) hx hb dX8_add_12 (by decide) ?_
      refine m_lgt (tgt := 18) hX dX8_add_13 dX8_add_14 (by decide) (fun hc41 => ?_) (fun hc41 => ?_)
      · have h := h.1 hc41
        refine lv_aload_n hx hb dX8_add_18 rfl (lv_at hl 0 rfl) ?_
        obtain ⟨hT42, h⟩ := h
        obtain ⟨b43, hb43, h⟩ := h
        refine m_get hX hw cl8 hT42 1 (by decide) k_141 (fun _ h => h) (v := .ref b43) (congrArg va_rf hb43) dX8_add_19 ?_
        refine lv_iload_n hx hb dX8_add_22 rfl (lv_at hl 1 rfl) ?_
        obtain ⟨hT44, h⟩ := h
        obtain ⟨hc45, h⟩ := h
        refine m_lald hX hw hT44 hc45 dX8_add_23 ?_
        refine lv_lconst (v := 0) hx hb dX8_add_24 (by decide) ?_
        refine m_lne (tgt := 59) hX dX8_add_25 dX8_add_26 (by decide) (fun hc62 => ?_) (fun hc62 => ?_)
        · have h := h.2 hc62
          refine lv_aload_n hx hb dX8_add_59 rfl (lv_at hl 0 rfl) ?_
          refine m_get hX hw cl8 hT42 1 (by decide) k_141 (fun _ h => h) (v := .ref b43) (congrArg va_rf hb43) dX8_add_60 ?_
          refine lv_iload_n hx hb dX8_add_63 rfl (lv_at hl 1 rfl) ?_
          refine lv_dup2_11 hx hb dX8_add_64 rfl rfl ?_
          obtain ⟨hc63, h⟩ := h
          refine m_lald hX hw hT44 hc63 dX8_add_65 ?_
          refine lv_lload_n hx hb dX8_add_66 rfl (lv_at hl 2 rfl) ?_
          refine lv_ladd hx hb dX8_add_67 ?_
          obtain ⟨hc64, h⟩ := h
          refine m_last hX hw hT44 hc64 dX8_add_68 (fun H locs hw => ?_)
          let σ65 : Me := sL σ b43 x1.toNatClampNeg ((gL σ b43 x1.toNatClampNeg) + y2)
          have h := h σ65 rfl
          have hw : wS D cA z0 s σ65 H locs := hw
          exact m_vret hX hlk hr hw h dX8_add_69
        · have h := h.1 hc62
          refine lv_aload_n hx hb dX8_add_29 rfl (lv_at hl 0 rfl) ?_
          refine m_get hX hw cl8 hT42 5 (by decide) k_145 (fun _ h => h) (v := .int _) rfl dX8_add_30 ?_
          refine lv_sipush (v := 481) hx hb dX8_add_33 (by decide) ?_
          refine lv_icmp_ge (tgt := 59) hx hb dX8_add_36 (by decide) (fun hc66 => ?_) (fun hc66 => ?_)
          · have h := h.1 hc66
            refine lv_aload_n hx hb dX8_add_59 rfl (lv_at hl 0 rfl) ?_
            refine m_get hX hw cl8 hT42 1 (by decide) k_141 (fun _ h => h) (v := .ref b43) (congrArg va_rf hb43) dX8_add_60 ?_
            refine lv_iload_n hx hb dX8_add_63 rfl (lv_at hl 1 rfl) ?_
            refine lv_dup2_11 hx hb dX8_add_64 rfl rfl ?_
            obtain ⟨hc67, h⟩ := h
            refine m_lald hX hw hT44 hc67 dX8_add_65 ?_
            refine lv_lload_n hx hb dX8_add_66 rfl (lv_at hl 2 rfl) ?_
            refine lv_ladd hx hb dX8_add_67 ?_
            obtain ⟨hc68, h⟩ := h
            refine m_last hX hw hT44 hc68 dX8_add_68 (fun H locs hw => ?_)
            let σ69 : Me := sL σ b43 x1.toNatClampNeg ((gL σ b43 x1.toNatClampNeg) + y2)
            have h := h σ69 rfl
            have hw : wS D cA z0 s σ69 H locs := hw
            exact m_vret hX hlk hr hw h dX8_add_69
          · have h := h.2 hc66
            refine lv_aload_n hx hb dX8_add_39 rfl (lv_at hl 0 rfl) ?_
            obtain ⟨b70, hb70, h⟩ := h
            refine m_get hX hw cl8 hT42 3 (by decide) k_143 (fun _ h => h) (v := .ref b70) (congrArg va_rf hb70) dX8_add_40 ?_
            refine lv_aload_n hx hb dX8_add_43 rfl (lv_at hl 0 rfl) ?_
            refine m_get hX hw cl8 hT42 5 (by decide) k_145 (fun _ h => h) (v := .int _) rfl dX8_add_44 ?_
            refine lv_iload_n hx hb dX8_add_47 rfl (lv_at hl 1 rfl) ?_
            obtain ⟨hT71, h⟩ := h
            obtain ⟨hc72, h⟩ := h
            refine m_iast hX hw hT71 hc72 dX8_add_48 (fun H locs hw => ?_)
            let σ73 : Me := sI σ b70 (gI σ a0 5).toNatClampNeg x1
            have h := h σ73 rfl
            have hw : wS D cA z0 s σ73 H locs := hw
            refine lv_aload_n hx hb dX8_add_49 rfl (lv_at hl 0 rfl) ?_
            refine lv_dup hx hb dX8_add_50 rfl ?_
            refine m_get hX hw cl8 hT42 5 (by decide) k_145 (fun _ h => h) (v := .int _) rfl dX8_add_51 ?_
            refine lv_iconst (v := 1) hx hb dX8_add_54 (by decide) ?_
            refine lv_iadd hx hb dX8_add_55 ?_
            refine m_putI hX hw cl8 hT42 5 (by decide) k_145 (fun _ h => h) rfl rfl dX8_add_56 (fun H locs hw => ?_)
            let σ74 : Me := sI σ73 a0 5 ((gI σ73 a0 5) + ((1 : Int32)))
            have h := h σ74 rfl
            have hw : wS D cA z0 s σ74 H locs := hw
            refine lv_aload_n hx hb dX8_add_59 rfl (lv_at hl 0 rfl) ?_
            refine m_get hX hw cl8 hT42 1 (by decide) k_141 (fun _ h => h) (v := .ref b43) (congrArg va_rf hb43) dX8_add_60 ?_
            refine lv_iload_n hx hb dX8_add_63 rfl (lv_at hl 1 rfl) ?_
            refine lv_dup2_11 hx hb dX8_add_64 rfl rfl ?_
            obtain ⟨hc75, h⟩ := h
            refine m_lald hX hw hT44 hc75 dX8_add_65 ?_
            refine lv_lload_n hx hb dX8_add_66 rfl (lv_at hl 2 rfl) ?_
            refine lv_ladd hx hb dX8_add_67 ?_
            obtain ⟨hc76, h⟩ := h
            refine m_last hX hw hT44 hc76 dX8_add_68 (fun H locs hw => ?_)
            let σ77 : Me := sL σ74 b43 x1.toNatClampNeg ((gL σ74 b43 x1.toNatClampNeg) + y2)
            have h := h σ77 rfl
            have hw : wS D cA z0 s σ77 H locs := hw
            exact m_vret hX hlk hr hw h dX8_add_69
      · have h := h.2 hc41
        exact m_vret hX hlk hr hw h dX8_add_17
theorem mtX8_add : Mth yX8_add cX8_add 4 none 2 := ⟨k_627, k_46, by decide +kernel⟩
theorem tX8_add {l : Launch} {D : va_G} {cA : Nat → ClassId} {z0 : Nat} {σ : Me} {a0 : Nat} {x1 : Int32} {y2 : Int64} {Q : Me → Prop} (h : pX8_add σ a0 x1 y2 Q) : Met l yX8_add (Cond.code yX8_add cX8_add 4 none :: gTab) rX8_add (PcM D cA z0 σ [.ref a0, .int x1, .long y2]) (va_Qv Q (BM D cA z0) (AM z0)) 0 0 (AM z0) :=
  met_of (by decide) (Nat.le_of_ble_eq_true rfl) (fun hX hlk hr hn hw hl => wX8_add hX hlk hr h hw hl)
abbrev rX8_places : Room := { frames := 0, cells := 0, slots := 0, locals := 0 }
def pX8_places (σ : Me) (a0 : Nat) (Q : Int32 → Me → Prop) : Prop := gT σ a0 = 8 ∧ Q (gI σ a0 4) σ
set_option maxHeartbeats 4000000 in
set_option maxRecDepth 100000 in
theorem wX8_places {p : Program} {l : Launch} {e : Env} {s : State} {m : MethodId} {args : Array Value} {below : List Frame} {meth : Method} {c : Code} {D : va_G} {cA : Nat → ClassId} {z0 : Nat} (hX : Cx p m c cX8_places 1 s args RX8 D cA) (hlk : meth.locks = false) (hr : meth.sig.returnType = (some .int)) {σ : Me} {a0 : Nat} {Q : Int32 → Me → Prop} (h : pX8_places σ a0 Q) {H : Heap} {locs : List Loc} {ls : Array Slot} (hw : wS D cA z0 s σ H locs) (hl : lv_has ls 1 [(0, .ref a0)]) : W p l e rX8_places s m args below meth c H locs 0 0 (MQ below (va_Qi Q (BM D cA z0) (AM z0)) args s 0 0 (AM z0)) (F0 m 0 ls []) := by
  have hx := hX.1.1
  have hb := hX.1.2.1
  have hown := hX.1.2.2.2.1
  have hts := hX.1.2.2.2.2
  unfold pX8_places at h
  refine lv_aload_n hx hb dX8_places_0 rfl (lv_at hl 0 rfl) ?_
  obtain ⟨hT1, h⟩ := h
  refine m_get hX hw cl8 hT1 4 (by decide) k_144 (fun _ h => h) (v := .int _) rfl dX8_places_1 ?_
  exact m_iret hX hlk hr hw h dX8_places_4
theorem mtX8_places : Mth yX8_places cX8_places 1 (some .int) 0 := ⟨k_647, k_46, by decide +kernel⟩
theorem tX8_places {l : Launch} {D : va_G} {cA : Nat → ClassId} {z0 : Nat} {σ : Me} {a0 : Nat} {Q : Int32 → Me → Prop} (h : pX8_places σ a0 Q) : Met l yX8_places (Cond.code yX8_places cX8_places 1 (some .int) :: gTab) rX8_places (PcM D cA z0 σ [.ref a0]) (va_Qi Q (BM D cA z0) (AM z0)) 0 0 (AM z0) :=
  met_of (by decide) (Nat.le_of_ble_eq_true rfl) (fun hX hlk hr hn hw hl => wX8_places hX hlk hr h hw hl)
abbrev rX8_isPlace : Room := { frames := 0, cells := 0, slots := 0, locals := 0 }
def pX8_isPlace (σ : Me) (x0 : Int32) (Q : Int32 → Me → Prop) : Prop := ∀ v_1 : Int32, v_1 = (if x0 < 0 then ((0 : Int32)) else (if ((481 : Int32)) ≤ x0 then ((0 : Int32)) else ((1 : Int32)))) → (v_1 = 0 ∨ v_1 = 1) ∧ Q v_1 σ
set_option maxHeartbeats 4000000 in
set_option maxRecDepth 100000 in
theorem wX8_isPlace {p : Program} {l : Launch} {e : Env} {s : State} {m : MethodId} {args : Array Value} {below : List Frame} {meth : Method} {c : Code} {D : va_G} {cA : Nat → ClassId} {z0 : Nat} (hX : Cx p m c cX8_isPlace 1 s args RX8 D cA) (hlk : meth.locks = false) (hr : meth.sig.returnType = (some .boolean)) {σ : Me} {x0 : Int32} {Q : Int32 → Me → Prop} (h : pX8_isPlace σ x0 Q) {H : Heap} {locs : List Loc} {ls : Array Slot} (hw : wS D cA z0 s σ H locs) (hl : lv_has ls 1 [(0, .int x0)]) : W p l e rX8_isPlace s m args below meth c H locs 0 0 (MQ below (va_Qi Q (BM D cA z0) (AM z0)) args s 0 0 (AM z0)) (F0 m 0 ls []) := by
  have hx := hX.1.1
  have hb := hX.1.2.1
  have hown := hX.1.2.2.2.1
  have hts := hX.1.2.2.2.2
  unfold pX8_isPlace at h
  refine lv_iload_n hx hb dX8_isPlace_0 rfl (lv_at hl 0 rfl) ?_
  have kM2 : ∀ (v_1 : Int32) (ls : Array Slot), v_1 = (if x0 < 0 then ((0 : Int32)) else (if ((481 : Int32)) ≤ x0 then ((0 : Int32)) else ((1 : Int32)))) → lv_has ls 1 [] → W p l e rX8_isPlace s m args below meth c H locs 0 0 (MQ below (va_Qi Q (BM D cA z0) (AM z0)) args s 0 0 (AM z0)) (F0 m 16 ls [.int v_1]) := by
    intro v_1 ls e_v_1 hl
    have h := h v_1 e_v_1
    exact m_zret hX hlk hr hw h.1 h.2 dX8_isPlace_16
  refine lv_if_lt (tgt := 15) hx hb dX8_isPlace_1 (by decide) (fun hc3 => ?_) (fun hc3 => ?_)
  · refine lv_iconst (v := 0) hx hb dX8_isPlace_15 (by decide) ?_
    exact kM2 _ _ (by first | rfl | rw [if_pos hc3] | simp only [if_pos hc3]) (lv_sub hl [] rfl)
  · refine lv_iload_n hx hb dX8_isPlace_4 rfl (lv_at hl 0 rfl) ?_
    refine lv_sipush (v := 481) hx hb dX8_isPlace_5 (by decide) ?_
    refine lv_icmp_ge (tgt := 15) hx hb dX8_isPlace_8 (by decide) (fun hc4 => ?_) (fun hc4 => ?_)
    · refine lv_iconst (v := 0) hx hb dX8_isPlace_15 (by decide) ?_
      exact kM2 _ _ (by first | rfl | rw [if_neg hc3, if_pos hc4] | simp only [if_neg hc3, if_pos hc4]) (lv_sub hl [] rfl)
    · refine lv_iconst (v := 1) hx hb dX8_isPlace_11 (by decide) ?_
      refine lv_goto (tgt := 16) hx hb dX8_isPlace_12 (by decide) ?_
      exact kM2 _ _ (by first | rfl | rw [if_neg hc3, if_neg hc4] | simp only [if_neg hc3, if_neg hc4]) (lv_sub hl [] rfl)
theorem mtX8_isPlace : Mth yX8_isPlace cX8_isPlace 1 (some .boolean) 1 := ⟨k_638, k_46, by decide +kernel⟩
theorem tX8_isPlace {l : Launch} {D : va_G} {cA : Nat → ClassId} {z0 : Nat} {σ : Me} {x0 : Int32} {Q : Int32 → Me → Prop} (h : pX8_isPlace σ x0 Q) : Met l yX8_isPlace (Cond.code yX8_isPlace cX8_isPlace 1 (some .boolean) :: gTab) rX8_isPlace (PcM D cA z0 σ [.int x0]) (va_Qi Q (BM D cA z0) (AM z0)) 0 0 (AM z0) :=
  met_of (by decide) (Nat.le_of_ble_eq_true rfl) (fun hX hlk hr hn hw hl => wX8_isPlace hX hlk hr h hw hl)
abbrev rX9_init : Room := { frames := 2, cells := 1, slots := 25, locals := 40 }
def pX9_init (σ : Me) (a0 : Nat) (a1 : Nat) (x2 : Int32) (Q : Me → Prop) : Prop := pX5_init σ a0 (fun σ2 => gT σ2 a1 = 23 ∧ ∀ x3_4 : Int32, x3_4 = (if ((0 : Int32)) < (if (nI (gN σ2 a1)) < x2 then (nI (gN σ2 a1)) else x2) then (if (nI (gN σ2 a1)) < x2 then (nI (gN σ2 a1)) else x2) else ((0 : Int32))) → ¬ x3_4 < 0 ∧ x3_4.toNatClampNeg ≤ 25 ∧ ∀ (b5 : Nat) (σ8 : Me), b5 = gz σ2 → σ8 = nw σ2 23 x3_4.toNatClampNeg → gT σ8 a0 = 9 ∧ ∀ σ10 : Me, σ10 = sP σ8 a0 0 (some b5) → ∃ b11 : Nat, gP σ10 a0 0 = some b11 ∧ gT σ10 a1 = 23 ∧ gT σ10 b11 = 23 ∧ ¬ ((0 : Int32)) < 0 ∧ ¬ ((0 : Int32)) < 0 ∧ ¬ x3_4 < 0 ∧ ((0 : Int32)).toNatClampNeg + x3_4.toNatClampNeg ≤ gN σ10 a1 ∧ ((0 : Int32)).toNatClampNeg + x3_4.toNatClampNeg ≤ gN σ10 b11 ∧ (∀ i, i < x3_4.toNatClampNeg → fits .byte (.int (gI σ10 a1 (((0 : Int32)).toNatClampNeg + i))) = true) ∧ ∀ σ20 : Me, σ20 = cp σ10 a1 ((0 : Int32)).toNatClampNeg b11 ((0 : Int32)).toNatClampNeg x3_4.toNatClampNeg → Q σ20)
set_option maxHeartbeats 4000000 in
set_option maxRecDepth 100000 in
theorem wX9_init {p : Program} {l : Launch} {e : Env} {s : State} {m : MethodId} {args : Array Value} {below : List Frame} {meth : Method} {c : Code} {D : va_G} {cA : Nat → ClassId} {z0 : Nat} (hX : Cx p m c cX9_init 4 s args RX9 D cA) (hlk : meth.locks = false) (hr : meth.sig.returnType = none) (hin : meth.name = "<init>") {σ : Me} {a0 : Nat} {a1 : Nat} {x2 : Int32} {Q : Me → Prop} (h : pX9_init σ a0 a1 x2 Q) {H : Heap} {locs : List Loc} {ls : Array Slot} (hw : wS D cA z0 s σ H locs) (hl : lv_has ls 4 [(0, .ref a0), (1, .ref a1), (2, .int x2)]) : W p l e rX9_init s m args below meth c H locs 0 0 (MQ below (va_Qv Q (BM D cA z0) (AM z0)) args s 1 25 (AM z0)) (F0 m 0 ls []) := by
  have hx := hX.1.1
  have hb := hX.1.2.1
  have hown := hX.1.2.2.2.1
  have hts := hX.1.2.2.2.2
  unfold pX9_init at h
  refine lv_aload_n hx hb dX9_init_0 rfl (lv_at hl 0 rfl) ?_
  refine m_cv (m_runIN (rest := []) hX hw (tX5_init h) mtX5_init (List.mem_of_getElem? (i := 3) rfl) k_383 rfl ⟨⟨rfl, rfl, Nat.le_of_ble_eq_true rfl, Nat.le_of_ble_eq_true rfl⟩, Nat.le_of_ble_eq_true rfl, Nat.le_of_ble_eq_true rfl⟩ rfl hl.1 rfl (Nat.le_of_ble_eq_true rfl) dX9_init_1) hw (fun σ2 H locs h hw => ?_)
  refine lv_iconst (v := 0) hx hb dX9_init_4 (by decide) ?_
  refine lv_iload_n hx hb dX9_init_5 rfl (lv_at hl 2 rfl) ?_
  refine lv_aload_n hx hb dX9_init_6 rfl (lv_at hl 1 rfl) ?_
  obtain ⟨hT3, h⟩ := h
  refine m_alen hX hw (t := 3) (by decide) hT3 dX9_init_7 ?_
  refine m_min hX k_386 hl.1 (Nat.le_of_ble_eq_true rfl) (Nat.le_of_ble_eq_true rfl) ⟨Nat.le_of_ble_eq_true rfl, Nat.le_of_ble_eq_true rfl⟩ dX9_init_8 ?_
  refine m_max hX k_389 hl.1 (Nat.le_of_ble_eq_true rfl) (Nat.le_of_ble_eq_true rfl) ⟨Nat.le_of_ble_eq_true rfl, Nat.le_of_ble_eq_true rfl⟩ dX9_init_11 ?_
  refine lv_topi (fun x3_4 e_x3_4 => ?_)
  have h := h x3_4 e_x3_4
  refine lv_istore_n (lv' := [(3, _), (0, _), (1, _), (2, _)]) hx hb dX9_init_14 rfl hl (by decide) rfl (fun ls hl => ?_)
  refine lv_aload_n hx hb dX9_init_15 rfl (lv_at hl 1 rfl) ?_
  refine lv_iload_n hx hb dX9_init_16 rfl (lv_at hl 0 rfl) ?_
  obtain ⟨hc6, h⟩ := h
  obtain ⟨hc7, h⟩ := h
  refine m_newa hX hw (t := 3) (by decide) rfl k_118 hc6 rfl (by show _ * 1 ≤ _; omega) ⟨Nat.le_of_ble_eq_true rfl, Nat.le_trans (Nat.add_le_add_left hc7 _) (Nat.le_of_ble_eq_true rfl)⟩ dX9_init_17 (fun H hw => ?_)
  refine W.widen (k := 1) (n := 25) (Nat.le_of_ble_eq_true rfl) (Nat.le_trans (Nat.add_le_add_left hc7 _) (Nat.le_of_ble_eq_true rfl)) ?_
  let b5 : Nat := gz σ2
  let σ8 : Me := nw σ2 23 x3_4.toNatClampNeg
  have h := h b5 σ8 rfl rfl
  have hw : wS D cA z0 s σ8 H locs := hw
  obtain ⟨hT9, h⟩ := h
  refine m_putFP hX hin hw cl9 hT9 0 (by decide) k_393 (fun _ h => h) rfl rfl rfl rfl rfl dX9_init_19 (fun H locs hw => ?_)
  let σ10 : Me := sP σ8 a0 0 (some b5)
  have h := h σ10 rfl
  have hw : wS D cA z0 s σ10 H locs := hw
  refine lv_aload_n hx hb dX9_init_22 rfl (lv_at hl 2 rfl) ?_
  refine lv_iconst (v := 0) hx hb dX9_init_23 (by decide) ?_
  refine lv_aload_n hx hb dX9_init_24 rfl (lv_at hl 1 rfl) ?_
  obtain ⟨b11, hb11, h⟩ := h
  refine m_get hX hw cl9 hT9 0 (by decide) k_393 (fun _ h => h) (v := .ref b11) (congrArg va_rf hb11) dX9_init_25 ?_
  refine lv_iconst (v := 0) hx hb dX9_init_28 (by decide) ?_
  refine lv_iload_n hx hb dX9_init_29 rfl (lv_at hl 0 rfl) ?_
  obtain ⟨hT12, h⟩ := h
  obtain ⟨hT13, h⟩ := h
  obtain ⟨hc14, h⟩ := h
  obtain ⟨hc15, h⟩ := h
  obtain ⟨hc16, h⟩ := h
  obtain ⟨hc17, h⟩ := h
  obtain ⟨hc18, h⟩ := h
  obtain ⟨hc19, h⟩ := h
  refine m_copy hX hw (t := 3) (by decide) hT12 hT13 hc14 hc15 hc16 hc17 hc18 hc19 k_392 hl.1 (Nat.le_of_ble_eq_true rfl) (by decide) dX9_init_30 (fun H locs hw => ?_)
  let σ20 : Me := cp σ10 a1 ((0 : Int32)).toNatClampNeg b11 ((0 : Int32)).toNatClampNeg x3_4.toNatClampNeg
  have h := h σ20 rfl
  have hw : wS D cA z0 s σ20 H locs := hw
  refine W.widen (k := 1) (n := 25) (Nat.le_of_ble_eq_true rfl) (Nat.le_of_ble_eq_true rfl) ?_
  exact m_vret hX hlk hr hw h dX9_init_33
theorem mtX9_init : Mth yX9_init cX9_init 4 none 2 := ⟨k_381, k_53, by decide +kernel⟩
theorem tX9_init {l : Launch} {D : va_G} {cA : Nat → ClassId} {z0 : Nat} {σ : Me} {a0 : Nat} {a1 : Nat} {x2 : Int32} {Q : Me → Prop} (h : pX9_init σ a0 a1 x2 Q) : Met l yX9_init (Cond.code yX9_init cX9_init 4 none :: gTab) rX9_init (PcM D cA z0 σ [.ref a0, .ref a1, .int x2]) (va_Qv Q (BM D cA z0) (AM z0)) 1 25 (AM z0) :=
  met_of (by decide) (Nat.le_of_ble_eq_true rfl) (fun hX hlk hr hn hw hl => wX9_init hX hlk hr hn h hw hl)
abbrev rX9_kindNumber : Room := { frames := 0, cells := 0, slots := 0, locals := 0 }
def pX9_kindNumber (σ : Me) (a0 : Nat) (Q : Int32 → Me → Prop) : Prop := Q ((0 : Int32)) σ
set_option maxHeartbeats 4000000 in
set_option maxRecDepth 100000 in
theorem wX9_kindNumber {p : Program} {l : Launch} {e : Env} {s : State} {m : MethodId} {args : Array Value} {below : List Frame} {meth : Method} {c : Code} {D : va_G} {cA : Nat → ClassId} {z0 : Nat} (hX : Cx p m c cX9_kindNumber 1 s args RX9 D cA) (hlk : meth.locks = false) (hr : meth.sig.returnType = (some .int)) {σ : Me} {a0 : Nat} {Q : Int32 → Me → Prop} (h : pX9_kindNumber σ a0 Q) {H : Heap} {locs : List Loc} {ls : Array Slot} (hw : wS D cA z0 s σ H locs) (hl : lv_has ls 1 [(0, .ref a0)]) : W p l e rX9_kindNumber s m args below meth c H locs 0 0 (MQ below (va_Qi Q (BM D cA z0) (AM z0)) args s 0 0 (AM z0)) (F0 m 0 ls []) := by
  have hx := hX.1.1
  have hb := hX.1.2.1
  have hown := hX.1.2.2.2.1
  have hts := hX.1.2.2.2.2
  unfold pX9_kindNumber at h
  refine lv_iconst (v := 0) hx hb dX9_kindNumber_0 (by decide) ?_
  exact m_iret hX hlk hr hw h dX9_kindNumber_1
theorem mtX9_kindNumber : Mth yX9_kindNumber cX9_kindNumber 1 (some .int) 0 := ⟨k_478, k_53, by decide +kernel⟩
theorem tX9_kindNumber {l : Launch} {D : va_G} {cA : Nat → ClassId} {z0 : Nat} {σ : Me} {a0 : Nat} {Q : Int32 → Me → Prop} (h : pX9_kindNumber σ a0 Q) : Met l yX9_kindNumber (Cond.code yX9_kindNumber cX9_kindNumber 1 (some .int) :: gTab) rX9_kindNumber (PcM D cA z0 σ [.ref a0]) (va_Qi Q (BM D cA z0) (AM z0)) 0 0 (AM z0) :=
  met_of (by decide) (Nat.le_of_ble_eq_true rfl) (fun hX hlk hr hn hw hl => wX9_kindNumber hX hlk hr h hw hl)
abbrev rX9_tableSize : Room := { frames := 0, cells := 0, slots := 0, locals := 0 }
def pX9_tableSize (σ : Me) (a0 : Nat) (Q : Int32 → Me → Prop) : Prop := gT σ a0 = 9 ∧ ∃ b2 : Nat, gP σ a0 0 = some b2 ∧ gT σ b2 = 23 ∧ Q (nI (gN σ b2)) σ
set_option maxHeartbeats 4000000 in
set_option maxRecDepth 100000 in
theorem wX9_tableSize {p : Program} {l : Launch} {e : Env} {s : State} {m : MethodId} {args : Array Value} {below : List Frame} {meth : Method} {c : Code} {D : va_G} {cA : Nat → ClassId} {z0 : Nat} (hX : Cx p m c cX9_tableSize 1 s args RX9 D cA) (hlk : meth.locks = false) (hr : meth.sig.returnType = (some .int)) {σ : Me} {a0 : Nat} {Q : Int32 → Me → Prop} (h : pX9_tableSize σ a0 Q) {H : Heap} {locs : List Loc} {ls : Array Slot} (hw : wS D cA z0 s σ H locs) (hl : lv_has ls 1 [(0, .ref a0)]) : W p l e rX9_tableSize s m args below meth c H locs 0 0 (MQ below (va_Qi Q (BM D cA z0) (AM z0)) args s 0 0 (AM z0)) (F0 m 0 ls []) := by
  have hx := hX.1.1
  have hb := hX.1.2.1
  have hown := hX.1.2.2.2.1
  have hts := hX.1.2.2.2.2
  unfold pX9_tableSize at h
  refine lv_aload_n hx hb dX9_tableSize_0 rfl (lv_at hl 0 rfl) ?_
  obtain ⟨hT1, h⟩ := h
  obtain ⟨b2, hb2, h⟩ := h
  refine m_get hX hw cl9 hT1 0 (by decide) k_393 (fun _ h => h) (v := .ref b2) (congrArg va_rf hb2) dX9_tableSize_1 ?_
  obtain ⟨hT3, h⟩ := h
  refine m_alen hX hw (t := 3) (by decide) hT3 dX9_tableSize_4 ?_
  exact m_iret hX hlk hr hw h dX9_tableSize_5
theorem mtX9_tableSize : Mth yX9_tableSize cX9_tableSize 1 (some .int) 0 := ⟨k_519, k_53, by decide +kernel⟩
theorem tX9_tableSize {l : Launch} {D : va_G} {cA : Nat → ClassId} {z0 : Nat} {σ : Me} {a0 : Nat} {Q : Int32 → Me → Prop} (h : pX9_tableSize σ a0 Q) : Met l yX9_tableSize (Cond.code yX9_tableSize cX9_tableSize 1 (some .int) :: gTab) rX9_tableSize (PcM D cA z0 σ [.ref a0]) (va_Qi Q (BM D cA z0) (AM z0)) 0 0 (AM z0) :=
  met_of (by decide) (Nat.le_of_ble_eq_true rfl) (fun hX hlk hr hn hw hl => wX9_tableSize hX hlk hr h hw hl)
abbrev rX10_init : Room := { frames := 1, cells := 2, slots := 98, locals := 20 }
def pX10_init (σ : Me) (a0 : Nat) (a1 : Nat) (a2 : Nat) (Q : Me → Prop) : Prop := ∀ (b1 : Nat) (σ2 : Me), b1 = gz σ → σ2 = nw σ 20 49 → gT σ2 a0 = 10 ∧ ∀ σ4 : Me, σ4 = sP σ2 a0 2 (some b1) → ∀ (b5 : Nat) (σ6 : Me), b5 = gz σ4 → σ6 = nw σ4 22 49 → gT σ6 a0 = 10 ∧ ∀ σ8 : Me, σ8 = sP σ6 a0 3 (some b5) → ∀ σ9 : Me, σ9 = sP σ8 a0 0 (some a1) → ∀ σ10 : Me, σ10 = sP σ9 a0 1 (some a2) → Q σ10
set_option maxHeartbeats 4000000 in
set_option maxRecDepth 100000 in
theorem wX10_init {p : Program} {l : Launch} {e : Env} {s : State} {m : MethodId} {args : Array Value} {below : List Frame} {meth : Method} {c : Code} {D : va_G} {cA : Nat → ClassId} {z0 : Nat} (hX : Cx p m c cX10_init 3 s args RX10 D cA) (hlk : meth.locks = false) (hr : meth.sig.returnType = none) (hin : meth.name = "<init>") {σ : Me} {a0 : Nat} {a1 : Nat} {a2 : Nat} {Q : Me → Prop} (h : pX10_init σ a0 a1 a2 Q) {H : Heap} {locs : List Loc} {ls : Array Slot} (hw : wS D cA z0 s σ H locs) (hl : lv_has ls 3 [(0, .ref a0), (1, .ref a1), (2, .ref a2)]) : W p l e rX10_init s m args below meth c H locs 0 0 (MQ below (va_Qv Q (BM D cA z0) (AM z0)) args s 2 98 (AM z0)) (F0 m 0 ls []) := by
  have hx := hX.1.1
  have hb := hX.1.2.1
  have hown := hX.1.2.2.2.1
  have hts := hX.1.2.2.2.2
  unfold pX10_init at h
  refine lv_aload_n hx hb dX10_init_0 rfl (lv_at hl 0 rfl) ?_
  refine m_objInit hX k_165 hl.1 dX10_init_1 (Nat.le_of_ble_eq_true rfl) (Nat.le_of_ble_eq_true rfl) ?_
  refine lv_aload_n hx hb dX10_init_4 rfl (lv_at hl 0 rfl) ?_
  refine lv_bipush (v := 49) hx hb dX10_init_5 (by decide) ?_
  refine m_newa hX hw (t := 0) (by decide) rfl k_119 (N' := 49) (by decide) (by decide) (by decide) ⟨Nat.le_of_ble_eq_true rfl, Nat.le_of_ble_eq_true rfl⟩ dX10_init_7 (fun H hw => ?_)
  let b1 : Nat := gz σ
  let σ2 : Me := nw σ 20 49
  have h := h b1 σ2 rfl rfl
  have hw : wS D cA z0 s σ2 H locs := hw
  obtain ⟨hT3, h⟩ := h
  refine m_putFP hX hin hw cl10 hT3 2 (by decide) k_168 (fun _ h => h) rfl rfl rfl rfl rfl dX10_init_9 (fun H locs hw => ?_)
  let σ4 : Me := sP σ2 a0 2 (some b1)
  have h := h σ4 rfl
  have hw : wS D cA z0 s σ4 H locs := hw
  refine lv_aload_n hx hb dX10_init_12 rfl (lv_at hl 0 rfl) ?_
  refine lv_bipush (v := 49) hx hb dX10_init_13 (by decide) ?_
  refine m_newa hX hw (t := 2) (by decide) rfl k_193 (N' := 49) (by decide) (by decide) (by decide) ⟨Nat.le_of_ble_eq_true rfl, Nat.le_of_ble_eq_true rfl⟩ dX10_init_15 (fun H hw => ?_)
  let b5 : Nat := gz σ4
  let σ6 : Me := nw σ4 22 49
  have h := h b5 σ6 rfl rfl
  have hw : wS D cA z0 s σ6 H locs := hw
  obtain ⟨hT7, h⟩ := h
  refine m_putFP hX hin hw cl10 hT7 3 (by decide) k_169 (fun _ h => h) rfl rfl rfl rfl rfl dX10_init_17 (fun H locs hw => ?_)
  let σ8 : Me := sP σ6 a0 3 (some b5)
  have h := h σ8 rfl
  have hw : wS D cA z0 s σ8 H locs := hw
  refine lv_aload_n hx hb dX10_init_20 rfl (lv_at hl 0 rfl) ?_
  refine lv_aload_n hx hb dX10_init_21 rfl (lv_at hl 1 rfl) ?_
  refine m_putFP hX hin hw cl10 hT7 0 (by decide) k_166 (fun _ h => h) rfl rfl rfl rfl rfl dX10_init_22 (fun H locs hw => ?_)
  let σ9 : Me := sP σ8 a0 0 (some a1)
  have h := h σ9 rfl
  have hw : wS D cA z0 s σ9 H locs := hw
  refine lv_aload_n hx hb dX10_init_25 rfl (lv_at hl 0 rfl) ?_
  refine lv_aload_n hx hb dX10_init_26 rfl (lv_at hl 2 rfl) ?_
  refine m_putFP hX hin hw cl10 hT7 1 (by decide) k_167 (fun _ h => h) rfl rfl rfl rfl rfl dX10_init_27 (fun H locs hw => ?_)
  let σ10 : Me := sP σ9 a0 1 (some a2)
  have h := h σ10 rfl
  have hw : wS D cA z0 s σ10 H locs := hw
  refine W.widen (k := 2) (n := 98) (Nat.le_of_ble_eq_true rfl) (Nat.le_of_ble_eq_true rfl) ?_
  exact m_vret hX hlk hr hw h dX10_init_30
theorem mtX10_init : Mth yX10_init cX10_init 3 none 2 := ⟨k_164, k_47, by decide +kernel⟩
theorem tX10_init {l : Launch} {D : va_G} {cA : Nat → ClassId} {z0 : Nat} {σ : Me} {a0 : Nat} {a1 : Nat} {a2 : Nat} {Q : Me → Prop} (h : pX10_init σ a0 a1 a2 Q) : Met l yX10_init (Cond.code yX10_init cX10_init 3 none :: gTab) rX10_init (PcM D cA z0 σ [.ref a0, .ref a1, .ref a2]) (va_Qv Q (BM D cA z0) (AM z0)) 2 98 (AM z0) :=
  met_of (by decide) (Nat.le_of_ble_eq_true rfl) (fun hX hlk hr hn hw hl => wX10_init hX hlk hr hn h hw hl)
