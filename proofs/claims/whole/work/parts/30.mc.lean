abbrev rX12_in : Room := { frames := 0, cells := 0, slots := 0, locals := 0 }
def pX12_in (σ : Me) (x0 : Int32) (x1 : Int32) (x2 : Int32) (Q : Int32 → Me → Prop) : Prop := ∀ v_1 : Int32, v_1 = (if x0 < x1 then ((0 : Int32)) else (if x2 < x0 then ((0 : Int32)) else ((1 : Int32)))) → (v_1 = 0 ∨ v_1 = 1) ∧ Q v_1 σ
set_option maxHeartbeats 4000000 in
set_option maxRecDepth 100000 in
theorem wX12_in {p : Program} {l : Launch} {e : Env} {s : State} {m : MethodId} {args : Array Value} {below : List Frame} {meth : Method} {c : Code} {D : va_G} {cA : Nat → ClassId} {z0 : Nat} (hX : Cx p m c cX12_in 3 s args RX12 D cA) (hlk : meth.locks = false) (hr : meth.sig.returnType = (some .boolean)) {σ : Me} {x0 : Int32} {x1 : Int32} {x2 : Int32} {Q : Int32 → Me → Prop} (h : pX12_in σ x0 x1 x2 Q) {H : Heap} {locs : List Loc} {ls : Array Slot} (hw : wS D cA z0 s σ H locs) (hl : lv_has ls 3 [(0, .int x0), (1, .int x1), (2, .int x2)]) : W p l e rX12_in s m args below meth c H locs 0 0 (MQ below (va_Qi Q (BM D cA z0) (AM z0)) args s 0 0 (AM z0)) (F0 m 0 ls []) := by
  have hx := hX.1.1
  have hb := hX.1.2.1
  have hown := hX.1.2.2.2.1
  have hts := hX.1.2.2.2.2
  unfold pX12_in at h
  refine lv_iload_n hx hb dX12_in_0 rfl (lv_at hl 0 rfl) ?_
  refine lv_iload_n hx hb dX12_in_1 rfl (lv_at hl 1 rfl) ?_
  have kM2 : ∀ (v_1 : Int32) (ls : Array Slot), v_1 = (if x0 < x1 then ((0 : Int32)) else (if x2 < x0 then ((0 : Int32)) else ((1 : Int32)))) → lv_has ls 3 [] → W p l e rX12_in s m args below meth c H locs 0 0 (MQ below (va_Qi Q (BM D cA z0) (AM z0)) args s 0 0 (AM z0)) (F0 m 15 ls [.int v_1]) := by
    intro v_1 ls e_v_1 hl
    have h := h v_1 e_v_1
    exact m_zret hX hlk hr hw h.1 h.2 dX12_in_15
  refine lv_icmp_lt (tgt := 14) hx hb dX12_in_2 (by decide) (fun hc3 => ?_) (fun hc3 => ?_)
  · refine lv_iconst (v := 0) hx hb dX12_in_14 (by decide) ?_
    exact kM2 _ _ (by first | rfl | rw [if_pos hc3] | simp only [if_pos hc3]) (lv_sub hl [] rfl)
  · refine lv_iload_n hx hb dX12_in_5 rfl (lv_at hl 0 rfl) ?_
    refine lv_iload_n hx hb dX12_in_6 rfl (lv_at hl 2 rfl) ?_
    refine lv_icmp_gt (tgt := 14) hx hb dX12_in_7 (by decide) (fun hc4 => ?_) (fun hc4 => ?_)
    · refine lv_iconst (v := 0) hx hb dX12_in_14 (by decide) ?_
      exact kM2 _ _ (by first | rfl | rw [if_neg hc3, if_pos hc4] | simp only [if_neg hc3, if_pos hc4]) (lv_sub hl [] rfl)
    · refine lv_iconst (v := 1) hx hb dX12_in_10 (by decide) ?_
      refine lv_goto (tgt := 15) hx hb dX12_in_11 (by decide) ?_
      exact kM2 _ _ (by first | rfl | rw [if_neg hc3, if_neg hc4] | simp only [if_neg hc3, if_neg hc4]) (lv_sub hl [] rfl)
theorem mtX12_in : Mth yX12_in cX12_in 3 (some .boolean) 3 := ⟨k_1056, k_50, by decide +kernel⟩
theorem tX12_in {l : Launch} {D : va_G} {cA : Nat → ClassId} {z0 : Nat} {σ : Me} {x0 : Int32} {x1 : Int32} {x2 : Int32} {Q : Int32 → Me → Prop} (h : pX12_in σ x0 x1 x2 Q) : Met l yX12_in (Cond.code yX12_in cX12_in 3 (some .boolean) :: gTab) rX12_in (PcM D cA z0 σ [.int x0, .int x1, .int x2]) (va_Qi Q (BM D cA z0) (AM z0)) 0 0 (AM z0) :=
  met_of (by decide) (Nat.le_of_ble_eq_true rfl) (fun hX hlk hr hn hw hl => wX12_in hX hlk hr h hw hl)
abbrev rX12_meets : Room := { frames := 0, cells := 0, slots := 0, locals := 0 }
def pX12_meets (σ : Me) (a0 : Nat) (x1 : Int32) (Q : Int32 → Me → Prop) : Prop := gT σ a0 = 12 ∧ ∀ σ2 : Me, σ2 = sI σ a0 0 x1 → ∃ b3 : Nat, gP σ2 a0 1 = some b3 ∧ gT σ2 b3 = 20 ∧ vp_in x1 (gN σ2 b3) ∧ vp_in x1 (gN σ2 b3) ∧ ∀ σ7 : Me, σ7 = sI σ2 b3 x1.toNatClampNeg ((gI σ2 b3 x1.toNatClampNeg) + ((1 : Int32))) → Q ((-3 : Int32)) σ7
set_option maxHeartbeats 4000000 in
set_option maxRecDepth 100000 in
theorem wX12_meets {p : Program} {l : Launch} {e : Env} {s : State} {m : MethodId} {args : Array Value} {below : List Frame} {meth : Method} {c : Code} {D : va_G} {cA : Nat → ClassId} {z0 : Nat} (hX : Cx p m c cX12_meets 2 s args RX12 D cA) (hlk : meth.locks = false) (hr : meth.sig.returnType = (some .int)) {σ : Me} {a0 : Nat} {x1 : Int32} {Q : Int32 → Me → Prop} (h : pX12_meets σ a0 x1 Q) {H : Heap} {locs : List Loc} {ls : Array Slot} (hw : wS D cA z0 s σ H locs) (hl : lv_has ls 2 [(0, .ref a0), (1, .int x1)]) : W p l e rX12_meets s m args below meth c H locs 0 0 (MQ below (va_Qi Q (BM D cA z0) (AM z0)) args s 0 0 (AM z0)) (F0 m 0 ls []) := by
  have hx := hX.1.1
  have hb := hX.1.2.1
  have hown := hX.1.2.2.2.1
  have hts := hX.1.2.2.2.2
  unfold pX12_meets at h
  refine lv_aload_n hx hb dX12_meets_0 rfl (lv_at hl 0 rfl) ?_
  refine lv_iload_n hx hb dX12_meets_1 rfl (lv_at hl 1 rfl) ?_
  obtain ⟨hT1, h⟩ := h
  refine m_putI hX hw cl12 hT1 0 (by decide) k_874 (fun _ h => h) rfl rfl dX12_meets_2 (fun H locs hw => ?_)
  let σ2 : Me := sI σ a0 0 x1
  have h := h σ2 rfl
  have hw : wS D cA z0 s σ2 H locs := hw
  refine lv_aload_n hx hb dX12_meets_5 rfl (lv_at hl 0 rfl) ?_
  obtain ⟨b3, hb3, h⟩ := h
  refine m_get hX hw cl12 hT1 1 (by decide) k_875 (fun _ h => h) (v := .ref b3) (congrArg va_rf hb3) dX12_meets_6 ?_
  refine lv_iload_n hx hb dX12_meets_9 rfl (lv_at hl 1 rfl) ?_
  refine lv_dup2_11 hx hb dX12_meets_10 rfl rfl ?_
  obtain ⟨hT4, h⟩ := h
  obtain ⟨hc5, h⟩ := h
  refine m_iald hX hw hT4 hc5 dX12_meets_11 ?_
  refine lv_iconst (v := 1) hx hb dX12_meets_12 (by decide) ?_
  refine lv_iadd hx hb dX12_meets_13 ?_
  obtain ⟨hc6, h⟩ := h
  refine m_iast hX hw hT4 hc6 dX12_meets_14 (fun H locs hw => ?_)
  let σ7 : Me := sI σ2 b3 x1.toNatClampNeg ((gI σ2 b3 x1.toNatClampNeg) + ((1 : Int32)))
  have h := h σ7 rfl
  have hw : wS D cA z0 s σ7 H locs := hw
  refine lv_bipush (v := (-3)) hx hb dX12_meets_15 (by decide) ?_
  exact m_iret hX hlk hr hw h dX12_meets_17
theorem mtX12_meets : Mth yX12_meets cX12_meets 2 (some .int) 1 := ⟨k_1079, k_50, by decide +kernel⟩
theorem tX12_meets {l : Launch} {D : va_G} {cA : Nat → ClassId} {z0 : Nat} {σ : Me} {a0 : Nat} {x1 : Int32} {Q : Int32 → Me → Prop} (h : pX12_meets σ a0 x1 Q) : Met l yX12_meets (Cond.code yX12_meets cX12_meets 2 (some .int) :: gTab) rX12_meets (PcM D cA z0 σ [.ref a0, .int x1]) (va_Qi Q (BM D cA z0) (AM z0)) 0 0 (AM z0) :=
  met_of (by decide) (Nat.le_of_ble_eq_true rfl) (fun hX hlk hr hn hw hl => wX12_meets hX hlk hr h hw hl)
abbrev rX12_finding : Room := { frames := 0, cells := 0, slots := 0, locals := 0 }
def pX12_finding (σ : Me) (a0 : Nat) (Q : Int32 → Me → Prop) : Prop := gT σ a0 = 12 ∧ Q (gI σ a0 0) σ
set_option maxHeartbeats 4000000 in
set_option maxRecDepth 100000 in
theorem wX12_finding {p : Program} {l : Launch} {e : Env} {s : State} {m : MethodId} {args : Array Value} {below : List Frame} {meth : Method} {c : Code} {D : va_G} {cA : Nat → ClassId} {z0 : Nat} (hX : Cx p m c cX12_finding 1 s args RX12 D cA) (hlk : meth.locks = false) (hr : meth.sig.returnType = (some .int)) {σ : Me} {a0 : Nat} {Q : Int32 → Me → Prop} (h : pX12_finding σ a0 Q) {H : Heap} {locs : List Loc} {ls : Array Slot} (hw : wS D cA z0 s σ H locs) (hl : lv_has ls 1 [(0, .ref a0)]) : W p l e rX12_finding s m args below meth c H locs 0 0 (MQ below (va_Qi Q (BM D cA z0) (AM z0)) args s 0 0 (AM z0)) (F0 m 0 ls []) := by
  have hx := hX.1.1
  have hb := hX.1.2.1
  have hown := hX.1.2.2.2.1
  have hts := hX.1.2.2.2.2
  unfold pX12_finding at h
  refine lv_aload_n hx hb dX12_finding_0 rfl (lv_at hl 0 rfl) ?_
  obtain ⟨hT1, h⟩ := h
  refine m_get hX hw cl12 hT1 0 (by decide) k_874 (fun _ h => h) (v := .int _) rfl dX12_finding_1 ?_
  exact m_iret hX hlk hr hw h dX12_finding_4
theorem mtX12_finding : Mth yX12_finding cX12_finding 1 (some .int) 0 := ⟨k_1049, k_50, by decide +kernel⟩
theorem tX12_finding {l : Launch} {D : va_G} {cA : Nat → ClassId} {z0 : Nat} {σ : Me} {a0 : Nat} {Q : Int32 → Me → Prop} (h : pX12_finding σ a0 Q) : Met l yX12_finding (Cond.code yX12_finding cX12_finding 1 (some .int) :: gTab) rX12_finding (PcM D cA z0 σ [.ref a0]) (va_Qi Q (BM D cA z0) (AM z0)) 0 0 (AM z0) :=
  met_of (by decide) (Nat.le_of_ble_eq_true rfl) (fun hX hlk hr hn hw hl => wX12_finding hX hlk hr h hw hl)
abbrev rX12_findings : Room := { frames := 1, cells := 0, slots := 0, locals := 22 }
def pX12_findings (σ : Me) (a0 : Nat) (x1 : Int32) (Q : Int32 → Me → Prop) : Prop := pX12_in σ x1 ((1 : Int32)) ((5 : Int32)) (fun r1 σ2 => (r1 = 0 → Q ((-1 : Int32)) σ2) ∧ (¬ r1 = 0 → gT σ2 a0 = 12 ∧ ∃ b6 : Nat, gP σ2 a0 1 = some b6 ∧ gT σ2 b6 = 20 ∧ vp_in x1 (gN σ2 b6) ∧ Q (gI σ2 b6 x1.toNatClampNeg) σ2))
set_option maxHeartbeats 4000000 in
set_option maxRecDepth 100000 in
theorem wX12_findings {p : Program} {l : Launch} {e : Env} {s : State} {m : MethodId} {args : Array Value} {below : List Frame} {meth : Method} {c : Code} {D : va_G} {cA : Nat → ClassId} {z0 : Nat} (hX : Cx p m c cX12_findings 2 s args RX12 D cA) (hlk : meth.locks = false) (hr : meth.sig.returnType = (some .int)) {σ : Me} {a0 : Nat} {x1 : Int32} {Q : Int32 → Me → Prop} (h : pX12_findings σ a0 x1 Q) {H : Heap} {locs : List Loc} {ls : Array Slot} (hw : wS D cA z0 s σ H locs) (hl : lv_has ls 2 [(0, .ref a0), (1, .int x1)]) : W p l e rX12_findings s m args below meth c H locs 0 0 (MQ below (va_Qi Q (BM D cA z0) (AM z0)) args s 0 0 (AM z0)) (F0 m 0 ls []) := by
  have hx := hX.1.1
  have hb := hX.1.2.1
  have hown := hX.1.2.2.2.1
  have hts := hX.1.2.2.2.2
  unfold pX12_findings at h
  refine lv_iload_n hx hb dX12_findings_0 rfl (lv_at hl 1 rfl) ?_
  refine lv_iconst (v := 1) hx hb dX12_findings_1 (by decide) ?_
  refine lv_iconst (v := 5) hx hb dX12_findings_2 (by decide) ?_
  refine m_ci (m_runS (rest := []) hX hw (tX12_in h) mtX12_in k_1054 k_1055 ⟨⟨rfl, rfl, Nat.le_of_ble_eq_true rfl, Nat.le_of_ble_eq_true rfl⟩, Nat.le_of_ble_eq_true rfl, Nat.le_of_ble_eq_true rfl⟩ rfl hl.1 rfl (Nat.le_of_ble_eq_true rfl) dX12_findings_3) hw (fun r1 σ2 H locs h hw => ?_)
  refine lv_if_eq (tgt := 18) hx hb dX12_findings_6 (by decide) (fun hc4 => ?_) (fun hc4 => ?_)
  · have h := h.1 hc4
    refine lv_iconst (v := (-1)) hx hb dX12_findings_18 (by decide) ?_
    exact m_iret hX hlk hr hw h dX12_findings_19
  · have h := h.2 hc4
    refine lv_aload_n hx hb dX12_findings_9 rfl (lv_at hl 0 rfl) ?_
    obtain ⟨hT5, h⟩ := h
    obtain ⟨b6, hb6, h⟩ := h
    refine m_get hX hw cl12 hT5 1 (by decide) k_875 (fun _ h => h) (v := .ref b6) (congrArg va_rf hb6) dX12_findings_10 ?_
    refine lv_iload_n hx hb dX12_findings_13 rfl (lv_at hl 1 rfl) ?_
    obtain ⟨hT7, h⟩ := h
    obtain ⟨hc8, h⟩ := h
    refine m_iald hX hw hT7 hc8 dX12_findings_14 ?_
    refine lv_goto (tgt := 19) hx hb dX12_findings_15 (by decide) ?_
    exact m_iret hX hlk hr hw h dX12_findings_19
theorem mtX12_findings : Mth yX12_findings cX12_findings 2 (some .int) 1 := ⟨k_1053, k_50, by decide +kernel⟩
theorem tX12_findings {l : Launch} {D : va_G} {cA : Nat → ClassId} {z0 : Nat} {σ : Me} {a0 : Nat} {x1 : Int32} {Q : Int32 → Me → Prop} (h : pX12_findings σ a0 x1 Q) : Met l yX12_findings (Cond.code yX12_findings cX12_findings 2 (some .int) :: gTab) rX12_findings (PcM D cA z0 σ [.ref a0, .int x1]) (va_Qi Q (BM D cA z0) (AM z0)) 0 0 (AM z0) :=
  met_of (by decide) (Nat.le_of_ble_eq_true rfl) (fun hX hlk hr hn hw hl => wX12_findings hX hlk hr h hw hl)
abbrev rX12_gcd : Room := { frames := 0, cells := 0, slots := 0, locals := 0 }
def pX12_gcd (σ : Me) (y0 : Int64) (y2 : Int64) (Q : Int64 → Me → Prop) : Prop := ∃ I6 : Nat → Me → Int64 → Int64 → Prop, (∀ (n6 : Nat) (σ1 : Me) (x4_2 : Int64) (x6_3 : Int64), I6 n6 σ1 x4_2 x6_3 → (x6_3 = ((0 : Int64)) → Q x4_2 σ1) ∧ (¬ x6_3 = ((0 : Int64)) → ¬ x6_3 = 0 ∧ ∀ x8_9 : Int64, x8_9 = (x4_2 - x4_2 / x6_3 * x6_3) → ∃ m6 : Nat, m6 < n6 ∧ I6 m6 σ1 x6_3 x8_9)) ∧ ∃ n6 : Nat, I6 n6 σ y0 y2
set_option maxHeartbeats 4000000 in
set_option maxRecDepth 100000 in
theorem wX12_gcd {p : Program} {l : Launch} {e : Env} {s : State} {m : MethodId} {args : Array Value} {below : List Frame} {meth : Method} {c : Code} {D : va_G} {cA : Nat → ClassId} {z0 : Nat} (hX : Cx p m c cX12_gcd 10 s args RX12 D cA) (hlk : meth.locks = false) (hr : meth.sig.returnType = (some .long)) {σ : Me} {y0 : Int64} {y2 : Int64} {Q : Int64 → Me → Prop} (h : pX12_gcd σ y0 y2 Q) {H : Heap} {locs : List Loc} {ls : Array Slot} (hw : wS D cA z0 s σ H locs) (hl : lv_has ls 10 [(0, .long y0), (2, .long y2)]) : W p l e rX12_gcd s m args below meth c H locs 0 0 (MQ below (va_Ql Q (BM D cA z0) (AM z0)) args s 0 0 (AM z0)) (F0 m 0 ls []) := by
  have hx := hX.1.1
  have hb := hX.1.2.1
  have hown := hX.1.2.2.2.1
  have hts := hX.1.2.2.2.2
  unfold pX12_gcd at h
  refine lv_lload_n hx hb dX12_gcd_0 rfl (lv_at hl 0 rfl) ?_
  refine lv_lstore (lv' := [(4, _), (0, _), (2, _)]) hx hb dX12_gcd_1 hl (by decide) rfl (fun ls hl => ?_)
  refine lv_lload_n hx hb dX12_gcd_3 rfl (lv_at hl 2 rfl) ?_
  refine lv_lstore (lv' := [(6, _), (4, _), (0, _), (2, _)]) hx hb dX12_gcd_4 hl (by decide) rfl (fun ls hl => ?_)
  obtain ⟨I6, hI6, n6, h⟩ := h
  have key6 : ∀ (n6 : Nat) (σ1 : Me) (x4_2 : Int64) (x6_3 : Int64) (H : Heap) (locs : List Loc) (ls : Array Slot), I6 n6 σ1 x4_2 x6_3 → wS D cA z0 s σ1 H locs → lv_has ls 10 [(4, .long x4_2), (6, .long x6_3)] → W p l e rX12_gcd s m args below meth c H locs 0 0 (MQ below (va_Ql Q (BM D cA z0) (AM z0)) args s 0 0 (AM z0)) (F0 m 6 ls []) := by
    intro n6
    induction n6 using Nat.strongRecOn with
    | _ n6 ih6 =>
      intro σ1 x4_2 x6_3 H locs ls h hw hl
      have h := hI6 _ _ _ _ h
      refine lv_lload hx hb dX12_gcd_6 (lv_at hl 1 rfl) ?_
      refine lv_lconst (v := 0) hx hb dX12_gcd_8 (by decide) ?_
      refine m_leq (tgt := 31) hX dX12_gcd_9 dX12_gcd_10 (by decide) (fun hc7 => ?_) (fun hc7 => ?_)
      · have h := h.1 hc7
        refine lv_lload hx hb dX12_gcd_31 (lv_at hl 0 rfl) ?_
        exact m_lret hX hlk hr hw h dX12_gcd_33
      · have h := h.2 hc7
        refine lv_lload hx hb dX12_gcd_13 (lv_at hl 0 rfl) ?_
        refine lv_lload hx hb dX12_gcd_15 (lv_at hl 1 rfl) ?_
        obtain ⟨hc8, h⟩ := h
        refine lv_lrem hx hb dX12_gcd_17 hc8 ?_
        refine lv_topl (fun x8_9 e_x8_9 => ?_)
        have h := h x8_9 e_x8_9
        refine lv_lstore (lv' := [(8, _), (4, _), (6, _)]) hx hb dX12_gcd_18 hl (by decide) rfl (fun ls hl => ?_)
        refine lv_lload hx hb dX12_gcd_20 (lv_at hl 2 rfl) ?_
        refine lv_lstore (lv' := [(4, _), (8, _), (6, _)]) hx hb dX12_gcd_22 hl (by decide) rfl (fun ls hl => ?_)
        refine lv_lload hx hb dX12_gcd_24 (lv_at hl 1 rfl) ?_
        refine lv_lstore (lv' := [(6, _), (4, _), (8, _)]) hx hb dX12_gcd_26 hl (by decide) rfl (fun ls hl => ?_)
        refine lv_goto (tgt := 6) hx hb dX12_gcd_28 (by decide) ?_
        obtain ⟨m6, hm6, h⟩ := h
        exact ih6 m6 hm6 _ _ _ _ _ _ h hw (lv_sub hl [1, 0] rfl)
  exact key6 _ _ _ _ _ _ _ h hw (lv_sub hl [1, 0] rfl)
theorem mtX12_gcd : Mth yX12_gcd cX12_gcd 10 (some .long) 2 := ⟨k_1202, k_50, by decide +kernel⟩
theorem tX12_gcd {l : Launch} {D : va_G} {cA : Nat → ClassId} {z0 : Nat} {σ : Me} {y0 : Int64} {y2 : Int64} {Q : Int64 → Me → Prop} (h : pX12_gcd σ y0 y2 Q) : Met l yX12_gcd (Cond.code yX12_gcd cX12_gcd 10 (some .long) :: gTab) rX12_gcd (PcM D cA z0 σ [.long y0, .long y2]) (va_Ql Q (BM D cA z0) (AM z0)) 0 0 (AM z0) :=
  met_of (by decide) (Nat.le_of_ble_eq_true rfl) (fun hX hlk hr hn hw hl => wX12_gcd hX hlk hr h hw hl)
abbrev rX12_tells : Room := { frames := 1, cells := 0, slots := 0, locals := 29 }
def pX12_tells (σ : Me) (a0 : Nat) (y1 : Int64) (y3 : Int64) (x5 : Int32) (Q : Int32 → Me → Prop) : Prop := pX12_gcd σ y1 y3 (fun r1 σ2 => ¬ r1 = 0 ∧ gT σ2 a0 = 12 ∧ ∀ σ5 : Me, σ5 = sL σ2 a0 2 (y1 / r1) → ¬ r1 = 0 ∧ ∀ σ7 : Me, σ7 = sL σ5 a0 3 (y3 / r1) → Q x5 σ7)
set_option maxHeartbeats 4000000 in
set_option maxRecDepth 100000 in
theorem wX12_tells {p : Program} {l : Launch} {e : Env} {s : State} {m : MethodId} {args : Array Value} {below : List Frame} {meth : Method} {c : Code} {D : va_G} {cA : Nat → ClassId} {z0 : Nat} (hX : Cx p m c cX12_tells 8 s args RX12 D cA) (hlk : meth.locks = false) (hr : meth.sig.returnType = (some .int)) {σ : Me} {a0 : Nat} {y1 : Int64} {y3 : Int64} {x5 : Int32} {Q : Int32 → Me → Prop} (h : pX12_tells σ a0 y1 y3 x5 Q) {H : Heap} {locs : List Loc} {ls : Array Slot} (hw : wS D cA z0 s σ H locs) (hl : lv_has ls 8 [(0, .ref a0), (1, .long y1), (3, .long y3), (5, .int x5)]) : W p l e rX12_tells s m args below meth c H locs 0 0 (MQ below (va_Qi Q (BM D cA z0) (AM z0)) args s 0 0 (AM z0)) (F0 m 0 ls []) := by
  have hx := hX.1.1
  have hb := hX.1.2.1
  have hown := hX.1.2.2.2.1
  have hts := hX.1.2.2.2.2
  unfold pX12_tells at h
  refine lv_lload_n hx hb dX12_tells_0 rfl (lv_at hl 1 rfl) ?_
  refine lv_lload_n hx hb dX12_tells_1 rfl (lv_at hl 2 rfl) ?_
  refine m_cl (m_runS (rest := []) hX hw (tX12_gcd h) mtX12_gcd k_1200 k_1201 ⟨⟨rfl, rfl, Nat.le_of_ble_eq_true rfl, Nat.le_of_ble_eq_true rfl⟩, Nat.le_of_ble_eq_true rfl, Nat.le_of_ble_eq_true rfl⟩ rfl hl.1 rfl (Nat.le_of_ble_eq_true rfl) dX12_tells_2) hw (fun r1 σ2 H locs h hw => ?_)
  refine lv_lstore (lv' := [(6, _), (0, _), (1, _), (3, _), (5, _)]) hx hb dX12_tells_5 hl (by decide) rfl (fun ls hl => ?_)
  refine lv_aload_n hx hb dX12_tells_7 rfl (lv_at hl 1 rfl) ?_
  refine lv_lload_n hx hb dX12_tells_8 rfl (lv_at hl 2 rfl) ?_
  refine lv_lload hx hb dX12_tells_9 (lv_at hl 0 rfl) ?_
  obtain ⟨hc3, h⟩ := h
  refine lv_ldiv hx hb dX12_tells_11 hc3 ?_
  obtain ⟨hT4, h⟩ := h
  refine m_putL hX hw cl12 hT4 2 (by decide) k_876 (fun _ h => h) rfl rfl dX12_tells_12 (fun H locs hw => ?_)
  let σ5 : Me := sL σ2 a0 2 (y1 / r1)
  have h := h σ5 rfl
  have hw : wS D cA z0 s σ5 H locs := hw
  refine lv_aload_n hx hb dX12_tells_15 rfl (lv_at hl 1 rfl) ?_
  refine lv_lload_n hx hb dX12_tells_16 rfl (lv_at hl 3 rfl) ?_
  refine lv_lload hx hb dX12_tells_17 (lv_at hl 0 rfl) ?_
  obtain ⟨hc6, h⟩ := h
  refine lv_ldiv hx hb dX12_tells_19 hc6 ?_
  refine m_putL hX hw cl12 hT4 3 (by decide) k_877 (fun _ h => h) rfl rfl dX12_tells_20 (fun H locs hw => ?_)
  let σ7 : Me := sL σ5 a0 3 (y3 / r1)
  have h := h σ7 rfl
  have hw : wS D cA z0 s σ7 H locs := hw
  refine lv_iload hx hb dX12_tells_23 (lv_at hl 4 rfl) ?_
  exact m_iret hX hlk hr hw h dX12_tells_25
theorem mtX12_tells : Mth yX12_tells cX12_tells 8 (some .int) 3 := ⟨k_1199, k_50, by decide +kernel⟩
theorem tX12_tells {l : Launch} {D : va_G} {cA : Nat → ClassId} {z0 : Nat} {σ : Me} {a0 : Nat} {y1 : Int64} {y3 : Int64} {x5 : Int32} {Q : Int32 → Me → Prop} (h : pX12_tells σ a0 y1 y3 x5 Q) : Met l yX12_tells (Cond.code yX12_tells cX12_tells 8 (some .int) :: gTab) rX12_tells (PcM D cA z0 σ [.ref a0, .long y1, .long y3, .int x5]) (va_Qi Q (BM D cA z0) (AM z0)) 0 0 (AM z0) :=
  met_of (by decide) (Nat.le_of_ble_eq_true rfl) (fun hX hlk hr hn hw hl => wX12_tells hX hlk hr h hw hl)
abbrev rX12_upper : Room := { frames := 0, cells := 0, slots := 0, locals := 0 }
def pX12_upper (σ : Me) (a0 : Nat) (Q : Int64 → Me → Prop) : Prop := gT σ a0 = 12 ∧ Q (gL σ a0 2) σ
set_option maxHeartbeats 4000000 in
set_option maxRecDepth 100000 in
theorem wX12_upper {p : Program} {l : Launch} {e : Env} {s : State} {m : MethodId} {args : Array Value} {below : List Frame} {meth : Method} {c : Code} {D : va_G} {cA : Nat → ClassId} {z0 : Nat} (hX : Cx p m c cX12_upper 1 s args RX12 D cA) (hlk : meth.locks = false) (hr : meth.sig.returnType = (some .long)) {σ : Me} {a0 : Nat} {Q : Int64 → Me → Prop} (h : pX12_upper σ a0 Q) {H : Heap} {locs : List Loc} {ls : Array Slot} (hw : wS D cA z0 s σ H locs) (hl : lv_has ls 1 [(0, .ref a0)]) : W p l e rX12_upper s m args below meth c H locs 0 0 (MQ below (va_Ql Q (BM D cA z0) (AM z0)) args s 0 0 (AM z0)) (F0 m 0 ls []) := by
  have hx := hX.1.1
  have hb := hX.1.2.1
  have hown := hX.1.2.2.2.1
  have hts := hX.1.2.2.2.2
  unfold pX12_upper at h
  refine lv_aload_n hx hb dX12_upper_0 rfl (lv_at hl 0 rfl) ?_
  obtain ⟨hT1, h⟩ := h
  refine m_get hX hw cl12 hT1 2 (by decide) k_876 (fun _ h => h) (v := .long _) rfl dX12_upper_1 ?_
  exact m_lret hX hlk hr hw h dX12_upper_4
theorem mtX12_upper : Mth yX12_upper cX12_upper 1 (some .long) 0 := ⟨k_1060, k_50, by decide +kernel⟩
theorem tX12_upper {l : Launch} {D : va_G} {cA : Nat → ClassId} {z0 : Nat} {σ : Me} {a0 : Nat} {Q : Int64 → Me → Prop} (h : pX12_upper σ a0 Q) : Met l yX12_upper (Cond.code yX12_upper cX12_upper 1 (some .long) :: gTab) rX12_upper (PcM D cA z0 σ [.ref a0]) (va_Ql Q (BM D cA z0) (AM z0)) 0 0 (AM z0) :=
  met_of (by decide) (Nat.le_of_ble_eq_true rfl) (fun hX hlk hr hn hw hl => wX12_upper hX hlk hr h hw hl)
abbrev rX12_lower : Room := { frames := 0, cells := 0, slots := 0, locals := 0 }
def pX12_lower (σ : Me) (a0 : Nat) (Q : Int64 → Me → Prop) : Prop := gT σ a0 = 12 ∧ Q (gL σ a0 3) σ
set_option maxHeartbeats 4000000 in
set_option maxRecDepth 100000 in
theorem wX12_lower {p : Program} {l : Launch} {e : Env} {s : State} {m : MethodId} {args : Array Value} {below : List Frame} {meth : Method} {c : Code} {D : va_G} {cA : Nat → ClassId} {z0 : Nat} (hX : Cx p m c cX12_lower 1 s args RX12 D cA) (hlk : meth.locks = false) (hr : meth.sig.returnType = (some .long)) {σ : Me} {a0 : Nat} {Q : Int64 → Me → Prop} (h : pX12_lower σ a0 Q) {H : Heap} {locs : List Loc} {ls : Array Slot} (hw : wS D cA z0 s σ H locs) (hl : lv_has ls 1 [(0, .ref a0)]) : W p l e rX12_lower s m args below meth c H locs 0 0 (MQ below (va_Ql Q (BM D cA z0) (AM z0)) args s 0 0 (AM z0)) (F0 m 0 ls []) := by
  have hx := hX.1.1
  have hb := hX.1.2.1
  have hown := hX.1.2.2.2.1
  have hts := hX.1.2.2.2.2
  unfold pX12_lower at h
  refine lv_aload_n hx hb dX12_lower_0 rfl (lv_at hl 0 rfl) ?_
  obtain ⟨hT1, h⟩ := h
  refine m_get hX hw cl12 hT1 3 (by decide) k_877 (fun _ h => h) (v := .long _) rfl dX12_lower_1 ?_
  exact m_lret hX hlk hr hw h dX12_lower_4
theorem mtX12_lower : Mth yX12_lower cX12_lower 1 (some .long) 0 := ⟨k_1064, k_50, by decide +kernel⟩
theorem tX12_lower {l : Launch} {D : va_G} {cA : Nat → ClassId} {z0 : Nat} {σ : Me} {a0 : Nat} {Q : Int64 → Me → Prop} (h : pX12_lower σ a0 Q) : Met l yX12_lower (Cond.code yX12_lower cX12_lower 1 (some .long) :: gTab) rX12_lower (PcM D cA z0 σ [.ref a0]) (va_Ql Q (BM D cA z0) (AM z0)) 0 0 (AM z0) :=
  met_of (by decide) (Nat.le_of_ble_eq_true rfl) (fun hX hlk hr hn hw hl => wX12_lower hX hlk hr h hw hl)
abbrev rX12_isPlace : Room := { frames := 1, cells := 0, slots := 0, locals := 22 }
def pX12_isPlace (σ : Me) (x0 : Int32) (Q : Int32 → Me → Prop) : Prop := pX12_in σ x0 ((0 : Int32)) ((3 : Int32)) (fun r1 σ2 => (r1 = 0 ∨ r1 = 1) ∧ Q r1 σ2)
set_option maxHeartbeats 4000000 in
set_option maxRecDepth 100000 in
theorem wX12_isPlace {p : Program} {l : Launch} {e : Env} {s : State} {m : MethodId} {args : Array Value} {below : List Frame} {meth : Method} {c : Code} {D : va_G} {cA : Nat → ClassId} {z0 : Nat} (hX : Cx p m c cX12_isPlace 1 s args RX12 D cA) (hlk : meth.locks = false) (hr : meth.sig.returnType = (some .boolean)) {σ : Me} {x0 : Int32} {Q : Int32 → Me → Prop} (h : pX12_isPlace σ x0 Q) {H : Heap} {locs : List Loc} {ls : Array Slot} (hw : wS D cA z0 s σ H locs) (hl : lv_has ls 1 [(0, .int x0)]) : W p l e rX12_isPlace s m args below meth c H locs 0 0 (MQ below (va_Qi Q (BM D cA z0) (AM z0)) args s 0 0 (AM z0)) (F0 m 0 ls []) := by
  have hx := hX.1.1
  have hb := hX.1.2.1
  have hown := hX.1.2.2.2.1
  have hts := hX.1.2.2.2.2
  unfold pX12_isPlace at h
  refine lv_iload_n hx hb dX12_isPlace_0 rfl (lv_at hl 0 rfl) ?_
  refine lv_iconst (v := 0) hx hb dX12_isPlace_1 (by decide) ?_
  refine lv_iconst (v := 3) hx hb dX12_isPlace_2 (by decide) ?_
  refine m_ci (m_runS (rest := []) hX hw (tX12_in h) mtX12_in k_1054 k_1055 ⟨⟨rfl, rfl, Nat.le_of_ble_eq_true rfl, Nat.le_of_ble_eq_true rfl⟩, Nat.le_of_ble_eq_true rfl, Nat.le_of_ble_eq_true rfl⟩ rfl hl.1 rfl (Nat.le_of_ble_eq_true rfl) dX12_isPlace_3) hw (fun r1 σ2 H locs h hw => ?_)
  exact m_zret hX hlk hr hw h.1 h.2 dX12_isPlace_6
theorem mtX12_isPlace : Mth yX12_isPlace cX12_isPlace 1 (some .boolean) 1 := ⟨k_1071, k_50, by decide +kernel⟩
theorem tX12_isPlace {l : Launch} {D : va_G} {cA : Nat → ClassId} {z0 : Nat} {σ : Me} {x0 : Int32} {Q : Int32 → Me → Prop} (h : pX12_isPlace σ x0 Q) : Met l yX12_isPlace (Cond.code yX12_isPlace cX12_isPlace 1 (some .boolean) :: gTab) rX12_isPlace (PcM D cA z0 σ [.int x0]) (va_Qi Q (BM D cA z0) (AM z0)) 0 0 (AM z0) :=
  met_of (by decide) (Nat.le_of_ble_eq_true rfl) (fun hX hlk hr hn hw hl => wX12_isPlace hX hlk hr h hw hl)
abbrev rX12_book : Room := { frames := 2, cells := 0, slots := 0, locals := 42 }
def pX12_book (σ : Me) (a0 : Nat) (x1 : Int32) (Q : Int32 → Me → Prop) : Prop := pX12_isPlace σ x1 (fun r1 σ2 => (r1 = 0 → Q ((-1 : Int32)) σ2) ∧ (¬ r1 = 0 → gT σ2 a0 = 12 ∧ ∃ b5 : Nat, gP σ2 a0 4 = some b5 ∧ gT σ2 b5 = 22 ∧ vp_in x1 (gN σ2 b5) ∧ ∀ v_8 : Int32, v_8 = (if (gI σ2 b5 x1.toNatClampNeg) = 0 then ((0 : Int32)) else ((1 : Int32))) → vp_in x1 (gN σ2 b5) ∧ ∀ σ11 : Me, σ11 = sI σ2 b5 x1.toNatClampNeg (vp_nar .boolean ((1 : Int32))) → ∃ I33 : Nat → Me → Int32 → Prop, (∀ (n33 : Nat) (σ12 : Me) (x3_13 : Int32), I33 n33 σ12 x3_13 → (((7 : Int32)) ≤ x3_13 → Q v_8 σ12) ∧ (¬ ((7 : Int32)) ≤ x3_13 → gT σ12 a0 = 12 ∧ ∃ b17 : Nat, gP σ12 a0 5 = some b17 ∧ gT σ12 b17 = 20 ∧ vp_in ((((7 : Int32)) * x1) + x3_13) (gN σ12 b17) ∧ ∀ σ20 : Me, σ20 = sI σ12 b17 ((((7 : Int32)) * x1) + x3_13).toNatClampNeg ((0 : Int32)) → ∀ x3_21 : Int32, x3_21 = x3_13 + 1 → ∃ m33 : Nat, m33 < n33 ∧ I33 m33 σ20 x3_21)) ∧ ∃ n33 : Nat, I33 n33 σ11 ((0 : Int32))))
set_option maxHeartbeats 4000000 in
set_option maxRecDepth 100000 in
theorem wX12_book {p : Program} {l : Launch} {e : Env} {s : State} {m : MethodId} {args : Array Value} {below : List Frame} {meth : Method} {c : Code} {D : va_G} {cA : Nat → ClassId} {z0 : Nat} (hX : Cx p m c cX12_book 4 s args RX12 D cA) (hlk : meth.locks = false) (hr : meth.sig.returnType = (some .int)) {σ : Me} {a0 : Nat} {x1 : Int32} {Q : Int32 → Me → Prop} (h : pX12_book σ a0 x1 Q) {H : Heap} {locs : List Loc} {ls : Array Slot} (hw : wS D cA z0 s σ H locs) (hl : lv_has ls 4 [(0, .ref a0), (1, .int x1)]) : W p l e rX12_book s m args below meth c H locs 0 0 (MQ below (va_Qi Q (BM D cA z0) (AM z0)) args s 0 0 (AM z0)) (F0 m 0 ls []) := by
  have hx := hX.1.1
  have hb := hX.1.2.1
  have hown := hX.1.2.2.2.1
  have hts := hX.1.2.2.2.2
  unfold pX12_book at h
  refine lv_iload_n hx hb dX12_book_0 rfl (lv_at hl 1 rfl) ?_
  refine m_ci (m_runS (rest := []) hX hw (tX12_isPlace h) mtX12_isPlace k_1069 k_1070 ⟨⟨rfl, rfl, Nat.le_of_ble_eq_true rfl, Nat.le_of_ble_eq_true rfl⟩, Nat.le_of_ble_eq_true rfl, Nat.le_of_ble_eq_true rfl⟩ rfl hl.1 rfl (Nat.le_of_ble_eq_true rfl) dX12_book_1) hw (fun r1 σ2 H locs h hw => ?_)
  refine lv_if_ne (tgt := 9) hx hb dX12_book_4 (by decide) (fun hc3 => ?_) (fun hc3 => ?_)
  · have h := h.2 hc3
    refine lv_aload_n hx hb dX12_book_9 rfl (lv_at hl 0 rfl) ?_
    obtain ⟨hT4, h⟩ := h
    obtain ⟨b5, hb5, h⟩ := h
    refine m_get hX hw cl12 hT4 4 (by decide) k_878 (fun _ h => h) (v := .ref b5) (congrArg va_rf hb5) dX12_book_10 ?_
    refine lv_iload_n hx hb dX12_book_13 rfl (lv_at hl 1 rfl) ?_
    obtain ⟨hT6, h⟩ := h
    obtain ⟨hc7, h⟩ := h
    refine m_zald hX hw hT6 hc7 dX12_book_14 ?_
    have kM9 : ∀ (v_8 : Int32) (ls : Array Slot), v_8 = (if (gI σ2 b5 x1.toNatClampNeg) = 0 then ((0 : Int32)) else ((1 : Int32))) → lv_has ls 4 [(0, .ref a0), (1, .int x1)] → W p l e rX12_book s m args below meth c H locs 0 0 (MQ below (va_Qi Q (BM D cA z0) (AM z0)) args s 0 0 (AM z0)) (F0 m 23 ls [.int v_8]) := by
      intro v_8 ls e_v_8 hl
      have h := h v_8 e_v_8
      refine lv_istore_n (lv' := [(2, _), (0, _), (1, _)]) hx hb dX12_book_23 rfl hl (by decide) rfl (fun ls hl => ?_)
      refine lv_aload_n hx hb dX12_book_24 rfl (lv_at hl 1 rfl) ?_
      refine m_get hX hw cl12 hT4 4 (by decide) k_878 (fun _ h => h) (v := .ref b5) (congrArg va_rf hb5) dX12_book_25 ?_
      refine lv_iload_n hx hb dX12_book_28 rfl (lv_at hl 2 rfl) ?_
      refine lv_iconst (v := 1) hx hb dX12_book_29 (by decide) ?_
      obtain ⟨hc10, h⟩ := h
      refine m_zast hX hw hT6 hc10 dX12_book_30 (fun H locs hw => ?_)
      let σ11 : Me := sI σ2 b5 x1.toNatClampNeg (vp_nar .boolean ((1 : Int32)))
      have h := h σ11 rfl
      have hw : wS D cA z0 s σ11 H locs := hw
      refine lv_iconst (v := 0) hx hb dX12_book_31 (by decide) ?_
      refine lv_istore_n (lv' := [(3, _), (2, _), (0, _), (1, _)]) hx hb dX12_book_32 rfl hl (by decide) rfl (fun ls hl => ?_)
      obtain ⟨I33, hI33, n33, h⟩ := h
      have key33 : ∀ (n33 : Nat) (σ12 : Me) (x3_13 : Int32) (H : Heap) (locs : List Loc) (ls : Array Slot), I33 n33 σ12 x3_13 → wS D cA z0 s σ12 H locs → lv_has ls 4 [(0, .ref a0), (1, .int x1), (2, .int v_8), (3, .int x3_13)] → W p l e rX12_book s m args below meth c H locs 0 0 (MQ below (va_Qi Q (BM D cA z0) (AM z0)) args s 0 0 (AM z0)) (F0 m 33 ls []) := by
        intro n33
        induction n33 using Nat.strongRecOn with
        | _ n33 ih33 =>
          intro σ12 x3_13 H locs ls h hw hl
          have h := hI33 _ _ _ h
          refine lv_iload_n hx hb dX12_book_33 rfl (lv_at hl 3 rfl) ?_
          refine lv_bipush (v := 7) hx hb dX12_book_34 (by decide) ?_
          refine lv_icmp_ge (tgt := 57) hx hb dX12_book_36 (by decide) (fun hc15 => ?_) (fun hc15 => ?_)
          · have h := h.1 hc15
            refine lv_iload_n hx hb dX12_book_57 rfl (lv_at hl 2 rfl) ?_
            exact m_iret hX hlk hr hw h dX12_book_58
          · have h := h.2 hc15
            refine lv_aload_n hx hb dX12_book_39 rfl (lv_at hl 0 rfl) ?_
            obtain ⟨hT16, h⟩ := h
            obtain ⟨b17, hb17, h⟩ := h
            refine m_get hX hw cl12 hT16 5 (by decide) k_879 (fun _ h => h) (v := .ref b17) (congrArg va_rf hb17) dX12_book_40 ?_
            refine lv_bipush (v := 7) hx hb dX12_book_43 (by decide) ?_
            refine lv_iload_n hx hb dX12_book_45 rfl (lv_at hl 1 rfl) ?_
            refine lv_imul hx hb dX12_book_46 ?_
            refine lv_iload_n hx hb dX12_book_47 rfl (lv_at hl 3 rfl) ?_
            refine lv_iadd hx hb dX12_book_48 ?_
            refine lv_iconst (v := 0) hx hb dX12_book_49 (by decide) ?_
            obtain ⟨hT18, h⟩ := h
            obtain ⟨hc19, h⟩ := h
            refine m_iast hX hw hT18 hc19 dX12_book_50 (fun H locs hw => ?_)
            let σ20 : Me := sI σ12 b17 ((((7 : Int32)) * x1) + x3_13).toNatClampNeg ((0 : Int32))
            have h := h σ20 rfl
            have hw : wS D cA z0 s σ20 H locs := hw
            obtain ⟨x3_21, e_x3_21⟩ : ∃ y : Int32, y = x3_13 + 1 := ⟨_, rfl⟩
            have h := h x3_21 e_x3_21
            refine lv_iinc (v := x3_21) (lv' := [(3, _), (0, _), (1, _), (2, _)]) hx hb dX12_book_51 hl (k := 3) rfl (by rw [e_x3_21]; rfl) (by decide) rfl (fun ls hl => ?_)
            refine lv_goto (tgt := 33) hx hb dX12_book_54 (by decide) ?_
            obtain ⟨m33, hm33, h⟩ := h
            exact ih33 m33 hm33 _ _ _ _ _ h hw (lv_sub hl [1, 2, 3, 0] rfl)
      exact key33 _ _ _ _ _ _ h hw (lv_sub hl [2, 3, 1, 0] rfl)
    refine lv_if_eq (tgt := 22) hx hb dX12_book_15 (by decide) (fun hc22 => ?_) (fun hc22 => ?_)
    · refine lv_iconst (v := 0) hx hb dX12_book_22 (by decide) ?_
      exact kM9 _ _ (by first | rfl | rw [if_pos hc22] | simp only [if_pos hc22]) (lv_sub hl [0, 1] rfl)
    · refine lv_iconst (v := 1) hx hb dX12_book_18 (by decide) ?_
      refine lv_goto (tgt := 23) hx hb dX12_book_19 (by decide) ?_
      exact kM9 _ _ (by first | rfl | rw [if_neg hc22] | simp only [if_neg hc22]) (lv_sub hl [0, 1] rfl)
  · have h := h.1 hc3
    refine lv_iconst (v := (-1)) hx hb dX12_book_7 (by decide) ?_
    exact m_iret hX hlk hr hw h dX12_book_8
theorem mtX12_book : Mth yX12_book cX12_book 4 (some .int) 1 := ⟨k_1068, k_50, by decide +kernel⟩
theorem tX12_book {l : Launch} {D : va_G} {cA : Nat → ClassId} {z0 : Nat} {σ : Me} {a0 : Nat} {x1 : Int32} {Q : Int32 → Me → Prop} (h : pX12_book σ a0 x1 Q) : Met l yX12_book (Cond.code yX12_book cX12_book 4 (some .int) :: gTab) rX12_book (PcM D cA z0 σ [.ref a0, .int x1]) (va_Qi Q (BM D cA z0) (AM z0)) 0 0 (AM z0) :=
  met_of (by decide) (Nat.le_of_ble_eq_true rfl) (fun hX hlk hr hn hw hl => wX12_book hX hlk hr h hw hl)
abbrev rX12_weigh : Room := { frames := 2, cells := 0, slots := 0, locals := 42 }
def pX12_weigh (σ : Me) (a0 : Nat) (x1 : Int32) (x2 : Int32) (x3 : Int32) (Q : Int32 → Me → Prop) : Prop := pX12_isPlace σ x1 (fun r1 σ2 => (r1 = 0 → Q ((-1 : Int32)) σ2) ∧ (¬ r1 = 0 → pX12_in σ2 x3 ((0 : Int32)) ((9 : Int32)) (fun r4 σ5 => (r4 = 0 → Q ((-1 : Int32)) σ5) ∧ (¬ r4 = 0 → gT σ5 a0 = 12 ∧ ∃ b8 : Nat, gP σ5 a0 4 = some b8 ∧ gT σ5 b8 = 22 ∧ vp_in x1 (gN σ5 b8) ∧ ((gI σ5 b8 x1.toNatClampNeg) = 0 → pX12_meets σ5 a0 ((1 : Int32)) (fun r25 σ26 => Q r25 σ26)) ∧ (¬ (gI σ5 b8 x1.toNatClampNeg) = 0 → pX12_in σ5 x2 ((0 : Int32)) ((6 : Int32)) (fun r12 σ13 => (r12 = 0 → gT σ13 a0 = 12 ∧ pX12_meets σ13 a0 ((2 : Int32)) (fun r22 σ23 => Q r22 σ23)) ∧ (¬ r12 = 0 → gT σ13 a0 = 12 ∧ ∃ b16 : Nat, gP σ13 a0 5 = some b16 ∧ gT σ13 b16 = 20 ∧ vp_in ((((7 : Int32)) * x1) + x2) (gN σ13 b16) ∧ ∀ x4_19 : Int32, x4_19 = (gI σ13 b16 ((((7 : Int32)) * x1) + x2).toNatClampNeg) → vp_in ((((7 : Int32)) * x1) + x2) (gN σ13 b16) ∧ ∀ σ21 : Me, σ21 = sI σ13 b16 ((((7 : Int32)) * x1) + x2).toNatClampNeg x3 → Q x4_19 σ21)))))))
set_option maxHeartbeats 4000000 in
set_option maxRecDepth 100000 in
theorem wX12_weigh {p : Program} {l : Launch} {e : Env} {s : State} {m : MethodId} {args : Array Value} {below : List Frame} {meth : Method} {c : Code} {D : va_G} {cA : Nat → ClassId} {z0 : Nat} (hX : Cx p m c cX12_weigh 5 s args RX12 D cA) (hlk : meth.locks = false) (hr : meth.sig.returnType = (some .int)) {σ : Me} {a0 : Nat} {x1 : Int32} {x2 : Int32} {x3 : Int32} {Q : Int32 → Me → Prop} (h : pX12_weigh σ a0 x1 x2 x3 Q) {H : Heap} {locs : List Loc} {ls : Array Slot} (hw : wS D cA z0 s σ H locs) (hl : lv_has ls 5 [(0, .ref a0), (1, .int x1), (2, .int x2), (3, .int x3)]) : W p l e rX12_weigh s m args below meth c H locs 0 0 (MQ below (va_Qi Q (BM D cA z0) (AM z0)) args s 0 0 (AM z0)) (F0 m 0 ls []) := by
  have hx := hX.1.1
  have hb := hX.1.2.1
  have hown := hX.1.2.2.2.1
  have hts := hX.1.2.2.2.2
  unfold pX12_weigh at h
  refine lv_iload_n hx hb dX12_weigh_0 rfl (lv_at hl 1 rfl) ?_
  refine m_ci (m_runS (rest := []) hX hw (tX12_isPlace h) mtX12_isPlace k_1069 k_1070 ⟨⟨rfl, rfl, Nat.le_of_ble_eq_true rfl, Nat.le_of_ble_eq_true rfl⟩, Nat.le_of_ble_eq_true rfl, Nat.le_of_ble_eq_true rfl⟩ rfl hl.1 rfl (Nat.le_of_ble_eq_true rfl) dX12_weigh_1) hw (fun r1 σ2 H locs h hw => ?_)
  refine lv_if_eq (tgt := 17) hx hb dX12_weigh_4 (by decide) (fun hc3 => ?_) (fun hc3 => ?_)
  · have h := h.1 hc3
    refine lv_iconst (v := (-1)) hx hb dX12_weigh_17 (by decide) ?_
    exact m_iret hX hlk hr hw h dX12_weigh_18
  · have h := h.2 hc3
    refine lv_iload_n hx hb dX12_weigh_7 rfl (lv_at hl 3 rfl) ?_
    refine lv_iconst (v := 0) hx hb dX12_weigh_8 (by decide) ?_
    refine lv_bipush (v := 9) hx hb dX12_weigh_9 (by decide) ?_
    refine m_ci (m_runS (rest := []) hX hw (tX12_in h) mtX12_in k_1054 k_1055 ⟨⟨rfl, rfl, Nat.le_of_ble_eq_true rfl, Nat.le_of_ble_eq_true rfl⟩, Nat.le_of_ble_eq_true rfl, Nat.le_of_ble_eq_true rfl⟩ rfl hl.1 rfl (Nat.le_of_ble_eq_true rfl) dX12_weigh_11) hw (fun r4 σ5 H locs h hw => ?_)
    refine lv_if_ne (tgt := 19) hx hb dX12_weigh_14 (by decide) (fun hc6 => ?_) (fun hc6 => ?_)
    · have h := h.2 hc6
      refine lv_aload_n hx hb dX12_weigh_19 rfl (lv_at hl 0 rfl) ?_
      obtain ⟨hT7, h⟩ := h
      obtain ⟨b8, hb8, h⟩ := h
      refine m_get hX hw cl12 hT7 4 (by decide) k_878 (fun _ h => h) (v := .ref b8) (congrArg va_rf hb8) dX12_weigh_20 ?_
      refine lv_iload_n hx hb dX12_weigh_23 rfl (lv_at hl 1 rfl) ?_
      obtain ⟨hT9, h⟩ := h
      obtain ⟨hc10, h⟩ := h
      refine m_zald hX hw hT9 hc10 dX12_weigh_24 ?_
      refine lv_if_ne (tgt := 34) hx hb dX12_weigh_25 (by decide) (fun hc11 => ?_) (fun hc11 => ?_)
      · have h := h.2 hc11
        refine lv_iload_n hx hb dX12_weigh_34 rfl (lv_at hl 2 rfl) ?_
        refine lv_iconst (v := 0) hx hb dX12_weigh_35 (by decide) ?_
        refine lv_bipush (v := 6) hx hb dX12_weigh_36 (by decide) ?_
        refine m_ci (m_runS (rest := []) hX hw (tX12_in h) mtX12_in k_1054 k_1055 ⟨⟨rfl, rfl, Nat.le_of_ble_eq_true rfl, Nat.le_of_ble_eq_true rfl⟩, Nat.le_of_ble_eq_true rfl, Nat.le_of_ble_eq_true rfl⟩ rfl hl.1 rfl (Nat.le_of_ble_eq_true rfl) dX12_weigh_38) hw (fun r12 σ13 H locs h hw => ?_)
        refine lv_if_ne (tgt := 50) hx hb dX12_weigh_41 (by decide) (fun hc14 => ?_) (fun hc14 => ?_)
        · have h := h.2 hc14
          refine lv_aload_n hx hb dX12_weigh_50 rfl (lv_at hl 0 rfl) ?_
          obtain ⟨hT15, h⟩ := h
          obtain ⟨b16, hb16, h⟩ := h
          refine m_get hX hw cl12 hT15 5 (by decide) k_879 (fun _ h => h) (v := .ref b16) (congrArg va_rf hb16) dX12_weigh_51 ?_
          refine lv_bipush (v := 7) hx hb dX12_weigh_54 (by decide) ?_
          refine lv_iload_n hx hb dX12_weigh_56 rfl (lv_at hl 1 rfl) ?_
          refine lv_imul hx hb dX12_weigh_57 ?_
          refine lv_iload_n hx hb dX12_weigh_58 rfl (lv_at hl 2 rfl) ?_
          refine lv_iadd hx hb dX12_weigh_59 ?_
          obtain ⟨hT17, h⟩ := h
          obtain ⟨hc18, h⟩ := h
          refine m_iald hX hw hT17 hc18 dX12_weigh_60 ?_
          refine lv_topi (fun x4_19 e_x4_19 => ?_)
          have h := h x4_19 e_x4_19
          refine lv_istore (lv' := [(4, _), (0, _), (1, _), (2, _), (3, _)]) hx hb dX12_weigh_61 hl (by decide) rfl (fun ls hl => ?_)
          refine lv_aload_n hx hb dX12_weigh_63 rfl (lv_at hl 1 rfl) ?_
          refine m_get hX hw cl12 hT15 5 (by decide) k_879 (fun _ h => h) (v := .ref b16) (congrArg va_rf hb16) dX12_weigh_64 ?_
          refine lv_bipush (v := 7) hx hb dX12_weigh_67 (by decide) ?_
          refine lv_iload_n hx hb dX12_weigh_69 rfl (lv_at hl 2 rfl) ?_
          refine lv_imul hx hb dX12_weigh_70 ?_
          refine lv_iload_n hx hb dX12_weigh_71 rfl (lv_at hl 3 rfl) ?_
          refine lv_iadd hx hb dX12_weigh_72 ?_
          refine lv_iload_n hx hb dX12_weigh_73 rfl (lv_at hl 4 rfl) ?_
          obtain ⟨hc20, h⟩ := h
          refine m_iast hX hw hT17 hc20 dX12_weigh_74 (fun H locs hw => ?_)
          let σ21 : Me := sI σ13 b16 ((((7 : Int32)) * x1) + x2).toNatClampNeg x3
          have h := h σ21 rfl
          have hw : wS D cA z0 s σ21 H locs := hw
          refine lv_iload hx hb dX12_weigh_75 (lv_at hl 0 rfl) ?_
          exact m_iret hX hlk hr hw h dX12_weigh_77
        · have h := h.1 hc14
          refine lv_aload_n hx hb dX12_weigh_44 rfl (lv_at hl 0 rfl) ?_
          refine lv_iconst (v := 2) hx hb dX12_weigh_45 (by decide) ?_
          obtain ⟨hT24, h⟩ := h
          refine m_ci (m_runV (rest := []) hX hw (tX12_meets h) mtX12_meets k_1076 ⟨k_1078, k_24⟩ cl12 hT24 ⟨⟨rfl, rfl, Nat.le_of_ble_eq_true rfl, Nat.le_of_ble_eq_true rfl⟩, Nat.le_of_ble_eq_true rfl, Nat.le_of_ble_eq_true rfl⟩ rfl hl.1 rfl (Nat.le_of_ble_eq_true rfl) dX12_weigh_46) hw (fun r22 σ23 H locs h hw => ?_)
          exact m_iret hX hlk hr hw h dX12_weigh_49
      · have h := h.1 hc11
        refine lv_aload_n hx hb dX12_weigh_28 rfl (lv_at hl 0 rfl) ?_
        refine lv_iconst (v := 1) hx hb dX12_weigh_29 (by decide) ?_
        refine m_ci (m_runV (rest := []) hX hw (tX12_meets h) mtX12_meets k_1076 ⟨k_1078, k_24⟩ cl12 hT7 ⟨⟨rfl, rfl, Nat.le_of_ble_eq_true rfl, Nat.le_of_ble_eq_true rfl⟩, Nat.le_of_ble_eq_true rfl, Nat.le_of_ble_eq_true rfl⟩ rfl hl.1 rfl (Nat.le_of_ble_eq_true rfl) dX12_weigh_30) hw (fun r25 σ26 H locs h hw => ?_)
        exact m_iret hX hlk hr hw h dX12_weigh_33
    · have h := h.1 hc6
      refine lv_iconst (v := (-1)) hx hb dX12_weigh_17 (by decide) ?_
      exact m_iret hX hlk hr hw h dX12_weigh_18
theorem mtX12_weigh : Mth yX12_weigh cX12_weigh 5 (some .int) 3 := ⟨k_1075, k_50, by decide +kernel⟩
theorem tX12_weigh {l : Launch} {D : va_G} {cA : Nat → ClassId} {z0 : Nat} {σ : Me} {a0 : Nat} {x1 : Int32} {x2 : Int32} {x3 : Int32} {Q : Int32 → Me → Prop} (h : pX12_weigh σ a0 x1 x2 x3 Q) : Met l yX12_weigh (Cond.code yX12_weigh cX12_weigh 5 (some .int) :: gTab) rX12_weigh (PcM D cA z0 σ [.ref a0, .int x1, .int x2, .int x3]) (va_Qi Q (BM D cA z0) (AM z0)) 0 0 (AM z0) :=
  met_of (by decide) (Nat.le_of_ble_eq_true rfl) (fun hX hlk hr hn hw hl => wX12_weigh hX hlk hr h hw hl)
abbrev rX12_close : Room := { frames := 2, cells := 0, slots := 0, locals := 42 }
def pX12_close (σ : Me) (a0 : Nat) (x1 : Int32) (Q : Int32 → Me → Prop) : Prop := pX12_isPlace σ x1 (fun r1 σ2 => (r1 = 0 → Q ((-1 : Int32)) σ2) ∧ (¬ r1 = 0 → gT σ2 a0 = 12 ∧ ∃ b5 : Nat, gP σ2 a0 4 = some b5 ∧ gT σ2 b5 = 22 ∧ vp_in x1 (gN σ2 b5) ∧ ((gI σ2 b5 x1.toNatClampNeg) = 0 → pX12_meets σ2 a0 ((1 : Int32)) (fun r11 σ12 => Q r11 σ12)) ∧ (¬ (gI σ2 b5 x1.toNatClampNeg) = 0 → vp_in x1 (gN σ2 b5) ∧ ∀ σ10 : Me, σ10 = sI σ2 b5 x1.toNatClampNeg (vp_nar .boolean ((0 : Int32))) → Q ((1 : Int32)) σ10)))
set_option maxHeartbeats 4000000 in
set_option maxRecDepth 100000 in
theorem wX12_close {p : Program} {l : Launch} {e : Env} {s : State} {m : MethodId} {args : Array Value} {below : List Frame} {meth : Method} {c : Code} {D : va_G} {cA : Nat → ClassId} {z0 : Nat} (hX : Cx p m c cX12_close 2 s args RX12 D cA) (hlk : meth.locks = false) (hr : meth.sig.returnType = (some .int)) {σ : Me} {a0 : Nat} {x1 : Int32} {Q : Int32 → Me → Prop} (h : pX12_close σ a0 x1 Q) {H : Heap} {locs : List Loc} {ls : Array Slot} (hw : wS D cA z0 s σ H locs) (hl : lv_has ls 2 [(0, .ref a0), (1, .int x1)]) : W p l e rX12_close s m args below meth c H locs 0 0 (MQ below (va_Qi Q (BM D cA z0) (AM z0)) args s 0 0 (AM z0)) (F0 m 0 ls []) := by
  have hx := hX.1.1
  have hb := hX.1.2.1
  have hown := hX.1.2.2.2.1
  have hts := hX.1.2.2.2.2
  unfold pX12_close at h
  refine lv_iload_n hx hb dX12_close_0 rfl (lv_at hl 1 rfl) ?_
  refine m_ci (m_runS (rest := []) hX hw (tX12_isPlace h) mtX12_isPlace k_1069 k_1070 ⟨⟨rfl, rfl, Nat.le_of_ble_eq_true rfl, Nat.le_of_ble_eq_true rfl⟩, Nat.le_of_ble_eq_true rfl, Nat.le_of_ble_eq_true rfl⟩ rfl hl.1 rfl (Nat.le_of_ble_eq_true rfl) dX12_close_1) hw (fun r1 σ2 H locs h hw => ?_)
  refine lv_if_ne (tgt := 9) hx hb dX12_close_4 (by decide) (fun hc3 => ?_) (fun hc3 => ?_)
  · have h := h.2 hc3
    refine lv_aload_n hx hb dX12_close_9 rfl (lv_at hl 0 rfl) ?_
    obtain ⟨hT4, h⟩ := h
    obtain ⟨b5, hb5, h⟩ := h
    refine m_get hX hw cl12 hT4 4 (by decide) k_878 (fun _ h => h) (v := .ref b5) (congrArg va_rf hb5) dX12_close_10 ?_
    refine lv_iload_n hx hb dX12_close_13 rfl (lv_at hl 1 rfl) ?_
    obtain ⟨hT6, h⟩ := h
    obtain ⟨hc7, h⟩ := h
    refine m_zald hX hw hT6 hc7 dX12_close_14 ?_
    refine lv_if_ne (tgt := 24) hx hb dX12_close_15 (by decide) (fun hc8 => ?_) (fun hc8 => ?_)
    · have h := h.2 hc8
      refine lv_aload_n hx hb dX12_close_24 rfl (lv_at hl 0 rfl) ?_
      refine m_get hX hw cl12 hT4 4 (by decide) k_878 (fun _ h => h) (v := .ref b5) (congrArg va_rf hb5) dX12_close_25 ?_
      refine lv_iload_n hx hb dX12_close_28 rfl (lv_at hl 1 rfl) ?_
      refine lv_iconst (v := 0) hx hb dX12_close_29 (by decide) ?_
      obtain ⟨hc9, h⟩ := h
      refine m_zast hX hw hT6 hc9 dX12_close_30 (fun H locs hw => ?_)
      let σ10 : Me := sI σ2 b5 x1.toNatClampNeg (vp_nar .boolean ((0 : Int32)))
      have h := h σ10 rfl
      have hw : wS D cA z0 s σ10 H locs := hw
      refine lv_iconst (v := 1) hx hb dX12_close_31 (by decide) ?_
      exact m_iret hX hlk hr hw h dX12_close_32
    · have h := h.1 hc8
      refine lv_aload_n hx hb dX12_close_18 rfl (lv_at hl 0 rfl) ?_
      refine lv_iconst (v := 1) hx hb dX12_close_19 (by decide) ?_
      refine m_ci (m_runV (rest := []) hX hw (tX12_meets h) mtX12_meets k_1076 ⟨k_1078, k_24⟩ cl12 hT4 ⟨⟨rfl, rfl, Nat.le_of_ble_eq_true rfl, Nat.le_of_ble_eq_true rfl⟩, Nat.le_of_ble_eq_true rfl, Nat.le_of_ble_eq_true rfl⟩ rfl hl.1 rfl (Nat.le_of_ble_eq_true rfl) dX12_close_20) hw (fun r11 σ12 H locs h hw => ?_)
      exact m_iret hX hlk hr hw h dX12_close_23
  · have h := h.1 hc3
    refine lv_iconst (v := (-1)) hx hb dX12_close_7 (by decide) ?_
    exact m_iret hX hlk hr hw h dX12_close_8
theorem mtX12_close : Mth yX12_close cX12_close 2 (some .int) 1 := ⟨k_1083, k_50, by decide +kernel⟩
theorem tX12_close {l : Launch} {D : va_G} {cA : Nat → ClassId} {z0 : Nat} {σ : Me} {a0 : Nat} {x1 : Int32} {Q : Int32 → Me → Prop} (h : pX12_close σ a0 x1 Q) : Met l yX12_close (Cond.code yX12_close cX12_close 2 (some .int) :: gTab) rX12_close (PcM D cA z0 σ [.ref a0, .int x1]) (va_Qi Q (BM D cA z0) (AM z0)) 0 0 (AM z0) :=
  met_of (by decide) (Nat.le_of_ble_eq_true rfl) (fun hX hlk hr hn hw hl => wX12_close hX hlk hr h hw hl)
abbrev rX12_copy : Room := { frames := 2, cells := 0, slots := 0, locals := 42 }
def pX12_copy (σ : Me) (a0 : Nat) (x1 : Int32) (x2 : Int32) (x3 : Int32) (x4 : Int32) (x5 : Int32) (Q : Int32 → Me → Prop) : Prop := pX12_isPlace σ x1 (fun r1 σ2 => (r1 = 0 → Q ((-1 : Int32)) σ2) ∧ (¬ r1 = 0 → pX12_isPlace σ2 x3 (fun r4 σ5 => (r4 = 0 → Q ((-1 : Int32)) σ5) ∧ (¬ r4 = 0 → gT σ5 a0 = 12 ∧ ∃ b8 : Nat, gP σ5 a0 4 = some b8 ∧ gT σ5 b8 = 22 ∧ vp_in x1 (gN σ5 b8) ∧ ((gI σ5 b8 x1.toNatClampNeg) = 0 → pX12_meets σ5 a0 ((1 : Int32)) (fun r12 σ13 => Q r12 σ13)) ∧ (¬ (gI σ5 b8 x1.toNatClampNeg) = 0 → vp_in x3 (gN σ5 b8) ∧ ((gI σ5 b8 x3.toNatClampNeg) = 0 → pX12_meets σ5 a0 ((1 : Int32)) (fun r187 σ188 => Q r187 σ188)) ∧ (¬ (gI σ5 b8 x3.toNatClampNeg) = 0 → (x2 < 0 → pX12_meets σ5 a0 ((2 : Int32)) (fun r17 σ18 => Q r17 σ18)) ∧ (¬ x2 < 0 → (x4 < 0 → pX12_meets σ5 a0 ((2 : Int32)) (fun r20 σ21 => Q r20 σ21)) ∧ (¬ x4 < 0 → (x5 < 0 → pX12_meets σ5 a0 ((2 : Int32)) (fun r23 σ24 => Q r23 σ24)) ∧ (¬ x5 < 0 → (((7 : Int64)) < (x2.toInt64 + x5.toInt64) → pX12_meets σ5 a0 ((2 : Int32)) (fun r107 σ108 => Q r107 σ108)) ∧ (¬ ((7 : Int64)) < (x2.toInt64 + x5.toInt64) → ((x4.toInt64 + x5.toInt64) ≤ ((7 : Int64)) → ∃ I90 : Nat → Me → Int32 → Prop, (∀ (n90 : Nat) (σ149 : Me) (x6_150 : Int32), I90 n90 σ149 x6_150 → (x5 ≤ x6_150 → ∃ I127 : Nat → Me → Int32 → Prop, (∀ (n127 : Nat) (σ163 : Me) (x6_164 : Int32), I127 n127 σ163 x6_164 → (x5 ≤ x6_164 → Q ((1 : Int32)) σ163) ∧ (¬ x5 ≤ x6_164 → gT σ163 a0 = 12 ∧ ∃ b168 : Nat, gP σ163 a0 5 = some b168 ∧ ∃ b169 : Nat, gP σ163 a0 6 = some b169 ∧ gT σ163 b169 = 20 ∧ vp_in x6_164 (gN σ163 b169) ∧ gT σ163 b168 = 20 ∧ vp_in (((((7 : Int32)) * x3) + x4) + x6_164) (gN σ163 b168) ∧ ∀ σ174 : Me, σ174 = sI σ163 b168 (((((7 : Int32)) * x3) + x4) + x6_164).toNatClampNeg (gI σ163 b169 x6_164.toNatClampNeg) → ∀ x6_175 : Int32, x6_175 = x6_164 + 1 → ∃ m127 : Nat, m127 < n127 ∧ I127 m127 σ174 x6_175)) ∧ ∃ n127 : Nat, I127 n127 σ149 ((0 : Int32))) ∧ (¬ x5 ≤ x6_150 → gT σ149 a0 = 12 ∧ ∃ b177 : Nat, gP σ149 a0 6 = some b177 ∧ ∃ b178 : Nat, gP σ149 a0 5 = some b178 ∧ gT σ149 b178 = 20 ∧ vp_in (((((7 : Int32)) * x1) + x2) + x6_150) (gN σ149 b178) ∧ gT σ149 b177 = 20 ∧ vp_in x6_150 (gN σ149 b177) ∧ ∀ σ183 : Me, σ183 = sI σ149 b177 x6_150.toNatClampNeg (gI σ149 b178 (((((7 : Int32)) * x1) + x2) + x6_150).toNatClampNeg) → ∀ x6_184 : Int32, x6_184 = x6_150 + 1 → ∃ m90 : Nat, m90 < n90 ∧ I90 m90 σ183 x6_184)) ∧ ∃ n90 : Nat, I90 n90 σ5 ((0 : Int32))) ∧ (¬ (x4.toInt64 + x5.toInt64) ≤ ((7 : Int64)) → pX12_meets σ5 a0 ((2 : Int32)) (fun r185 σ186 => Q r185 σ186))))))))))))
set_option maxHeartbeats 4000000 in
set_option maxRecDepth 100000 in
theorem wX12_copy {p : Program} {l : Launch} {e : Env} {s : State} {m : MethodId} {args : Array Value} {below : List Frame} {meth : Method} {c : Code} {D : va_G} {cA : Nat → ClassId} {z0 : Nat} (hX : Cx p m c cX12_copy 7 s args RX12 D cA) (hlk : meth.locks = false) (hr : meth.sig.returnType = (some .int)) {σ : Me} {a0 : Nat} {x1 : Int32} {x2 : Int32} {x3 : Int32} {x4 : Int32} {x5 : Int32} {Q : Int32 → Me → Prop} (h : pX12_copy σ a0 x1 x2 x3 x4 x5 Q) {H : Heap} {locs : List Loc} {ls : Array Slot} (hw : wS D cA z0 s σ H locs) (hl : lv_has ls 7 [(0, .ref a0), (1, .int x1), (2, .int x2), (3, .int x3), (4, .int x4), (5, .int x5)]) : W p l e rX12_copy s m args below meth c H locs 0 0 (MQ below (va_Qi Q (BM D cA z0) (AM z0)) args s 0 0 (AM z0)) (F0 m 0 ls []) := by
  have hx := hX.1.1
  have hb := hX.1.2.1
  have hown := hX.1.2.2.2.1
  have hts := hX.1.2.2.2.2
  unfold pX12_copy at h
  refine lv_iload_n hx hb dX12_copy_0 rfl (lv_at hl 1 rfl) ?_
  refine m_ci (m_runS (rest := []) hX hw (tX12_isPlace h) mtX12_isPlace k_1069 k_1070 ⟨⟨rfl, rfl, Nat.le_of_ble_eq_true rfl, Nat.le_of_ble_eq_true rfl⟩, Nat.le_of_ble_eq_true rfl, Nat.le_of_ble_eq_true rfl⟩ rfl hl.1 rfl (Nat.le_of_ble_eq_true rfl) dX12_copy_1) hw (fun r1 σ2 H locs h hw => ?_)
  refine lv_if_eq (tgt := 14) hx hb dX12_copy_4 (by decide) (fun hc3 => ?_) (fun hc3 => ?_)
  · have h := h.1 hc3
    refine lv_iconst (v := (-1)) hx hb dX12_copy_14 (by decide) ?_
    exact m_iret hX hlk hr hw h dX12_copy_15
  · have h := h.2 hc3
    refine lv_iload_n hx hb dX12_copy_7 rfl (lv_at hl 3 rfl) ?_
    refine m_ci (m_runS (rest := []) hX hw (tX12_isPlace h) mtX12_isPlace k_1069 k_1070 ⟨⟨rfl, rfl, Nat.le_of_ble_eq_true rfl, Nat.le_of_ble_eq_true rfl⟩, Nat.le_of_ble_eq_true rfl, Nat.le_of_ble_eq_true rfl⟩ rfl hl.1 rfl (Nat.le_of_ble_eq_true rfl) dX12_copy_8) hw (fun r4 σ5 H locs h hw => ?_)
    refine lv_if_ne (tgt := 16) hx hb dX12_copy_11 (by decide) (fun hc6 => ?_) (fun hc6 => ?_)
    · have h := h.2 hc6
      refine lv_aload_n hx hb dX12_copy_16 rfl (lv_at hl 0 rfl) ?_
      obtain ⟨hT7, h⟩ := h
      obtain ⟨b8, hb8, h⟩ := h
      refine m_get hX hw cl12 hT7 4 (by decide) k_878 (fun _ h => h) (v := .ref b8) (congrArg va_rf hb8) dX12_copy_17 ?_
      refine lv_iload_n hx hb dX12_copy_20 rfl (lv_at hl 1 rfl) ?_
      obtain ⟨hT9, h⟩ := h
      obtain ⟨hc10, h⟩ := h
      refine m_zald hX hw hT9 hc10 dX12_copy_21 ?_
      refine lv_if_eq (tgt := 34) hx hb dX12_copy_22 (by decide) (fun hc11 => ?_) (fun hc11 => ?_)
      · have h := h.1 hc11
        refine lv_aload_n hx hb dX12_copy_34 rfl (lv_at hl 0 rfl) ?_
        refine lv_iconst (v := 1) hx hb dX12_copy_35 (by decide) ?_
        refine m_ci (m_runV (rest := []) hX hw (tX12_meets h) mtX12_meets k_1076 ⟨k_1078, k_24⟩ cl12 hT7 ⟨⟨rfl, rfl, Nat.le_of_ble_eq_true rfl, Nat.le_of_ble_eq_true rfl⟩, Nat.le_of_ble_eq_true rfl, Nat.le_of_ble_eq_true rfl⟩ rfl hl.1 rfl (Nat.le_of_ble_eq_true rfl) dX12_copy_36) hw (fun r12 σ13 H locs h hw => ?_)
        exact m_iret hX hlk hr hw h dX12_copy_39
      · have h := h.2 hc11
        refine lv_aload_n hx hb dX12_copy_25 rfl (lv_at hl 0 rfl) ?_
        refine m_get hX hw cl12 hT7 4 (by decide) k_878 (fun _ h => h) (v := .ref b8) (congrArg va_rf hb8) dX12_copy_26 ?_
        refine lv_iload_n hx hb dX12_copy_29 rfl (lv_at hl 3 rfl) ?_
        obtain ⟨hc14, h⟩ := h
        refine m_zald hX hw hT9 hc14 dX12_copy_30 ?_
        refine lv_if_ne (tgt := 40) hx hb dX12_copy_31 (by decide) (fun hc15 => ?_) (fun hc15 => ?_)
        · have h := h.2 hc15
          refine lv_iload_n hx hb dX12_copy_40 rfl (lv_at hl 2 rfl) ?_
          refine lv_if_lt (tgt := 81) hx hb dX12_copy_41 (by decide) (fun hc16 => ?_) (fun hc16 => ?_)
          · have h := h.1 hc16
            refine lv_aload_n hx hb dX12_copy_81 rfl (lv_at hl 0 rfl) ?_
            refine lv_iconst (v := 2) hx hb dX12_copy_82 (by decide) ?_
            refine m_ci (m_runV (rest := []) hX hw (tX12_meets h) mtX12_meets k_1076 ⟨k_1078, k_24⟩ cl12 hT7 ⟨⟨rfl, rfl, Nat.le_of_ble_eq_true rfl, Nat.le_of_ble_eq_true rfl⟩, Nat.le_of_ble_eq_true rfl, Nat.le_of_ble_eq_true rfl⟩ rfl hl.1 rfl (Nat.le_of_ble_eq_true rfl) dX12_copy_83) hw (fun r17 σ18 H locs h hw => ?_)
            exact m_iret hX hlk hr hw h dX12_copy_86
          · have h := h.2 hc16
            refine lv_iload hx hb dX12_copy_44 (lv_at hl 4 rfl) ?_
            refine lv_if_lt (tgt := 81) hx hb dX12_copy_46 (by decide) (fun hc19 => ?_) (fun hc19 => ?_)
            · have h := h.1 hc19
              refine lv_aload_n hx hb dX12_copy_81 rfl (lv_at hl 0 rfl) ?_
              refine lv_iconst (v := 2) hx hb dX12_copy_82 (by decide) ?_
              refine m_ci (m_runV (rest := []) hX hw (tX12_meets h) mtX12_meets k_1076 ⟨k_1078, k_24⟩ cl12 hT7 ⟨⟨rfl, rfl, Nat.le_of_ble_eq_true rfl, Nat.le_of_ble_eq_true rfl⟩, Nat.le_of_ble_eq_true rfl, Nat.le_of_ble_eq_true rfl⟩ rfl hl.1 rfl (Nat.le_of_ble_eq_true rfl) dX12_copy_83) hw (fun r20 σ21 H locs h hw => ?_)
              exact m_iret hX hlk hr hw h dX12_copy_86
            · have h := h.2 hc19
              refine lv_iload hx hb dX12_copy_49 (lv_at hl 5 rfl) ?_
              refine lv_if_lt (tgt := 81) hx hb dX12_copy_51 (by decide) (fun hc22 => ?_) (fun hc22 => ?_)
              · have h := h.1 hc22
                refine lv_aload_n hx hb dX12_copy_81 rfl (lv_at hl 0 rfl) ?_
                refine lv_iconst (v := 2) hx hb dX12_copy_82 (by decide) ?_
                refine m_ci (m_runV (rest := []) hX hw (tX12_meets h) mtX12_meets k_1076 ⟨k_1078, k_24⟩ cl12 hT7 ⟨⟨rfl, rfl, Nat.le_of_ble_eq_true rfl, Nat.le_of_ble_eq_true rfl⟩, Nat.le_of_ble_eq_true rfl, Nat.le_of_ble_eq_true rfl⟩ rfl hl.1 rfl (Nat.le_of_ble_eq_true rfl) dX12_copy_83) hw (fun r23 σ24 H locs h hw => ?_)
                exact m_iret hX hlk hr hw h dX12_copy_86
              · have h := h.2 hc22
                refine lv_iload_n hx hb dX12_copy_54 rfl (lv_at hl 2 rfl) ?_
                refine lv_i2l hx hb dX12_copy_55 rfl ?_
                refine lv_iload hx hb dX12_copy_56 (lv_at hl 5 rfl) ?_
                refine lv_i2l hx hb dX12_copy_58 rfl ?_
                refine lv_ladd hx hb dX12_copy_59 ?_
                refine lv_ldc2 hx hb hown (hts _ k_1088) dX12_copy_60 ?_
                refine m_lgt (tgt := 81) hX dX12_copy_63 dX12_copy_64 (by decide) (fun hc106 => ?_) (fun hc106 => ?_)
                · have h := h.1 hc106
                  refine lv_aload_n hx hb dX12_copy_81 rfl (lv_at hl 0 rfl) ?_
                  refine lv_iconst (v := 2) hx hb dX12_copy_82 (by decide) ?_
                  refine m_ci (m_runV (rest := []) hX hw (tX12_meets h) mtX12_meets k_1076 ⟨k_1078, k_24⟩ cl12 hT7 ⟨⟨rfl, rfl, Nat.le_of_ble_eq_true rfl, Nat.le_of_ble_eq_true rfl⟩, Nat.le_of_ble_eq_true rfl, Nat.le_of_ble_eq_true rfl⟩ rfl hl.1 rfl (Nat.le_of_ble_eq_true rfl) dX12_copy_83) hw (fun r107 σ108 H locs h hw => ?_)
                  exact m_iret hX hlk hr hw h dX12_copy_86
                · have h := h.2 hc106
                  refine lv_iload hx hb dX12_copy_67 (lv_at hl 4 rfl) ?_
                  refine lv_i2l hx hb dX12_copy_69 rfl ?_
                  refine lv_iload hx hb dX12_copy_70 (lv_at hl 5 rfl) ?_
                  refine lv_i2l hx hb dX12_copy_72 rfl ?_
                  refine lv_ladd hx hb dX12_copy_73 ?_
                  refine lv_ldc2 hx hb hown (hts _ k_1088) dX12_copy_74 ?_
                  refine m_lle (tgt := 87) hX dX12_copy_77 dX12_copy_78 (by decide) (fun hc148 => ?_) (fun hc148 => ?_)
                  · have h := h.1 hc148
                    refine lv_iconst (v := 0) hx hb dX12_copy_87 (by decide) ?_
                    refine lv_istore (lv' := [(6, _), (0, _), (1, _), (2, _), (3, _), (4, _), (5, _)]) hx hb dX12_copy_88 hl (by decide) rfl (fun ls hl => ?_)
                    obtain ⟨I90, hI90, n90, h⟩ := h
                    have key90 : ∀ (n90 : Nat) (σ149 : Me) (x6_150 : Int32) (H : Heap) (locs : List Loc) (ls : Array Slot), I90 n90 σ149 x6_150 → wS D cA z0 s σ149 H locs → lv_has ls 7 [(0, .ref a0), (1, .int x1), (2, .int x2), (3, .int x3), (4, .int x4), (5, .int x5), (6, .int x6_150)] → W p l e rX12_copy s m args below meth c H locs 0 0 (MQ below (va_Qi Q (BM D cA z0) (AM z0)) args s 0 0 (AM z0)) (F0 m 90 ls []) := by
                      intro n90
                      induction n90 using Nat.strongRecOn with
                      | _ n90 ih90 =>
                        intro σ149 x6_150 H locs ls h hw hl
                        have h := hI90 _ _ _ h
                        refine lv_iload hx hb dX12_copy_90 (lv_at hl 6 rfl) ?_
                        refine lv_iload hx hb dX12_copy_92 (lv_at hl 5 rfl) ?_
                        refine lv_icmp_ge (tgt := 124) hx hb dX12_copy_94 (by decide) (fun hc162 => ?_) (fun hc162 => ?_)
                        · have h := h.1 hc162
                          refine lv_iconst (v := 0) hx hb dX12_copy_124 (by decide) ?_
                          refine lv_istore (lv' := [(6, _), (0, _), (1, _), (2, _), (3, _), (4, _), (5, _)]) hx hb dX12_copy_125 hl (by decide) rfl (fun ls hl => ?_)
                          obtain ⟨I127, hI127, n127, h⟩ := h
                          have key127 : ∀ (n127 : Nat) (σ163 : Me) (x6_164 : Int32) (H : Heap) (locs : List Loc) (ls : Array Slot), I127 n127 σ163 x6_164 → wS D cA z0 s σ163 H locs → lv_has ls 7 [(0, .ref a0), (3, .int x3), (4, .int x4), (5, .int x5), (6, .int x6_164)] → W p l e rX12_copy s m args below meth c H locs 0 0 (MQ below (va_Qi Q (BM D cA z0) (AM z0)) args s 0 0 (AM z0)) (F0 m 127 ls []) := by
                            intro n127
                            induction n127 using Nat.strongRecOn with
                            | _ n127 ih127 =>
                              intro σ163 x6_164 H locs ls h hw hl
                              have h := hI127 _ _ _ h
                              refine lv_iload hx hb dX12_copy_127 (lv_at hl 4 rfl) ?_
                              refine lv_iload hx hb dX12_copy_129 (lv_at hl 3 rfl) ?_
                              refine lv_icmp_ge (tgt := 162) hx hb dX12_copy_131 (by decide) (fun hc166 => ?_) (fun hc166 => ?_)
                              · have h := h.1 hc166
                                refine lv_iconst (v := 1) hx hb dX12_copy_162 (by decide) ?_
                                exact m_iret hX hlk hr hw h dX12_copy_163
                              · have h := h.2 hc166
                                refine lv_aload_n hx hb dX12_copy_134 rfl (lv_at hl 0 rfl) ?_
                                obtain ⟨hT167, h⟩ := h
                                obtain ⟨b168, hb168, h⟩ := h
                                refine m_get hX hw cl12 hT167 5 (by decide) k_879 (fun _ h => h) (v := .ref b168) (congrArg va_rf hb168) dX12_copy_135 ?_
                                refine lv_bipush (v := 7) hx hb dX12_copy_138 (by decide) ?_
                                refine lv_iload_n hx hb dX12_copy_140 rfl (lv_at hl 1 rfl) ?_
                                refine lv_imul hx hb dX12_copy_141 ?_
                                refine lv_iload hx hb dX12_copy_142 (lv_at hl 2 rfl) ?_
                                refine lv_iadd hx hb dX12_copy_144 ?_
                                refine lv_iload hx hb dX12_copy_145 (lv_at hl 4 rfl) ?_
                                refine lv_iadd hx hb dX12_copy_147 ?_
                                refine lv_aload_n hx hb dX12_copy_148 rfl (lv_at hl 0 rfl) ?_
                                obtain ⟨b169, hb169, h⟩ := h
                                refine m_get hX hw cl12 hT167 6 (by decide) k_880 (fun _ h => h) (v := .ref b169) (congrArg va_rf hb169) dX12_copy_149 ?_
                                refine lv_iload hx hb dX12_copy_152 (lv_at hl 4 rfl) ?_
                                obtain ⟨hT170, h⟩ := h
                                obtain ⟨hc171, h⟩ := h
                                refine m_iald hX hw hT170 hc171 dX12_copy_154 ?_
                                obtain ⟨hT172, h⟩ := h
                                obtain ⟨hc173, h⟩ := h
                                refine m_iast hX hw hT172 hc173 dX12_copy_155 (fun H locs hw => ?_)
                                let σ174 : Me := sI σ163 b168 (((((7 : Int32)) * x3) + x4) + x6_164).toNatClampNeg (gI σ163 b169 x6_164.toNatClampNeg)
                                have h := h σ174 rfl
                                have hw : wS D cA z0 s σ174 H locs := hw
                                obtain ⟨x6_175, e_x6_175⟩ : ∃ y : Int32, y = x6_164 + 1 := ⟨_, rfl⟩
                                have h := h x6_175 e_x6_175
                                refine lv_iinc (v := x6_175) (lv' := [(6, _), (0, _), (3, _), (4, _), (5, _)]) hx hb dX12_copy_156 hl (k := 4) rfl (by rw [e_x6_175]; rfl) (by decide) rfl (fun ls hl => ?_)
                                refine lv_goto (tgt := 127) hx hb dX12_copy_159 (by decide) ?_
                                obtain ⟨m127, hm127, h⟩ := h
                                exact ih127 m127 hm127 _ _ _ _ _ h hw (lv_sub hl [1, 2, 3, 4, 0] rfl)
                          exact key127 _ _ _ _ _ _ h hw (lv_sub hl [1, 4, 5, 6, 0] rfl)
                        · have h := h.2 hc162
                          refine lv_aload_n hx hb dX12_copy_97 rfl (lv_at hl 0 rfl) ?_
                          obtain ⟨hT176, h⟩ := h
                          obtain ⟨b177, hb177, h⟩ := h
                          refine m_get hX hw cl12 hT176 6 (by decide) k_880 (fun _ h => h) (v := .ref b177) (congrArg va_rf hb177) dX12_copy_98 ?_
                          refine lv_iload hx hb dX12_copy_101 (lv_at hl 6 rfl) ?_
                          refine lv_aload_n hx hb dX12_copy_103 rfl (lv_at hl 0 rfl) ?_
                          obtain ⟨b178, hb178, h⟩ := h
                          refine m_get hX hw cl12 hT176 5 (by decide) k_879 (fun _ h => h) (v := .ref b178) (congrArg va_rf hb178) dX12_copy_104 ?_
                          refine lv_bipush (v := 7) hx hb dX12_copy_107 (by decide) ?_
                          refine lv_iload_n hx hb dX12_copy_109 rfl (lv_at hl 1 rfl) ?_
                          refine lv_imul hx hb dX12_copy_110 ?_
                          refine lv_iload_n hx hb dX12_copy_111 rfl (lv_at hl 2 rfl) ?_
                          refine lv_iadd hx hb dX12_copy_112 ?_
                          refine lv_iload hx hb dX12_copy_113 (lv_at hl 6 rfl) ?_
                          refine lv_iadd hx hb dX12_copy_115 ?_
                          obtain ⟨hT179, h⟩ := h
                          obtain ⟨hc180, h⟩ := h
                          refine m_iald hX hw hT179 hc180 dX12_copy_116 ?_
                          obtain ⟨hT181, h⟩ := h
                          obtain ⟨hc182, h⟩ := h
                          refine m_iast hX hw hT181 hc182 dX12_copy_117 (fun H locs hw => ?_)
                          let σ183 : Me := sI σ149 b177 x6_150.toNatClampNeg (gI σ149 b178 (((((7 : Int32)) * x1) + x2) + x6_150).toNatClampNeg)
                          have h := h σ183 rfl
                          have hw : wS D cA z0 s σ183 H locs := hw
                          obtain ⟨x6_184, e_x6_184⟩ : ∃ y : Int32, y = x6_150 + 1 := ⟨_, rfl⟩
                          have h := h x6_184 e_x6_184
                          refine lv_iinc (v := x6_184) (lv' := [(6, _), (0, _), (1, _), (2, _), (3, _), (4, _), (5, _)]) hx hb dX12_copy_118 hl (k := 6) rfl (by rw [e_x6_184]; rfl) (by decide) rfl (fun ls hl => ?_)
                          refine lv_goto (tgt := 90) hx hb dX12_copy_121 (by decide) ?_
                          obtain ⟨m90, hm90, h⟩ := h
                          exact ih90 m90 hm90 _ _ _ _ _ h hw (lv_sub hl [1, 2, 3, 4, 5, 6, 0] rfl)
                    exact key90 _ _ _ _ _ _ h hw (lv_sub hl [1, 2, 3, 4, 5, 6, 0] rfl)
                  · have h := h.2 hc148
                    refine lv_aload_n hx hb dX12_copy_81 rfl (lv_at hl 0 rfl) ?_
                    refine lv_iconst (v := 2) hx hb dX12_copy_82 (by decide) ?_
                    refine m_ci (m_runV (rest := []) hX hw (tX12_meets h) mtX12_meets k_1076 ⟨k_1078, k_24⟩ cl12 hT7 ⟨⟨rfl, rfl, Nat.le_of_ble_eq_true rfl, Nat.le_of_ble_eq_true rfl⟩, Nat.le_of_ble_eq_true rfl, Nat.le_of_ble_eq_true rfl⟩ rfl hl.1 rfl (Nat.le_of_ble_eq_true rfl) dX12_copy_83) hw (fun r185 σ186 H locs h hw => ?_)
                    exact m_iret hX hlk hr hw h dX12_copy_86
        · have h := h.1 hc15
          refine lv_aload_n hx hb dX12_copy_34 rfl (lv_at hl 0 rfl) ?_
          refine lv_iconst (v := 1) hx hb dX12_copy_35 (by decide) ?_
          refine m_ci (m_runV (rest := []) hX hw (tX12_meets h) mtX12_meets k_1076 ⟨k_1078, k_24⟩ cl12 hT7 ⟨⟨rfl, rfl, Nat.le_of_ble_eq_true rfl, Nat.le_of_ble_eq_true rfl⟩, Nat.le_of_ble_eq_true rfl, Nat.le_of_ble_eq_true rfl⟩ rfl hl.1 rfl (Nat.le_of_ble_eq_true rfl) dX12_copy_36) hw (fun r187 σ188 H locs h hw => ?_)
          exact m_iret hX hlk hr hw h dX12_copy_39
    · have h := h.1 hc6
      refine lv_iconst (v := (-1)) hx hb dX12_copy_14 (by decide) ?_
      exact m_iret hX hlk hr hw h dX12_copy_15
theorem mtX12_copy : Mth yX12_copy cX12_copy 7 (some .int) 5 := ⟨k_1087, k_50, by decide +kernel⟩
theorem tX12_copy {l : Launch} {D : va_G} {cA : Nat → ClassId} {z0 : Nat} {σ : Me} {a0 : Nat} {x1 : Int32} {x2 : Int32} {x3 : Int32} {x4 : Int32} {x5 : Int32} {Q : Int32 → Me → Prop} (h : pX12_copy σ a0 x1 x2 x3 x4 x5 Q) : Met l yX12_copy (Cond.code yX12_copy cX12_copy 7 (some .int) :: gTab) rX12_copy (PcM D cA z0 σ [.ref a0, .int x1, .int x2, .int x3, .int x4, .int x5]) (va_Qi Q (BM D cA z0) (AM z0)) 0 0 (AM z0) :=
  met_of (by decide) (Nat.le_of_ble_eq_true rfl) (fun hX hlk hr hn hw hl => wX12_copy hX hlk hr h hw hl)
abbrev rX12_allOf : Room := { frames := 0, cells := 0, slots := 0, locals := 0 }
def pX12_allOf (σ : Me) (a0 : Nat) (x1 : Int32) (Q : Int32 → Me → Prop) : Prop := ∃ I4 : Nat → Me → Int32 → Int32 → Prop, (∀ (n4 : Nat) (σ1 : Me) (x2_2 : Int32) (x3_3 : Int32), I4 n4 σ1 x2_2 x3_3 → (((7 : Int32)) ≤ x3_3 → Q x2_2 σ1) ∧ (¬ ((7 : Int32)) ≤ x3_3 → gT σ1 a0 = 12 ∧ ∃ b7 : Nat, gP σ1 a0 5 = some b7 ∧ gT σ1 b7 = 20 ∧ vp_in ((((7 : Int32)) * x1) + x3_3) (gN σ1 b7) ∧ ∀ x2_10 : Int32, x2_10 = (x2_2 + (gI σ1 b7 ((((7 : Int32)) * x1) + x3_3).toNatClampNeg)) → ∀ x3_11 : Int32, x3_11 = x3_3 + 1 → ∃ m4 : Nat, m4 < n4 ∧ I4 m4 σ1 x2_10 x3_11)) ∧ ∃ n4 : Nat, I4 n4 σ ((0 : Int32)) ((0 : Int32))
set_option maxHeartbeats 4000000 in
set_option maxRecDepth 100000 in
theorem wX12_allOf {p : Program} {l : Launch} {e : Env} {s : State} {m : MethodId} {args : Array Value} {below : List Frame} {meth : Method} {c : Code} {D : va_G} {cA : Nat → ClassId} {z0 : Nat} (hX : Cx p m c cX12_allOf 4 s args RX12 D cA) (hlk : meth.locks = false) (hr : meth.sig.returnType = (some .int)) {σ : Me} {a0 : Nat} {x1 : Int32} {Q : Int32 → Me → Prop} (h : pX12_allOf σ a0 x1 Q) {H : Heap} {locs : List Loc} {ls : Array Slot} (hw : wS D cA z0 s σ H locs) (hl : lv_has ls 4 [(0, .ref a0), (1, .int x1)]) : W p l e rX12_allOf s m args below meth c H locs 0 0 (MQ below (va_Qi Q (BM D cA z0) (AM z0)) args s 0 0 (AM z0)) (F0 m 0 ls []) := by
  have hx := hX.1.1
  have hb := hX.1.2.1
  have hown := hX.1.2.2.2.1
  have hts := hX.1.2.2.2.2
  unfold pX12_allOf at h
  refine lv_iconst (v := 0) hx hb dX12_allOf_0 (by decide) ?_
  refine lv_istore_n (lv' := [(2, _), (0, _), (1, _)]) hx hb dX12_allOf_1 rfl hl (by decide) rfl (fun ls hl => ?_)
  refine lv_iconst (v := 0) hx hb dX12_allOf_2 (by decide) ?_
  refine lv_istore_n (lv' := [(3, _), (2, _), (0, _), (1, _)]) hx hb dX12_allOf_3 rfl hl (by decide) rfl (fun ls hl => ?_)
  obtain ⟨I4, hI4, n4, h⟩ := h
  have key4 : ∀ (n4 : Nat) (σ1 : Me) (x2_2 : Int32) (x3_3 : Int32) (H : Heap) (locs : List Loc) (ls : Array Slot), I4 n4 σ1 x2_2 x3_3 → wS D cA z0 s σ1 H locs → lv_has ls 4 [(0, .ref a0), (1, .int x1), (2, .int x2_2), (3, .int x3_3)] → W p l e rX12_allOf s m args below meth c H locs 0 0 (MQ below (va_Qi Q (BM D cA z0) (AM z0)) args s 0 0 (AM z0)) (F0 m 4 ls []) := by
    intro n4
    induction n4 using Nat.strongRecOn with
    | _ n4 ih4 =>
      intro σ1 x2_2 x3_3 H locs ls h hw hl
      have h := hI4 _ _ _ _ h
      refine lv_iload_n hx hb dX12_allOf_4 rfl (lv_at hl 3 rfl) ?_
      refine lv_bipush (v := 7) hx hb dX12_allOf_5 (by decide) ?_
      refine lv_icmp_ge (tgt := 30) hx hb dX12_allOf_7 (by decide) (fun hc5 => ?_) (fun hc5 => ?_)
      · have h := h.1 hc5
        refine lv_iload_n hx hb dX12_allOf_30 rfl (lv_at hl 2 rfl) ?_
        exact m_iret hX hlk hr hw h dX12_allOf_31
      · have h := h.2 hc5
        refine lv_iload_n hx hb dX12_allOf_10 rfl (lv_at hl 2 rfl) ?_
        refine lv_aload_n hx hb dX12_allOf_11 rfl (lv_at hl 0 rfl) ?_
        obtain ⟨hT6, h⟩ := h
        obtain ⟨b7, hb7, h⟩ := h
        refine m_get hX hw cl12 hT6 5 (by decide) k_879 (fun _ h => h) (v := .ref b7) (congrArg va_rf hb7) dX12_allOf_12 ?_
        refine lv_bipush (v := 7) hx hb dX12_allOf_15 (by decide) ?_
        refine lv_iload_n hx hb dX12_allOf_17 rfl (lv_at hl 1 rfl) ?_
        refine lv_imul hx hb dX12_allOf_18 ?_
        refine lv_iload_n hx hb dX12_allOf_19 rfl (lv_at hl 3 rfl) ?_
        refine lv_iadd hx hb dX12_allOf_20 ?_
        obtain ⟨hT8, h⟩ := h
        obtain ⟨hc9, h⟩ := h
        refine m_iald hX hw hT8 hc9 dX12_allOf_21 ?_
        refine lv_iadd hx hb dX12_allOf_22 ?_
        refine lv_topi (fun x2_10 e_x2_10 => ?_)
        have h := h x2_10 e_x2_10
        refine lv_istore_n (lv' := [(2, _), (0, _), (1, _), (3, _)]) hx hb dX12_allOf_23 rfl hl (by decide) rfl (fun ls hl => ?_)
        obtain ⟨x3_11, e_x3_11⟩ : ∃ y : Int32, y = x3_3 + 1 := ⟨_, rfl⟩
        have h := h x3_11 e_x3_11
        refine lv_iinc (v := x3_11) (lv' := [(3, _), (2, _), (0, _), (1, _)]) hx hb dX12_allOf_24 hl (k := 3) rfl (by rw [e_x3_11]; rfl) (by decide) rfl (fun ls hl => ?_)
        refine lv_goto (tgt := 4) hx hb dX12_allOf_27 (by decide) ?_
        obtain ⟨m4, hm4, h⟩ := h
        exact ih4 m4 hm4 _ _ _ _ _ _ h hw (lv_sub hl [2, 3, 1, 0] rfl)
  exact key4 _ _ _ _ _ _ _ h hw (lv_sub hl [2, 3, 1, 0] rfl)
theorem mtX12_allOf : Mth yX12_allOf cX12_allOf 4 (some .int) 1 := ⟨k_1096, k_50, by decide +kernel⟩
theorem tX12_allOf {l : Launch} {D : va_G} {cA : Nat → ClassId} {z0 : Nat} {σ : Me} {a0 : Nat} {x1 : Int32} {Q : Int32 → Me → Prop} (h : pX12_allOf σ a0 x1 Q) : Met l yX12_allOf (Cond.code yX12_allOf cX12_allOf 4 (some .int) :: gTab) rX12_allOf (PcM D cA z0 σ [.ref a0, .int x1]) (va_Qi Q (BM D cA z0) (AM z0)) 0 0 (AM z0) :=
  met_of (by decide) (Nat.le_of_ble_eq_true rfl) (fun hX hlk hr hn hw hl => wX12_allOf hX hlk hr h hw hl)
abbrev rX12_mean : Room := { frames := 2, cells := 0, slots := 0, locals := 42 }
def pX12_mean (σ : Me) (a0 : Nat) (x1 : Int32) (Q : Int32 → Me → Prop) : Prop := pX12_isPlace σ x1 (fun r1 σ2 => (r1 = 0 → Q ((-1 : Int32)) σ2) ∧ (¬ r1 = 0 → gT σ2 a0 = 12 ∧ ∃ b5 : Nat, gP σ2 a0 4 = some b5 ∧ gT σ2 b5 = 22 ∧ vp_in x1 (gN σ2 b5) ∧ ((gI σ2 b5 x1.toNatClampNeg) = 0 → pX12_meets σ2 a0 ((1 : Int32)) (fun r38 σ39 => Q r38 σ39)) ∧ (¬ (gI σ2 b5 x1.toNatClampNeg) = 0 → ∃ I28 : Nat → Me → Int32 → Int32 → Prop, (∀ (n28 : Nat) (σ9 : Me) (x2_10 : Int32) (x3_11 : Int32), I28 n28 σ9 x2_10 x3_11 → (((7 : Int32)) ≤ x3_11 → gT σ9 a0 = 12 ∧ pX12_allOf σ9 a0 x1 (fun r21 σ22 => (r21 = 0 → gT σ22 a0 = 12 ∧ pX12_meets σ22 a0 ((4 : Int32)) (fun r29 σ30 => Q r29 σ30)) ∧ (¬ r21 = 0 → gT σ22 a0 = 12 ∧ pX12_allOf σ22 a0 x1 (fun r25 σ26 => ¬ r25 = 0 ∧ Q (x2_10 / r25) σ26)))) ∧ (¬ ((7 : Int32)) ≤ x3_11 → gT σ9 a0 = 12 ∧ ∃ b33 : Nat, gP σ9 a0 5 = some b33 ∧ gT σ9 b33 = 20 ∧ vp_in ((((7 : Int32)) * x1) + x3_11) (gN σ9 b33) ∧ ∀ x2_36 : Int32, x2_36 = (x2_10 + (x3_11 * (gI σ9 b33 ((((7 : Int32)) * x1) + x3_11).toNatClampNeg))) → ∀ x3_37 : Int32, x3_37 = x3_11 + 1 → ∃ m28 : Nat, m28 < n28 ∧ I28 m28 σ9 x2_36 x3_37)) ∧ ∃ n28 : Nat, I28 n28 σ2 ((0 : Int32)) ((0 : Int32)))))
set_option maxHeartbeats 4000000 in
set_option maxRecDepth 100000 in
theorem wX12_mean {p : Program} {l : Launch} {e : Env} {s : State} {m : MethodId} {args : Array Value} {below : List Frame} {meth : Method} {c : Code} {D : va_G} {cA : Nat → ClassId} {z0 : Nat} (hX : Cx p m c cX12_mean 4 s args RX12 D cA) (hlk : meth.locks = false) (hr : meth.sig.returnType = (some .int)) {σ : Me} {a0 : Nat} {x1 : Int32} {Q : Int32 → Me → Prop} (h : pX12_mean σ a0 x1 Q) {H : Heap} {locs : List Loc} {ls : Array Slot} (hw : wS D cA z0 s σ H locs) (hl : lv_has ls 4 [(0, .ref a0), (1, .int x1)]) : W p l e rX12_mean s m args below meth c H locs 0 0 (MQ below (va_Qi Q (BM D cA z0) (AM z0)) args s 0 0 (AM z0)) (F0 m 0 ls []) := by
  have hx := hX.1.1
  have hb := hX.1.2.1
  have hown := hX.1.2.2.2.1
  have hts := hX.1.2.2.2.2
  unfold pX12_mean at h
  refine lv_iload_n hx hb dX12_mean_0 rfl (lv_at hl 1 rfl) ?_
  refine m_ci (m_runS (rest := []) hX hw (tX12_isPlace h) mtX12_isPlace k_1069 k_1070 ⟨⟨rfl, rfl, Nat.le_of_ble_eq_true rfl, Nat.le_of_ble_eq_true rfl⟩, Nat.le_of_ble_eq_true rfl, Nat.le_of_ble_eq_true rfl⟩ rfl hl.1 rfl (Nat.le_of_ble_eq_true rfl) dX12_mean_1) hw (fun r1 σ2 H locs h hw => ?_)
  refine lv_if_ne (tgt := 9) hx hb dX12_mean_4 (by decide) (fun hc3 => ?_) (fun hc3 => ?_)
  · have h := h.2 hc3
    refine lv_aload_n hx hb dX12_mean_9 rfl (lv_at hl 0 rfl) ?_
    obtain ⟨hT4, h⟩ := h
    obtain ⟨b5, hb5, h⟩ := h
    refine m_get hX hw cl12 hT4 4 (by decide) k_878 (fun _ h => h) (v := .ref b5) (congrArg va_rf hb5) dX12_mean_10 ?_
    refine lv_iload_n hx hb dX12_mean_13 rfl (lv_at hl 1 rfl) ?_
    obtain ⟨hT6, h⟩ := h
    obtain ⟨hc7, h⟩ := h
    refine m_zald hX hw hT6 hc7 dX12_mean_14 ?_
    refine lv_if_ne (tgt := 24) hx hb dX12_mean_15 (by decide) (fun hc8 => ?_) (fun hc8 => ?_)
    · have h := h.2 hc8
      refine lv_iconst (v := 0) hx hb dX12_mean_24 (by decide) ?_
      refine lv_istore_n (lv' := [(2, _), (0, _), (1, _)]) hx hb dX12_mean_25 rfl hl (by decide) rfl (fun ls hl => ?_)
      refine lv_iconst (v := 0) hx hb dX12_mean_26 (by decide) ?_
      refine lv_istore_n (lv' := [(3, _), (2, _), (0, _), (1, _)]) hx hb dX12_mean_27 rfl hl (by decide) rfl (fun ls hl => ?_)
      obtain ⟨I28, hI28, n28, h⟩ := h
      have key28 : ∀ (n28 : Nat) (σ9 : Me) (x2_10 : Int32) (x3_11 : Int32) (H : Heap) (locs : List Loc) (ls : Array Slot), I28 n28 σ9 x2_10 x3_11 → wS D cA z0 s σ9 H locs → lv_has ls 4 [(0, .ref a0), (1, .int x1), (2, .int x2_10), (3, .int x3_11)] → W p l e rX12_mean s m args below meth c H locs 0 0 (MQ below (va_Qi Q (BM D cA z0) (AM z0)) args s 0 0 (AM z0)) (F0 m 28 ls []) := by
        intro n28
        induction n28 using Nat.strongRecOn with
        | _ n28 ih28 =>
          intro σ9 x2_10 x3_11 H locs ls h hw hl
          have h := hI28 _ _ _ _ h
          refine lv_iload_n hx hb dX12_mean_28 rfl (lv_at hl 3 rfl) ?_
          refine lv_bipush (v := 7) hx hb dX12_mean_29 (by decide) ?_
          refine lv_icmp_ge (tgt := 56) hx hb dX12_mean_31 (by decide) (fun hc20 => ?_) (fun hc20 => ?_)
          · have h := h.1 hc20
            refine lv_aload_n hx hb dX12_mean_56 rfl (lv_at hl 0 rfl) ?_
            refine lv_iload_n hx hb dX12_mean_57 rfl (lv_at hl 1 rfl) ?_
            obtain ⟨hT23, h⟩ := h
            refine m_ci (m_runV (rest := []) hX hw (tX12_allOf h) mtX12_allOf k_1093 ⟨k_1095, k_25⟩ cl12 hT23 ⟨⟨rfl, rfl, Nat.le_of_ble_eq_true rfl, Nat.le_of_ble_eq_true rfl⟩, Nat.le_of_ble_eq_true rfl, Nat.le_of_ble_eq_true rfl⟩ rfl hl.1 rfl (Nat.le_of_ble_eq_true rfl) dX12_mean_58) hw (fun r21 σ22 H locs h hw => ?_)
            refine lv_if_ne (tgt := 72) hx hb dX12_mean_61 (by decide) (fun hc24 => ?_) (fun hc24 => ?_)
            · have h := h.2 hc24
              refine lv_iload_n hx hb dX12_mean_72 rfl (lv_at hl 2 rfl) ?_
              refine lv_aload_n hx hb dX12_mean_73 rfl (lv_at hl 0 rfl) ?_
              refine lv_iload_n hx hb dX12_mean_74 rfl (lv_at hl 1 rfl) ?_
              obtain ⟨hT27, h⟩ := h
              refine m_ci (m_runV (rest := [_]) hX hw (tX12_allOf h) mtX12_allOf k_1093 ⟨k_1095, k_25⟩ cl12 hT27 ⟨⟨rfl, rfl, Nat.le_of_ble_eq_true rfl, Nat.le_of_ble_eq_true rfl⟩, Nat.le_of_ble_eq_true rfl, Nat.le_of_ble_eq_true rfl⟩ rfl hl.1 rfl (Nat.le_of_ble_eq_true rfl) dX12_mean_75) hw (fun r25 σ26 H locs h hw => ?_)
              obtain ⟨hc28, h⟩ := h
              refine lv_idiv hx hb dX12_mean_78 hc28 ?_
              exact m_iret hX hlk hr hw h dX12_mean_79
            · have h := h.1 hc24
              refine lv_aload_n hx hb dX12_mean_64 rfl (lv_at hl 0 rfl) ?_
              refine lv_iconst (v := 4) hx hb dX12_mean_65 (by decide) ?_
              obtain ⟨hT31, h⟩ := h
              refine m_ci (m_runV (rest := []) hX hw (tX12_meets h) mtX12_meets k_1076 ⟨k_1078, k_24⟩ cl12 hT31 ⟨⟨rfl, rfl, Nat.le_of_ble_eq_true rfl, Nat.le_of_ble_eq_true rfl⟩, Nat.le_of_ble_eq_true rfl, Nat.le_of_ble_eq_true rfl⟩ rfl hl.1 rfl (Nat.le_of_ble_eq_true rfl) dX12_mean_66) hw (fun r29 σ30 H locs h hw => ?_)
              refine lv_goto (tgt := 79) hx hb dX12_mean_69 (by decide) ?_
              exact m_iret hX hlk hr hw h dX12_mean_79
          · have h := h.2 hc20
            refine lv_iload_n hx hb dX12_mean_34 rfl (lv_at hl 2 rfl) ?_
            refine lv_iload_n hx hb dX12_mean_35 rfl (lv_at hl 3 rfl) ?_
            refine lv_aload_n hx hb dX12_mean_36 rfl (lv_at hl 0 rfl) ?_
            obtain ⟨hT32, h⟩ := h
            obtain ⟨b33, hb33, h⟩ := h
            refine m_get hX hw cl12 hT32 5 (by decide) k_879 (fun _ h => h) (v := .ref b33) (congrArg va_rf hb33) dX12_mean_37 ?_
            refine lv_bipush (v := 7) hx hb dX12_mean_40 (by decide) ?_
            refine lv_iload_n hx hb dX12_mean_42 rfl (lv_at hl 1 rfl) ?_
            refine lv_imul hx hb dX12_mean_43 ?_
            refine lv_iload_n hx hb dX12_mean_44 rfl (lv_at hl 3 rfl) ?_
            refine lv_iadd hx hb dX12_mean_45 ?_
            obtain ⟨hT34, h⟩ := h
            obtain ⟨hc35, h⟩ := h
            refine m_iald hX hw hT34 hc35 dX12_mean_46 ?_
            refine lv_imul hx hb dX12_mean_47 ?_
            refine lv_iadd hx hb dX12_mean_48 ?_
            refine lv_topi (fun x2_36 e_x2_36 => ?_)
            have h := h x2_36 e_x2_36
            refine lv_istore_n (lv' := [(2, _), (0, _), (1, _), (3, _)]) hx hb dX12_mean_49 rfl hl (by decide) rfl (fun ls hl => ?_)
            obtain ⟨x3_37, e_x3_37⟩ : ∃ y : Int32, y = x3_11 + 1 := ⟨_, rfl⟩
            have h := h x3_37 e_x3_37
            refine lv_iinc (v := x3_37) (lv' := [(3, _), (2, _), (0, _), (1, _)]) hx hb dX12_mean_50 hl (k := 3) rfl (by rw [e_x3_37]; rfl) (by decide) rfl (fun ls hl => ?_)
            refine lv_goto (tgt := 28) hx hb dX12_mean_53 (by decide) ?_
            obtain ⟨m28, hm28, h⟩ := h
            exact ih28 m28 hm28 _ _ _ _ _ _ h hw (lv_sub hl [2, 3, 1, 0] rfl)
      exact key28 _ _ _ _ _ _ _ h hw (lv_sub hl [2, 3, 1, 0] rfl)
    · have h := h.1 hc8
      refine lv_aload_n hx hb dX12_mean_18 rfl (lv_at hl 0 rfl) ?_
      refine lv_iconst (v := 1) hx hb dX12_mean_19 (by decide) ?_
      refine m_ci (m_runV (rest := []) hX hw (tX12_meets h) mtX12_meets k_1076 ⟨k_1078, k_24⟩ cl12 hT4 ⟨⟨rfl, rfl, Nat.le_of_ble_eq_true rfl, Nat.le_of_ble_eq_true rfl⟩, Nat.le_of_ble_eq_true rfl, Nat.le_of_ble_eq_true rfl⟩ rfl hl.1 rfl (Nat.le_of_ble_eq_true rfl) dX12_mean_20) hw (fun r38 σ39 H locs h hw => ?_)
      exact m_iret hX hlk hr hw h dX12_mean_23
  · have h := h.1 hc3
    refine lv_iconst (v := (-1)) hx hb dX12_mean_7 (by decide) ?_
    exact m_iret hX hlk hr hw h dX12_mean_8
theorem mtX12_mean : Mth yX12_mean cX12_mean 4 (some .int) 1 := ⟨k_1092, k_50, by decide +kernel⟩
theorem tX12_mean {l : Launch} {D : va_G} {cA : Nat → ClassId} {z0 : Nat} {σ : Me} {a0 : Nat} {x1 : Int32} {Q : Int32 → Me → Prop} (h : pX12_mean σ a0 x1 Q) : Met l yX12_mean (Cond.code yX12_mean cX12_mean 4 (some .int) :: gTab) rX12_mean (PcM D cA z0 σ [.ref a0, .int x1]) (va_Qi Q (BM D cA z0) (AM z0)) 0 0 (AM z0) :=
  met_of (by decide) (Nat.le_of_ble_eq_true rfl) (fun hX hlk hr hn hw hl => wX12_mean hX hlk hr h hw hl)
abbrev rX12_sheet : Room := { frames := 2, cells := 0, slots := 0, locals := 42 }
def pX12_sheet (σ : Me) (a0 : Nat) (x1 : Int32) (x2 : Int32) (Q : Int32 → Me → Prop) : Prop := pX12_isPlace σ x1 (fun r1 σ2 => (r1 = 0 → Q ((-1 : Int32)) σ2) ∧ (¬ r1 = 0 → (x2 ≤ ((25 : Int32)) → (0 ≤ x2 → gT σ2 a0 = 12 ∧ ∃ b7 : Nat, gP σ2 a0 7 = some b7 ∧ gT σ2 b7 = 20 ∧ vp_in x1 (gN σ2 b7) ∧ ∀ σ10 : Me, σ10 = sI σ2 b7 x1.toNatClampNeg x2 → ∃ I34 : Nat → Me → Int32 → Prop, (∀ (n34 : Nat) (σ11 : Me) (x3_12 : Int32), I34 n34 σ11 x3_12 → (((25 : Int32)) ≤ x3_12 → Q x2 σ11) ∧ (¬ ((25 : Int32)) ≤ x3_12 → gT σ11 a0 = 12 ∧ ∃ b16 : Nat, gP σ11 a0 8 = some b16 ∧ gT σ11 b16 = 23 ∧ vp_in ((((25 : Int32)) * x1) + x3_12) (gN σ11 b16) ∧ ∀ σ19 : Me, σ19 = sI σ11 b16 ((((25 : Int32)) * x1) + x3_12).toNatClampNeg (vp_nar .byte ((0 : Int32))) → ∀ x3_20 : Int32, x3_20 = x3_12 + 1 → ∃ m34 : Nat, m34 < n34 ∧ I34 m34 σ19 x3_20)) ∧ ∃ n34 : Nat, I34 n34 σ10 ((0 : Int32))) ∧ (¬ 0 ≤ x2 → gT σ2 a0 = 12 ∧ pX12_meets σ2 a0 ((5 : Int32)) (fun r21 σ22 => Q r21 σ22))) ∧ (¬ x2 ≤ ((25 : Int32)) → Q ((-1 : Int32)) σ2)))
set_option maxHeartbeats 4000000 in
set_option maxRecDepth 100000 in
theorem wX12_sheet {p : Program} {l : Launch} {e : Env} {s : State} {m : MethodId} {args : Array Value} {below : List Frame} {meth : Method} {c : Code} {D : va_G} {cA : Nat → ClassId} {z0 : Nat} (hX : Cx p m c cX12_sheet 4 s args RX12 D cA) (hlk : meth.locks = false) (hr : meth.sig.returnType = (some .int)) {σ : Me} {a0 : Nat} {x1 : Int32} {x2 : Int32} {Q : Int32 → Me → Prop} (h : pX12_sheet σ a0 x1 x2 Q) {H : Heap} {locs : List Loc} {ls : Array Slot} (hw : wS D cA z0 s σ H locs) (hl : lv_has ls 4 [(0, .ref a0), (1, .int x1), (2, .int x2)]) : W p l e rX12_sheet s m args below meth c H locs 0 0 (MQ below (va_Qi Q (BM D cA z0) (AM z0)) args s 0 0 (AM z0)) (F0 m 0 ls []) := by
  have hx := hX.1.1
  have hb := hX.1.2.1
  have hown := hX.1.2.2.2.1
  have hts := hX.1.2.2.2.2
  unfold pX12_sheet at h
  refine lv_iload_n hx hb dX12_sheet_0 rfl (lv_at hl 1 rfl) ?_
  refine m_ci (m_runS (rest := []) hX hw (tX12_isPlace h) mtX12_isPlace k_1069 k_1070 ⟨⟨rfl, rfl, Nat.le_of_ble_eq_true rfl, Nat.le_of_ble_eq_true rfl⟩, Nat.le_of_ble_eq_true rfl, Nat.le_of_ble_eq_true rfl⟩ rfl hl.1 rfl (Nat.le_of_ble_eq_true rfl) dX12_sheet_1) hw (fun r1 σ2 H locs h hw => ?_)
  refine lv_if_eq (tgt := 13) hx hb dX12_sheet_4 (by decide) (fun hc3 => ?_) (fun hc3 => ?_)
  · have h := h.1 hc3
    refine lv_iconst (v := (-1)) hx hb dX12_sheet_13 (by decide) ?_
    exact m_iret hX hlk hr hw h dX12_sheet_14
  · have h := h.2 hc3
    refine lv_iload_n hx hb dX12_sheet_7 rfl (lv_at hl 2 rfl) ?_
    refine lv_bipush (v := 25) hx hb dX12_sheet_8 (by decide) ?_
    refine lv_icmp_le (tgt := 15) hx hb dX12_sheet_10 (by decide) (fun hc4 => ?_) (fun hc4 => ?_)
    · have h := h.1 hc4
      refine lv_iload_n hx hb dX12_sheet_15 rfl (lv_at hl 2 rfl) ?_
      refine lv_if_ge (tgt := 25) hx hb dX12_sheet_16 (by decide) (fun hc5 => ?_) (fun hc5 => ?_)
      · have h := h.1 hc5
        refine lv_aload_n hx hb dX12_sheet_25 rfl (lv_at hl 0 rfl) ?_
        obtain ⟨hT6, h⟩ := h
        obtain ⟨b7, hb7, h⟩ := h
        refine m_get hX hw cl12 hT6 7 (by decide) k_881 (fun _ h => h) (v := .ref b7) (congrArg va_rf hb7) dX12_sheet_26 ?_
        refine lv_iload_n hx hb dX12_sheet_29 rfl (lv_at hl 1 rfl) ?_
        refine lv_iload_n hx hb dX12_sheet_30 rfl (lv_at hl 2 rfl) ?_
        obtain ⟨hT8, h⟩ := h
        obtain ⟨hc9, h⟩ := h
        refine m_iast hX hw hT8 hc9 dX12_sheet_31 (fun H locs hw => ?_)
        let σ10 : Me := sI σ2 b7 x1.toNatClampNeg x2
        have h := h σ10 rfl
        have hw : wS D cA z0 s σ10 H locs := hw
        refine lv_iconst (v := 0) hx hb dX12_sheet_32 (by decide) ?_
        refine lv_istore_n (lv' := [(3, _), (0, _), (1, _), (2, _)]) hx hb dX12_sheet_33 rfl hl (by decide) rfl (fun ls hl => ?_)
        obtain ⟨I34, hI34, n34, h⟩ := h
        have key34 : ∀ (n34 : Nat) (σ11 : Me) (x3_12 : Int32) (H : Heap) (locs : List Loc) (ls : Array Slot), I34 n34 σ11 x3_12 → wS D cA z0 s σ11 H locs → lv_has ls 4 [(0, .ref a0), (1, .int x1), (2, .int x2), (3, .int x3_12)] → W p l e rX12_sheet s m args below meth c H locs 0 0 (MQ below (va_Qi Q (BM D cA z0) (AM z0)) args s 0 0 (AM z0)) (F0 m 34 ls []) := by
          intro n34
          induction n34 using Nat.strongRecOn with
          | _ n34 ih34 =>
            intro σ11 x3_12 H locs ls h hw hl
            have h := hI34 _ _ _ h
            refine lv_iload_n hx hb dX12_sheet_34 rfl (lv_at hl 3 rfl) ?_
            refine lv_bipush (v := 25) hx hb dX12_sheet_35 (by decide) ?_
            refine lv_icmp_ge (tgt := 58) hx hb dX12_sheet_37 (by decide) (fun hc14 => ?_) (fun hc14 => ?_)
            · have h := h.1 hc14
              refine lv_iload_n hx hb dX12_sheet_58 rfl (lv_at hl 2 rfl) ?_
              exact m_iret hX hlk hr hw h dX12_sheet_59
            · have h := h.2 hc14
              refine lv_aload_n hx hb dX12_sheet_40 rfl (lv_at hl 0 rfl) ?_
              obtain ⟨hT15, h⟩ := h
              obtain ⟨b16, hb16, h⟩ := h
              refine m_get hX hw cl12 hT15 8 (by decide) k_882 (fun _ h => h) (v := .ref b16) (congrArg va_rf hb16) dX12_sheet_41 ?_
              refine lv_bipush (v := 25) hx hb dX12_sheet_44 (by decide) ?_
              refine lv_iload_n hx hb dX12_sheet_46 rfl (lv_at hl 1 rfl) ?_
              refine lv_imul hx hb dX12_sheet_47 ?_
              refine lv_iload_n hx hb dX12_sheet_48 rfl (lv_at hl 3 rfl) ?_
              refine lv_iadd hx hb dX12_sheet_49 ?_
              refine lv_iconst (v := 0) hx hb dX12_sheet_50 (by decide) ?_
              obtain ⟨hT17, h⟩ := h
              obtain ⟨hc18, h⟩ := h
              refine m_bast hX hw hT17 hc18 dX12_sheet_51 (fun H locs hw => ?_)
              let σ19 : Me := sI σ11 b16 ((((25 : Int32)) * x1) + x3_12).toNatClampNeg (vp_nar .byte ((0 : Int32)))
              have h := h σ19 rfl
              have hw : wS D cA z0 s σ19 H locs := hw
              obtain ⟨x3_20, e_x3_20⟩ : ∃ y : Int32, y = x3_12 + 1 := ⟨_, rfl⟩
              have h := h x3_20 e_x3_20
              refine lv_iinc (v := x3_20) (lv' := [(3, _), (0, _), (1, _), (2, _)]) hx hb dX12_sheet_52 hl (k := 3) rfl (by rw [e_x3_20]; rfl) (by decide) rfl (fun ls hl => ?_)
              refine lv_goto (tgt := 34) hx hb dX12_sheet_55 (by decide) ?_
              obtain ⟨m34, hm34, h⟩ := h
              exact ih34 m34 hm34 _ _ _ _ _ h hw (lv_sub hl [1, 2, 3, 0] rfl)
        exact key34 _ _ _ _ _ _ h hw (lv_sub hl [1, 2, 3, 0] rfl)
      · have h := h.2 hc5
        refine lv_aload_n hx hb dX12_sheet_19 rfl (lv_at hl 0 rfl) ?_
        refine lv_iconst (v := 5) hx hb dX12_sheet_20 (by decide) ?_
        obtain ⟨hT23, h⟩ := h
        refine m_ci (m_runV (rest := []) hX hw (tX12_meets h) mtX12_meets k_1076 ⟨k_1078, k_24⟩ cl12 hT23 ⟨⟨rfl, rfl, Nat.le_of_ble_eq_true rfl, Nat.le_of_ble_eq_true rfl⟩, Nat.le_of_ble_eq_true rfl, Nat.le_of_ble_eq_true rfl⟩ rfl hl.1 rfl (Nat.le_of_ble_eq_true rfl) dX12_sheet_21) hw (fun r21 σ22 H locs h hw => ?_)
        exact m_iret hX hlk hr hw h dX12_sheet_24
    · have h := h.2 hc4
      refine lv_iconst (v := (-1)) hx hb dX12_sheet_13 (by decide) ?_
      exact m_iret hX hlk hr hw h dX12_sheet_14
theorem mtX12_sheet : Mth yX12_sheet cX12_sheet 4 (some .int) 2 := ⟨k_1100, k_50, by decide +kernel⟩
theorem tX12_sheet {l : Launch} {D : va_G} {cA : Nat → ClassId} {z0 : Nat} {σ : Me} {a0 : Nat} {x1 : Int32} {x2 : Int32} {Q : Int32 → Me → Prop} (h : pX12_sheet σ a0 x1 x2 Q) : Met l yX12_sheet (Cond.code yX12_sheet cX12_sheet 4 (some .int) :: gTab) rX12_sheet (PcM D cA z0 σ [.ref a0, .int x1, .int x2]) (va_Qi Q (BM D cA z0) (AM z0)) 0 0 (AM z0) :=
  met_of (by decide) (Nat.le_of_ble_eq_true rfl) (fun hX hlk hr hn hw hl => wX12_sheet hX hlk hr h hw hl)
abbrev rX12_lay : Room := { frames := 2, cells := 0, slots := 0, locals := 42 }
def pX12_lay (σ : Me) (a0 : Nat) (x1 : Int32) (x2 : Int32) (x3 : Int32) (Q : Int32 → Me → Prop) : Prop := pX12_isPlace σ x1 (fun r1 σ2 => (r1 = 0 → Q ((-1 : Int32)) σ2) ∧ (¬ r1 = 0 → gT σ2 a0 = 12 ∧ ∃ b5 : Nat, gP σ2 a0 7 = some b5 ∧ gT σ2 b5 = 20 ∧ vp_in x1 (gN σ2 b5) ∧ (0 ≤ (gI σ2 b5 x1.toNatClampNeg) → vp_in x1 (gN σ2 b5) ∧ pX12_in σ2 x2 ((0 : Int32)) ((gI σ2 b5 x1.toNatClampNeg) - ((1 : Int32))) (fun r10 σ11 => (r10 = 0 → gT σ11 a0 = 12 ∧ pX12_meets σ11 a0 ((2 : Int32)) (fun r20 σ21 => Q r20 σ21)) ∧ (¬ r10 = 0 → gT σ11 a0 = 12 ∧ ∃ b14 : Nat, gP σ11 a0 8 = some b14 ∧ gT σ11 b14 = 23 ∧ vp_in ((((25 : Int32)) * x1) + x2) (gN σ11 b14) ∧ ∀ x4_17 : Int32, x4_17 = (gI σ11 b14 ((((25 : Int32)) * x1) + x2).toNatClampNeg) → vp_in ((((25 : Int32)) * x1) + x2) (gN σ11 b14) ∧ ∀ σ19 : Me, σ19 = sI σ11 b14 ((((25 : Int32)) * x1) + x2).toNatClampNeg (vp_nar .byte x3.toInt8.toInt32) → Q (((1000 : Int32)) + x4_17) σ19))) ∧ (¬ 0 ≤ (gI σ2 b5 x1.toNatClampNeg) → pX12_meets σ2 a0 ((1 : Int32)) (fun r23 σ24 => Q r23 σ24))))
set_option maxHeartbeats 4000000 in
set_option maxRecDepth 100000 in
theorem wX12_lay {p : Program} {l : Launch} {e : Env} {s : State} {m : MethodId} {args : Array Value} {below : List Frame} {meth : Method} {c : Code} {D : va_G} {cA : Nat → ClassId} {z0 : Nat} (hX : Cx p m c cX12_lay 5 s args RX12 D cA) (hlk : meth.locks = false) (hr : meth.sig.returnType = (some .int)) {σ : Me} {a0 : Nat} {x1 : Int32} {x2 : Int32} {x3 : Int32} {Q : Int32 → Me → Prop} (h : pX12_lay σ a0 x1 x2 x3 Q) {H : Heap} {locs : List Loc} {ls : Array Slot} (hw : wS D cA z0 s σ H locs) (hl : lv_has ls 5 [(0, .ref a0), (1, .int x1), (2, .int x2), (3, .int x3)]) : W p l e rX12_lay s m args below meth c H locs 0 0 (MQ below (va_Qi Q (BM D cA z0) (AM z0)) args s 0 0 (AM z0)) (F0 m 0 ls []) := by
  have hx := hX.1.1
  have hb := hX.1.2.1
  have hown := hX.1.2.2.2.1
  have hts := hX.1.2.2.2.2
  unfold pX12_lay at h
  refine lv_iload_n hx hb dX12_lay_0 rfl (lv_at hl 1 rfl) ?_
  refine m_ci (m_runS (rest := []) hX hw (tX12_isPlace h) mtX12_isPlace k_1069 k_1070 ⟨⟨rfl, rfl, Nat.le_of_ble_eq_true rfl, Nat.le_of_ble_eq_true rfl⟩, Nat.le_of_ble_eq_true rfl, Nat.le_of_ble_eq_true rfl⟩ rfl hl.1 rfl (Nat.le_of_ble_eq_true rfl) dX12_lay_1) hw (fun r1 σ2 H locs h hw => ?_)
  refine lv_if_ne (tgt := 9) hx hb dX12_lay_4 (by decide) (fun hc3 => ?_) (fun hc3 => ?_)
  · have h := h.2 hc3
    refine lv_aload_n hx hb dX12_lay_9 rfl (lv_at hl 0 rfl) ?_
    obtain ⟨hT4, h⟩ := h
    obtain ⟨b5, hb5, h⟩ := h
    refine m_get hX hw cl12 hT4 7 (by decide) k_881 (fun _ h => h) (v := .ref b5) (congrArg va_rf hb5) dX12_lay_10 ?_
    refine lv_iload_n hx hb dX12_lay_13 rfl (lv_at hl 1 rfl) ?_
    obtain ⟨hT6, h⟩ := h
    obtain ⟨hc7, h⟩ := h
    refine m_iald hX hw hT6 hc7 dX12_lay_14 ?_
    refine lv_if_ge (tgt := 24) hx hb dX12_lay_15 (by decide) (fun hc8 => ?_) (fun hc8 => ?_)
    · have h := h.1 hc8
      refine lv_iload_n hx hb dX12_lay_24 rfl (lv_at hl 2 rfl) ?_
      refine lv_iconst (v := 0) hx hb dX12_lay_25 (by decide) ?_
      refine lv_aload_n hx hb dX12_lay_26 rfl (lv_at hl 0 rfl) ?_
      refine m_get hX hw cl12 hT4 7 (by decide) k_881 (fun _ h => h) (v := .ref b5) (congrArg va_rf hb5) dX12_lay_27 ?_
      refine lv_iload_n hx hb dX12_lay_30 rfl (lv_at hl 1 rfl) ?_
      obtain ⟨hc9, h⟩ := h
      refine m_iald hX hw hT6 hc9 dX12_lay_31 ?_
      refine lv_iconst (v := 1) hx hb dX12_lay_32 (by decide) ?_
      refine lv_isub hx hb dX12_lay_33 ?_
      refine m_ci (m_runS (rest := []) hX hw (tX12_in h) mtX12_in k_1054 k_1055 ⟨⟨rfl, rfl, Nat.le_of_ble_eq_true rfl, Nat.le_of_ble_eq_true rfl⟩, Nat.le_of_ble_eq_true rfl, Nat.le_of_ble_eq_true rfl⟩ rfl hl.1 rfl (Nat.le_of_ble_eq_true rfl) dX12_lay_34) hw (fun r10 σ11 H locs h hw => ?_)
      refine lv_if_ne (tgt := 46) hx hb dX12_lay_37 (by decide) (fun hc12 => ?_) (fun hc12 => ?_)
      · have h := h.2 hc12
        refine lv_aload_n hx hb dX12_lay_46 rfl (lv_at hl 0 rfl) ?_
        obtain ⟨hT13, h⟩ := h
        obtain ⟨b14, hb14, h⟩ := h
        refine m_get hX hw cl12 hT13 8 (by decide) k_882 (fun _ h => h) (v := .ref b14) (congrArg va_rf hb14) dX12_lay_47 ?_
        refine lv_bipush (v := 25) hx hb dX12_lay_50 (by decide) ?_
        refine lv_iload_n hx hb dX12_lay_52 rfl (lv_at hl 1 rfl) ?_
        refine lv_imul hx hb dX12_lay_53 ?_
        refine lv_iload_n hx hb dX12_lay_54 rfl (lv_at hl 2 rfl) ?_
        refine lv_iadd hx hb dX12_lay_55 ?_
        obtain ⟨hT15, h⟩ := h
        obtain ⟨hc16, h⟩ := h
        refine m_bald hX hw hT15 hc16 dX12_lay_56 ?_
        refine lv_topi (fun x4_17 e_x4_17 => ?_)
        have h := h x4_17 e_x4_17
        refine lv_istore (lv' := [(4, _), (0, _), (1, _), (2, _), (3, _)]) hx hb dX12_lay_57 hl (by decide) rfl (fun ls hl => ?_)
        refine lv_aload_n hx hb dX12_lay_59 rfl (lv_at hl 1 rfl) ?_
        refine m_get hX hw cl12 hT13 8 (by decide) k_882 (fun _ h => h) (v := .ref b14) (congrArg va_rf hb14) dX12_lay_60 ?_
        refine lv_bipush (v := 25) hx hb dX12_lay_63 (by decide) ?_
        refine lv_iload_n hx hb dX12_lay_65 rfl (lv_at hl 2 rfl) ?_
        refine lv_imul hx hb dX12_lay_66 ?_
        refine lv_iload_n hx hb dX12_lay_67 rfl (lv_at hl 3 rfl) ?_
        refine lv_iadd hx hb dX12_lay_68 ?_
        refine lv_iload_n hx hb dX12_lay_69 rfl (lv_at hl 4 rfl) ?_
        refine lv_i2b hx hb dX12_lay_70 rfl ?_
        obtain ⟨hc18, h⟩ := h
        refine m_bast hX hw hT15 hc18 dX12_lay_71 (fun H locs hw => ?_)
        let σ19 : Me := sI σ11 b14 ((((25 : Int32)) * x1) + x2).toNatClampNeg (vp_nar .byte x3.toInt8.toInt32)
        have h := h σ19 rfl
        have hw : wS D cA z0 s σ19 H locs := hw
        refine lv_sipush (v := 1000) hx hb dX12_lay_72 (by decide) ?_
        refine lv_iload hx hb dX12_lay_75 (lv_at hl 0 rfl) ?_
        refine lv_iadd hx hb dX12_lay_77 ?_
        exact m_iret hX hlk hr hw h dX12_lay_78
      · have h := h.1 hc12
        refine lv_aload_n hx hb dX12_lay_40 rfl (lv_at hl 0 rfl) ?_
        refine lv_iconst (v := 2) hx hb dX12_lay_41 (by decide) ?_
        obtain ⟨hT22, h⟩ := h
        refine m_ci (m_runV (rest := []) hX hw (tX12_meets h) mtX12_meets k_1076 ⟨k_1078, k_24⟩ cl12 hT22 ⟨⟨rfl, rfl, Nat.le_of_ble_eq_true rfl, Nat.le_of_ble_eq_true rfl⟩, Nat.le_of_ble_eq_true rfl, Nat.le_of_ble_eq_true rfl⟩ rfl hl.1 rfl (Nat.le_of_ble_eq_true rfl) dX12_lay_42) hw (fun r20 σ21 H locs h hw => ?_)
        exact m_iret hX hlk hr hw h dX12_lay_45
    · have h := h.2 hc8
      refine lv_aload_n hx hb dX12_lay_18 rfl (lv_at hl 0 rfl) ?_
      refine lv_iconst (v := 1) hx hb dX12_lay_19 (by decide) ?_
      refine m_ci (m_runV (rest := []) hX hw (tX12_meets h) mtX12_meets k_1076 ⟨k_1078, k_24⟩ cl12 hT4 ⟨⟨rfl, rfl, Nat.le_of_ble_eq_true rfl, Nat.le_of_ble_eq_true rfl⟩, Nat.le_of_ble_eq_true rfl, Nat.le_of_ble_eq_true rfl⟩ rfl hl.1 rfl (Nat.le_of_ble_eq_true rfl) dX12_lay_20) hw (fun r23 σ24 H locs h hw => ?_)
      exact m_iret hX hlk hr hw h dX12_lay_23
  · have h := h.1 hc3
    refine lv_iconst (v := (-1)) hx hb dX12_lay_7 (by decide) ?_
    exact m_iret hX hlk hr hw h dX12_lay_8
theorem mtX12_lay : Mth yX12_lay cX12_lay 5 (some .int) 3 := ⟨k_1104, k_50, by decide +kernel⟩
theorem tX12_lay {l : Launch} {D : va_G} {cA : Nat → ClassId} {z0 : Nat} {σ : Me} {a0 : Nat} {x1 : Int32} {x2 : Int32} {x3 : Int32} {Q : Int32 → Me → Prop} (h : pX12_lay σ a0 x1 x2 x3 Q) : Met l yX12_lay (Cond.code yX12_lay cX12_lay 5 (some .int) :: gTab) rX12_lay (PcM D cA z0 σ [.ref a0, .int x1, .int x2, .int x3]) (va_Qi Q (BM D cA z0) (AM z0)) 0 0 (AM z0) :=
  met_of (by decide) (Nat.le_of_ble_eq_true rfl) (fun hX hlk hr hn hw hl => wX12_lay hX hlk hr h hw hl)
abbrev rX12_tear : Room := { frames := 2, cells := 0, slots := 0, locals := 42 }
def pX12_tear (σ : Me) (a0 : Nat) (x1 : Int32) (Q : Int32 → Me → Prop) : Prop := pX12_isPlace σ x1 (fun r1 σ2 => (r1 = 0 → Q ((-1 : Int32)) σ2) ∧ (¬ r1 = 0 → gT σ2 a0 = 12 ∧ ∃ b5 : Nat, gP σ2 a0 7 = some b5 ∧ gT σ2 b5 = 20 ∧ vp_in x1 (gN σ2 b5) ∧ (0 ≤ (gI σ2 b5 x1.toNatClampNeg) → vp_in x1 (gN σ2 b5) ∧ ∀ σ10 : Me, σ10 = sI σ2 b5 x1.toNatClampNeg ((-1 : Int32)) → Q ((1 : Int32)) σ10) ∧ (¬ 0 ≤ (gI σ2 b5 x1.toNatClampNeg) → pX12_meets σ2 a0 ((1 : Int32)) (fun r11 σ12 => Q r11 σ12))))
set_option maxHeartbeats 4000000 in
set_option maxRecDepth 100000 in
theorem wX12_tear {p : Program} {l : Launch} {e : Env} {s : State} {m : MethodId} {args : Array Value} {below : List Frame} {meth : Method} {c : Code} {D : va_G} {cA : Nat → ClassId} {z0 : Nat} (hX : Cx p m c cX12_tear 2 s args RX12 D cA) (hlk : meth.locks = false) (hr : meth.sig.returnType = (some .int)) {σ : Me} {a0 : Nat} {x1 : Int32} {Q : Int32 → Me → Prop} (h : pX12_tear σ a0 x1 Q) {H : Heap} {locs : List Loc} {ls : Array Slot} (hw : wS D cA z0 s σ H locs) (hl : lv_has ls 2 [(0, .ref a0), (1, .int x1)]) : W p l e rX12_tear s m args below meth c H locs 0 0 (MQ below (va_Qi Q (BM D cA z0) (AM z0)) args s 0 0 (AM z0)) (F0 m 0 ls []) := by
  have hx := hX.1.1
  have hb := hX.1.2.1
  have hown := hX.1.2.2.2.1
  have hts := hX.1.2.2.2.2
  unfold pX12_tear at h
  refine lv_iload_n hx hb dX12_tear_0 rfl (lv_at hl 1 rfl) ?_
  refine m_ci (m_runS (rest := []) hX hw (tX12_isPlace h) mtX12_isPlace k_1069 k_1070 ⟨⟨rfl, rfl, Nat.le_of_ble_eq_true rfl, Nat.le_of_ble_eq_true rfl⟩, Nat.le_of_ble_eq_true rfl, Nat.le_of_ble_eq_true rfl⟩ rfl hl.1 rfl (Nat.le_of_ble_eq_true rfl) dX12_tear_1) hw (fun r1 σ2 H locs h hw => ?_)
  refine lv_if_ne (tgt := 9) hx hb dX12_tear_4 (by decide) (fun hc3 => ?_) (fun hc3 => ?_)
  · have h := h.2 hc3
    refine lv_aload_n hx hb dX12_tear_9 rfl (lv_at hl 0 rfl) ?_
    obtain ⟨hT4, h⟩ := h
    obtain ⟨b5, hb5, h⟩ := h
    refine m_get hX hw cl12 hT4 7 (by decide) k_881 (fun _ h => h) (v := .ref b5) (congrArg va_rf hb5) dX12_tear_10 ?_
    refine lv_iload_n hx hb dX12_tear_13 rfl (lv_at hl 1 rfl) ?_
    obtain ⟨hT6, h⟩ := h
    obtain ⟨hc7, h⟩ := h
    refine m_iald hX hw hT6 hc7 dX12_tear_14 ?_
    refine lv_if_ge (tgt := 24) hx hb dX12_tear_15 (by decide) (fun hc8 => ?_) (fun hc8 => ?_)
    · have h := h.1 hc8
      refine lv_aload_n hx hb dX12_tear_24 rfl (lv_at hl 0 rfl) ?_
      refine m_get hX hw cl12 hT4 7 (by decide) k_881 (fun _ h => h) (v := .ref b5) (congrArg va_rf hb5) dX12_tear_25 ?_
      refine lv_iload_n hx hb dX12_tear_28 rfl (lv_at hl 1 rfl) ?_
      refine lv_iconst (v := (-1)) hx hb dX12_tear_29 (by decide) ?_
      obtain ⟨hc9, h⟩ := h
      refine m_iast hX hw hT6 hc9 dX12_tear_30 (fun H locs hw => ?_)
      let σ10 : Me := sI σ2 b5 x1.toNatClampNeg ((-1 : Int32))
      have h := h σ10 rfl
      have hw : wS D cA z0 s σ10 H locs := hw
      refine lv_iconst (v := 1) hx hb dX12_tear_31 (by decide) ?_
      exact m_iret hX hlk hr hw h dX12_tear_32
    · have h := h.2 hc8
      refine lv_aload_n hx hb dX12_tear_18 rfl (lv_at hl 0 rfl) ?_
      refine lv_iconst (v := 1) hx hb dX12_tear_19 (by decide) ?_
      refine m_ci (m_runV (rest := []) hX hw (tX12_meets h) mtX12_meets k_1076 ⟨k_1078, k_24⟩ cl12 hT4 ⟨⟨rfl, rfl, Nat.le_of_ble_eq_true rfl, Nat.le_of_ble_eq_true rfl⟩, Nat.le_of_ble_eq_true rfl, Nat.le_of_ble_eq_true rfl⟩ rfl hl.1 rfl (Nat.le_of_ble_eq_true rfl) dX12_tear_20) hw (fun r11 σ12 H locs h hw => ?_)
      exact m_iret hX hlk hr hw h dX12_tear_23
  · have h := h.1 hc3
    refine lv_iconst (v := (-1)) hx hb dX12_tear_7 (by decide) ?_
    exact m_iret hX hlk hr hw h dX12_tear_8
theorem mtX12_tear : Mth yX12_tear cX12_tear 2 (some .int) 1 := ⟨k_1108, k_50, by decide +kernel⟩
theorem tX12_tear {l : Launch} {D : va_G} {cA : Nat → ClassId} {z0 : Nat} {σ : Me} {a0 : Nat} {x1 : Int32} {Q : Int32 → Me → Prop} (h : pX12_tear σ a0 x1 Q) : Met l yX12_tear (Cond.code yX12_tear cX12_tear 2 (some .int) :: gTab) rX12_tear (PcM D cA z0 σ [.ref a0, .int x1]) (va_Qi Q (BM D cA z0) (AM z0)) 0 0 (AM z0) :=
  met_of (by decide) (Nat.le_of_ble_eq_true rfl) (fun hX hlk hr hn hw hl => wX12_tear hX hlk hr h hw hl)
abbrev rX12_add : Room := { frames := 0, cells := 0, slots := 0, locals := 0 }
def pX12_add (σ : Me) (a0 : Nat) (x1 : Int32) (x2 : Int32) (x3 : Int32) (x4 : Int32) (x5 : Int32) (Q : Int32 → Me → Prop) : Prop := gT σ a0 = 12 ∧ ∃ b2 : Nat, gP σ a0 10 = some b2 ∧ gT σ b2 = 20 ∧ vp_in (gI σ a0 9) (gN σ b2) ∧ ∀ σ5 : Me, σ5 = sI σ b2 (gI σ a0 9).toNatClampNeg x1 → ∃ b6 : Nat, gP σ5 a0 11 = some b6 ∧ gT σ5 b6 = 20 ∧ vp_in (gI σ5 a0 9) (gN σ5 b6) ∧ ∀ σ9 : Me, σ9 = sI σ5 b6 (gI σ5 a0 9).toNatClampNeg x2 → ∃ b10 : Nat, gP σ9 a0 12 = some b10 ∧ gT σ9 b10 = 20 ∧ vp_in (gI σ9 a0 9) (gN σ9 b10) ∧ ∀ σ13 : Me, σ13 = sI σ9 b10 (gI σ9 a0 9).toNatClampNeg x3 → ∃ b14 : Nat, gP σ13 a0 13 = some b14 ∧ gT σ13 b14 = 20 ∧ vp_in (gI σ13 a0 9) (gN σ13 b14) ∧ ∀ σ17 : Me, σ17 = sI σ13 b14 (gI σ13 a0 9).toNatClampNeg x4 → ∃ b18 : Nat, gP σ17 a0 14 = some b18 ∧ gT σ17 b18 = 20 ∧ vp_in (gI σ17 a0 9) (gN σ17 b18) ∧ ∀ σ21 : Me, σ21 = sI σ17 b18 (gI σ17 a0 9).toNatClampNeg x5 → ∃ b22 : Nat, gP σ21 a0 16 = some b22 ∧ gT σ21 b22 = 22 ∧ vp_in (gI σ21 a0 9) (gN σ21 b22) ∧ ∀ σ25 : Me, σ25 = sI σ21 b22 (gI σ21 a0 9).toNatClampNeg (vp_nar .boolean ((0 : Int32))) → ∀ σ26 : Me, σ26 = sI σ25 a0 9 ((gI σ25 a0 9) + ((1 : Int32))) → Q ((gI σ26 a0 9) - ((1 : Int32))) σ26
set_option maxHeartbeats 4000000 in
set_option maxRecDepth 100000 in
theorem wX12_add {p : Program} {l : Launch} {e : Env} {s : State} {m : MethodId} {args : Array Value} {below : List Frame} {meth : Method} {c : Code} {D : va_G} {cA : Nat → ClassId} {z0 : Nat} (hX : Cx p m c cX12_add 6 s args RX12 D cA) (hlk : meth.locks = false) (hr : meth.sig.returnType = (some .int)) {σ : Me} {a0 : Nat} {x1 : Int32} {x2 : Int32} {x3 : Int32} {x4 : Int32} {x5 : Int32} {Q : Int32 → Me → Prop} (h : pX12_add σ a0 x1 x2 x3 x4 x5 Q) {H : Heap} {locs : List Loc} {ls : Array Slot} (hw : wS D cA z0 s σ H locs) (hl : lv_has ls 6 [(0, .ref a0), (1, .int x1), (2, .int x2), (3, .int x3), (4, .int x4), (5, .int x5)]) : W p l e rX12_add s m args below meth c H locs 0 0 (MQ below (va_Qi Q (BM D cA z0) (AM z0)) args s 0 0 (AM z0)) (F0 m 0 ls []) := by
  have hx := hX.1.1
  have hb := hX.1.2.1
  have hown := hX.1.2.2.2.1
  have hts := hX.1.2.2.2.2
  unfold pX12_add at h
  refine lv_aload_n hx hb dX12_add_0 rfl (lv_at hl 0 rfl) ?_
  obtain ⟨hT1, h⟩ := h
  obtain ⟨b2, hb2, h⟩ := h
  refine m_get hX hw cl12 hT1 10 (by decide) k_884 (fun _ h => h) (v := .ref b2) (congrArg va_rf hb2) dX12_add_1 ?_
  refine lv_aload_n hx hb dX12_add_4 rfl (lv_at hl 0 rfl) ?_
  refine m_get hX hw cl12 hT1 9 (by decide) k_883 (fun _ h => h) (v := .int _) rfl dX12_add_5 ?_
  refine lv_iload_n hx hb dX12_add_8 rfl (lv_at hl 1 rfl) ?_
  obtain ⟨hT3, h⟩ := h
  obtain ⟨hc4, h⟩ := h
  refine m_iast hX hw hT3 hc4 dX12_add_9 (fun H locs hw => ?_)
  let σ5 : Me := sI σ b2 (gI σ a0 9).toNatClampNeg x1
  have h := h σ5 rfl
  have hw : wS D cA z0 s σ5 H locs := hw
  refine lv_aload_n hx hb dX12_add_10 rfl (lv_at hl 0 rfl) ?_
  obtain ⟨b6, hb6, h⟩ := h
  refine m_get hX hw cl12 hT1 11 (by decide) k_885 (fun _ h => h) (v := .ref b6) (congrArg va_rf hb6) dX12_add_11 ?_
  refine lv_aload_n hx hb dX12_add_14 rfl (lv_at hl 0 rfl) ?_
  refine m_get hX hw cl12 hT1 9 (by decide) k_883 (fun _ h => h) (v := .int _) rfl dX12_add_15 ?_
  refine lv_iload_n hx hb dX12_add_18 rfl (lv_at hl 2 rfl) ?_
  obtain ⟨hT7, h⟩ := h
  obtain ⟨hc8, h⟩ := h
  refine m_iast hX hw hT7 hc8 dX12_add_19 (fun H locs hw => ?_)
  let σ9 : Me := sI σ5 b6 (gI σ5 a0 9).toNatClampNeg x2
  have h := h σ9 rfl
  have hw : wS D cA z0 s σ9 H locs := hw
  refine lv_aload_n hx hb dX12_add_20 rfl (lv_at hl 0 rfl) ?_
  obtain ⟨b10, hb10, h⟩ := h
  refine m_get hX hw cl12 hT1 12 (by decide) k_886 (fun _ h => h) (v := .ref b10) (congrArg va_rf hb10) dX12_add_21 ?_
  refine lv_aload_n hx hb dX12_add_24 rfl (lv_at hl 0 rfl) ?_
  refine m_get hX hw cl12 hT1 9 (by decide) k_883 (fun _ h => h) (v := .int _) rfl dX12_add_25 ?_
  refine lv_iload_n hx hb dX12_add_28 rfl (lv_at hl 3 rfl) ?_
  obtain ⟨hT11, h⟩ := h
  obtain ⟨hc12, h⟩ := h
  refine m_iast hX hw hT11 hc12 dX12_add_29 (fun H locs hw => ?_)
  let σ13 : Me := sI σ9 b10 (gI σ9 a0 9).toNatClampNeg x3
  have h := h σ13 rfl
  have hw : wS D cA z0 s σ13 H locs := hw
  refine lv_aload_n hx hb dX12_add_30 rfl (lv_at hl 0 rfl) ?_
  obtain ⟨b14, hb14, h⟩ := h
  refine m_get hX hw cl12 hT1 13 (by decide) k_887 (fun _ h => h) (v := .ref b14) (congrArg va_rf hb14) dX12_add_31 ?_
  refine lv_aload_n hx hb dX12_add_34 rfl (lv_at hl 0 rfl) ?_
  refine m_get hX hw cl12 hT1 9 (by decide) k_883 (fun _ h => h) (v := .int _) rfl dX12_add_35 ?_
  refine lv_iload hx hb dX12_add_38 (lv_at hl 4 rfl) ?_
  obtain ⟨hT15, h⟩ := h
  obtain ⟨hc16, h⟩ := h
  refine m_iast hX hw hT15 hc16 dX12_add_40 (fun H locs hw => ?_)
  let σ17 : Me := sI σ13 b14 (gI σ13 a0 9).toNatClampNeg x4
  have h := h σ17 rfl
  have hw : wS D cA z0 s σ17 H locs := hw
  refine lv_aload_n hx hb dX12_add_41 rfl (lv_at hl 0 rfl) ?_
  obtain ⟨b18, hb18, h⟩ := h
  refine m_get hX hw cl12 hT1 14 (by decide) k_888 (fun _ h => h) (v := .ref b18) (congrArg va_rf hb18) dX12_add_42 ?_
  refine lv_aload_n hx hb dX12_add_45 rfl (lv_at hl 0 rfl) ?_
  refine m_get hX hw cl12 hT1 9 (by decide) k_883 (fun _ h => h) (v := .int _) rfl dX12_add_46 ?_
  refine lv_iload hx hb dX12_add_49 (lv_at hl 5 rfl) ?_
  obtain ⟨hT19, h⟩ := h
  obtain ⟨hc20, h⟩ := h
  refine m_iast hX hw hT19 hc20 dX12_add_51 (fun H locs hw => ?_)
  let σ21 : Me := sI σ17 b18 (gI σ17 a0 9).toNatClampNeg x5
  have h := h σ21 rfl
  have hw : wS D cA z0 s σ21 H locs := hw
  refine lv_aload_n hx hb dX12_add_52 rfl (lv_at hl 0 rfl) ?_
  obtain ⟨b22, hb22, h⟩ := h
  refine m_get hX hw cl12 hT1 16 (by decide) k_890 (fun _ h => h) (v := .ref b22) (congrArg va_rf hb22) dX12_add_53 ?_
  refine lv_aload_n hx hb dX12_add_56 rfl (lv_at hl 0 rfl) ?_
  refine m_get hX hw cl12 hT1 9 (by decide) k_883 (fun _ h => h) (v := .int _) rfl dX12_add_57 ?_
  refine lv_iconst (v := 0) hx hb dX12_add_60 (by decide) ?_
  obtain ⟨hT23, h⟩ := h
  obtain ⟨hc24, h⟩ := h
  refine m_zast hX hw hT23 hc24 dX12_add_61 (fun H locs hw => ?_)
  let σ25 : Me := sI σ21 b22 (gI σ21 a0 9).toNatClampNeg (vp_nar .boolean ((0 : Int32)))
  have h := h σ25 rfl
  have hw : wS D cA z0 s σ25 H locs := hw
  refine lv_aload_n hx hb dX12_add_62 rfl (lv_at hl 0 rfl) ?_
  refine lv_dup hx hb dX12_add_63 rfl ?_
  refine m_get hX hw cl12 hT1 9 (by decide) k_883 (fun _ h => h) (v := .int _) rfl dX12_add_64 ?_
  refine lv_iconst (v := 1) hx hb dX12_add_67 (by decide) ?_
  refine lv_iadd hx hb dX12_add_68 ?_
  refine m_putI hX hw cl12 hT1 9 (by decide) k_883 (fun _ h => h) rfl rfl dX12_add_69 (fun H locs hw => ?_)
  let σ26 : Me := sI σ25 a0 9 ((gI σ25 a0 9) + ((1 : Int32)))
  have h := h σ26 rfl
  have hw : wS D cA z0 s σ26 H locs := hw
  refine lv_aload_n hx hb dX12_add_72 rfl (lv_at hl 0 rfl) ?_
  refine m_get hX hw cl12 hT1 9 (by decide) k_883 (fun _ h => h) (v := .int _) rfl dX12_add_73 ?_
  refine lv_iconst (v := 1) hx hb dX12_add_76 (by decide) ?_
  refine lv_isub hx hb dX12_add_77 ?_
  exact m_iret hX hlk hr hw h dX12_add_78
theorem mtX12_add : Mth yX12_add cX12_add 6 (some .int) 5 := ⟨k_1116, k_50, by decide +kernel⟩
theorem tX12_add {l : Launch} {D : va_G} {cA : Nat → ClassId} {z0 : Nat} {σ : Me} {a0 : Nat} {x1 : Int32} {x2 : Int32} {x3 : Int32} {x4 : Int32} {x5 : Int32} {Q : Int32 → Me → Prop} (h : pX12_add σ a0 x1 x2 x3 x4 x5 Q) : Met l yX12_add (Cond.code yX12_add cX12_add 6 (some .int) :: gTab) rX12_add (PcM D cA z0 σ [.ref a0, .int x1, .int x2, .int x3, .int x4, .int x5]) (va_Qi Q (BM D cA z0) (AM z0)) 0 0 (AM z0) :=
  met_of (by decide) (Nat.le_of_ble_eq_true rfl) (fun hX hlk hr hn hw hl => wX12_add hX hlk hr h hw hl)
abbrev rX12_table : Room := { frames := 2, cells := 0, slots := 0, locals := 42 }
def pX12_table (σ : Me) (a0 : Nat) (x1 : Int32) (Q : Int32 → Me → Prop) : Prop := pX12_isPlace σ x1 (fun r1 σ2 => (r1 = 0 → Q ((-1 : Int32)) σ2) ∧ (¬ r1 = 0 → gT σ2 a0 = 12 ∧ ((gI σ2 a0 9) = ((12 : Int32)) → Q ((-2 : Int32)) σ2) ∧ (¬ (gI σ2 a0 9) = ((12 : Int32)) → ∃ b6 : Nat, gP σ2 a0 7 = some b6 ∧ gT σ2 b6 = 20 ∧ vp_in x1 (gN σ2 b6) ∧ (0 ≤ (gI σ2 b6 x1.toNatClampNeg) → ∃ I38 : Nat → Me → Int32 → Prop, (∀ (n38 : Nat) (σ10 : Me) (x2_11 : Int32), I38 n38 σ10 x2_11 → (((25 : Int32)) ≤ x2_11 → gT σ10 a0 = 12 ∧ ∃ b25 : Nat, gP σ10 a0 7 = some b25 ∧ gT σ10 b25 = 20 ∧ vp_in x1 (gN σ10 b25) ∧ pX12_add σ10 a0 ((0 : Int32)) ((-9 : Int32)) ((-9 : Int32)) ((-9 : Int32)) (gI σ10 b25 x1.toNatClampNeg) (fun r28 σ29 => Q r28 σ29)) ∧ (¬ ((25 : Int32)) ≤ x2_11 → gT σ10 a0 = 12 ∧ ∃ b31 : Nat, gP σ10 a0 15 = some b31 ∧ ∃ b32 : Nat, gP σ10 a0 8 = some b32 ∧ gT σ10 b32 = 23 ∧ vp_in ((((25 : Int32)) * x1) + x2_11) (gN σ10 b32) ∧ gT σ10 b31 = 23 ∧ vp_in ((((25 : Int32)) * (gI σ10 a0 9)) + x2_11) (gN σ10 b31) ∧ ∀ σ37 : Me, σ37 = sI σ10 b31 ((((25 : Int32)) * (gI σ10 a0 9)) + x2_11).toNatClampNeg (vp_nar .byte (gI σ10 b32 ((((25 : Int32)) * x1) + x2_11).toNatClampNeg)) → ∀ x2_38 : Int32, x2_38 = x2_11 + 1 → ∃ m38 : Nat, m38 < n38 ∧ I38 m38 σ37 x2_38)) ∧ ∃ n38 : Nat, I38 n38 σ2 ((0 : Int32))) ∧ (¬ 0 ≤ (gI σ2 b6 x1.toNatClampNeg) → pX12_meets σ2 a0 ((1 : Int32)) (fun r39 σ40 => Q r39 σ40)))))
set_option maxHeartbeats 4000000 in
set_option maxRecDepth 100000 in
theorem wX12_table {p : Program} {l : Launch} {e : Env} {s : State} {m : MethodId} {args : Array Value} {below : List Frame} {meth : Method} {c : Code} {D : va_G} {cA : Nat → ClassId} {z0 : Nat} (hX : Cx p m c cX12_table 3 s args RX12 D cA) (hlk : meth.locks = false) (hr : meth.sig.returnType = (some .int)) {σ : Me} {a0 : Nat} {x1 : Int32} {Q : Int32 → Me → Prop} (h : pX12_table σ a0 x1 Q) {H : Heap} {locs : List Loc} {ls : Array Slot} (hw : wS D cA z0 s σ H locs) (hl : lv_has ls 3 [(0, .ref a0), (1, .int x1)]) : W p l e rX12_table s m args below meth c H locs 0 0 (MQ below (va_Qi Q (BM D cA z0) (AM z0)) args s 0 0 (AM z0)) (F0 m 0 ls []) := by
  have hx := hX.1.1
  have hb := hX.1.2.1
  have hown := hX.1.2.2.2.1
  have hts := hX.1.2.2.2.2
  unfold pX12_table at h
  refine lv_iload_n hx hb dX12_table_0 rfl (lv_at hl 1 rfl) ?_
  refine m_ci (m_runS (rest := []) hX hw (tX12_isPlace h) mtX12_isPlace k_1069 k_1070 ⟨⟨rfl, rfl, Nat.le_of_ble_eq_true rfl, Nat.le_of_ble_eq_true rfl⟩, Nat.le_of_ble_eq_true rfl, Nat.le_of_ble_eq_true rfl⟩ rfl hl.1 rfl (Nat.le_of_ble_eq_true rfl) dX12_table_1) hw (fun r1 σ2 H locs h hw => ?_)
  refine lv_if_ne (tgt := 9) hx hb dX12_table_4 (by decide) (fun hc3 => ?_) (fun hc3 => ?_)
  · have h := h.2 hc3
    refine lv_aload_n hx hb dX12_table_9 rfl (lv_at hl 0 rfl) ?_
    obtain ⟨hT4, h⟩ := h
    refine m_get hX hw cl12 hT4 9 (by decide) k_883 (fun _ h => h) (v := .int _) rfl dX12_table_10 ?_
    refine lv_bipush (v := 12) hx hb dX12_table_13 (by decide) ?_
    refine lv_icmp_ne (tgt := 21) hx hb dX12_table_15 (by decide) (fun hc5 => ?_) (fun hc5 => ?_)
    · have h := h.2 hc5
      refine lv_aload_n hx hb dX12_table_21 rfl (lv_at hl 0 rfl) ?_
      obtain ⟨b6, hb6, h⟩ := h
      refine m_get hX hw cl12 hT4 7 (by decide) k_881 (fun _ h => h) (v := .ref b6) (congrArg va_rf hb6) dX12_table_22 ?_
      refine lv_iload_n hx hb dX12_table_25 rfl (lv_at hl 1 rfl) ?_
      obtain ⟨hT7, h⟩ := h
      obtain ⟨hc8, h⟩ := h
      refine m_iald hX hw hT7 hc8 dX12_table_26 ?_
      refine lv_if_ge (tgt := 36) hx hb dX12_table_27 (by decide) (fun hc9 => ?_) (fun hc9 => ?_)
      · have h := h.1 hc9
        refine lv_iconst (v := 0) hx hb dX12_table_36 (by decide) ?_
        refine lv_istore_n (lv' := [(2, _), (0, _), (1, _)]) hx hb dX12_table_37 rfl hl (by decide) rfl (fun ls hl => ?_)
        obtain ⟨I38, hI38, n38, h⟩ := h
        have key38 : ∀ (n38 : Nat) (σ10 : Me) (x2_11 : Int32) (H : Heap) (locs : List Loc) (ls : Array Slot), I38 n38 σ10 x2_11 → wS D cA z0 s σ10 H locs → lv_has ls 3 [(0, .ref a0), (1, .int x1), (2, .int x2_11)] → W p l e rX12_table s m args below meth c H locs 0 0 (MQ below (va_Qi Q (BM D cA z0) (AM z0)) args s 0 0 (AM z0)) (F0 m 38 ls []) := by
          intro n38
          induction n38 using Nat.strongRecOn with
          | _ n38 ih38 =>
            intro σ10 x2_11 H locs ls h hw hl
            have h := hI38 _ _ _ h
            refine lv_iload_n hx hb dX12_table_38 rfl (lv_at hl 2 rfl) ?_
            refine lv_bipush (v := 25) hx hb dX12_table_39 (by decide) ?_
            refine lv_icmp_ge (tgt := 75) hx hb dX12_table_41 (by decide) (fun hc23 => ?_) (fun hc23 => ?_)
            · have h := h.1 hc23
              refine lv_aload_n hx hb dX12_table_75 rfl (lv_at hl 0 rfl) ?_
              refine lv_iconst (v := 0) hx hb dX12_table_76 (by decide) ?_
              refine lv_bipush (v := (-9)) hx hb dX12_table_77 (by decide) ?_
              refine lv_bipush (v := (-9)) hx hb dX12_table_79 (by decide) ?_
              refine lv_bipush (v := (-9)) hx hb dX12_table_81 (by decide) ?_
              refine lv_aload_n hx hb dX12_table_83 rfl (lv_at hl 0 rfl) ?_
              obtain ⟨hT24, h⟩ := h
              obtain ⟨b25, hb25, h⟩ := h
              refine m_get hX hw cl12 hT24 7 (by decide) k_881 (fun _ h => h) (v := .ref b25) (congrArg va_rf hb25) dX12_table_84 ?_
              refine lv_iload_n hx hb dX12_table_87 rfl (lv_at hl 1 rfl) ?_
              obtain ⟨hT26, h⟩ := h
              obtain ⟨hc27, h⟩ := h
              refine m_iald hX hw hT26 hc27 dX12_table_88 ?_
              refine m_ci (m_runV (rest := []) hX hw (tX12_add h) mtX12_add k_1113 ⟨k_1115, k_26⟩ cl12 hT24 ⟨⟨rfl, rfl, Nat.le_of_ble_eq_true rfl, Nat.le_of_ble_eq_true rfl⟩, Nat.le_of_ble_eq_true rfl, Nat.le_of_ble_eq_true rfl⟩ rfl hl.1 rfl (Nat.le_of_ble_eq_true rfl) dX12_table_89) hw (fun r28 σ29 H locs h hw => ?_)
              exact m_iret hX hlk hr hw h dX12_table_92
            · have h := h.2 hc23
              refine lv_aload_n hx hb dX12_table_44 rfl (lv_at hl 0 rfl) ?_
              obtain ⟨hT30, h⟩ := h
              obtain ⟨b31, hb31, h⟩ := h
              refine m_get hX hw cl12 hT30 15 (by decide) k_889 (fun _ h => h) (v := .ref b31) (congrArg va_rf hb31) dX12_table_45 ?_
              refine lv_bipush (v := 25) hx hb dX12_table_48 (by decide) ?_
              refine lv_aload_n hx hb dX12_table_50 rfl (lv_at hl 0 rfl) ?_
              refine m_get hX hw cl12 hT30 9 (by decide) k_883 (fun _ h => h) (v := .int _) rfl dX12_table_51 ?_
              refine lv_imul hx hb dX12_table_54 ?_
              refine lv_iload_n hx hb dX12_table_55 rfl (lv_at hl 2 rfl) ?_
              refine lv_iadd hx hb dX12_table_56 ?_
              refine lv_aload_n hx hb dX12_table_57 rfl (lv_at hl 0 rfl) ?_
              obtain ⟨b32, hb32, h⟩ := h
              refine m_get hX hw cl12 hT30 8 (by decide) k_882 (fun _ h => h) (v := .ref b32) (congrArg va_rf hb32) dX12_table_58 ?_
              refine lv_bipush (v := 25) hx hb dX12_table_61 (by decide) ?_
              refine lv_iload_n hx hb dX12_table_63 rfl (lv_at hl 1 rfl) ?_
              refine lv_imul hx hb dX12_table_64 ?_
              refine lv_iload_n hx hb dX12_table_65 rfl (lv_at hl 2 rfl) ?_
              refine lv_iadd hx hb dX12_table_66 ?_
              obtain ⟨hT33, h⟩ := h
              obtain ⟨hc34, h⟩ := h
              refine m_bald hX hw hT33 hc34 dX12_table_67 ?_
              obtain ⟨hT35, h⟩ := h
              obtain ⟨hc36, h⟩ := h
              refine m_bast hX hw hT35 hc36 dX12_table_68 (fun H locs hw => ?_)
              let σ37 : Me := sI σ10 b31 ((((25 : Int32)) * (gI σ10 a0 9)) + x2_11).toNatClampNeg (vp_nar .byte (gI σ10 b32 ((((25 : Int32)) * x1) + x2_11).toNatClampNeg))
              have h := h σ37 rfl
              have hw : wS D cA z0 s σ37 H locs := hw
              obtain ⟨x2_38, e_x2_38⟩ : ∃ y : Int32, y = x2_11 + 1 := ⟨_, rfl⟩
              have h := h x2_38 e_x2_38
              refine lv_iinc (v := x2_38) (lv' := [(2, _), (0, _), (1, _)]) hx hb dX12_table_69 hl (k := 2) rfl (by rw [e_x2_38]; rfl) (by decide) rfl (fun ls hl => ?_)
              refine lv_goto (tgt := 38) hx hb dX12_table_72 (by decide) ?_
              obtain ⟨m38, hm38, h⟩ := h
              exact ih38 m38 hm38 _ _ _ _ _ h hw (lv_sub hl [1, 2, 0] rfl)
        exact key38 _ _ _ _ _ _ h hw (lv_sub hl [1, 2, 0] rfl)
      · have h := h.2 hc9
        refine lv_aload_n hx hb dX12_table_30 rfl (lv_at hl 0 rfl) ?_
        refine lv_iconst (v := 1) hx hb dX12_table_31 (by decide) ?_
        refine m_ci (m_runV (rest := []) hX hw (tX12_meets h) mtX12_meets k_1076 ⟨k_1078, k_24⟩ cl12 hT4 ⟨⟨rfl, rfl, Nat.le_of_ble_eq_true rfl, Nat.le_of_ble_eq_true rfl⟩, Nat.le_of_ble_eq_true rfl, Nat.le_of_ble_eq_true rfl⟩ rfl hl.1 rfl (Nat.le_of_ble_eq_true rfl) dX12_table_32) hw (fun r39 σ40 H locs h hw => ?_)
        exact m_iret hX hlk hr hw h dX12_table_35
    · have h := h.1 hc5
      refine lv_bipush (v := (-2)) hx hb dX12_table_18 (by decide) ?_
      exact m_iret hX hlk hr hw h dX12_table_20
  · have h := h.1 hc3
    refine lv_iconst (v := (-1)) hx hb dX12_table_7 (by decide) ?_
    exact m_iret hX hlk hr hw h dX12_table_8
theorem mtX12_table : Mth yX12_table cX12_table 3 (some .int) 1 := ⟨k_1112, k_50, by decide +kernel⟩
theorem tX12_table {l : Launch} {D : va_G} {cA : Nat → ClassId} {z0 : Nat} {σ : Me} {a0 : Nat} {x1 : Int32} {Q : Int32 → Me → Prop} (h : pX12_table σ a0 x1 Q) : Met l yX12_table (Cond.code yX12_table cX12_table 3 (some .int) :: gTab) rX12_table (PcM D cA z0 σ [.ref a0, .int x1]) (va_Qi Q (BM D cA z0) (AM z0)) 0 0 (AM z0) :=
  met_of (by decide) (Nat.le_of_ble_eq_true rfl) (fun hX hlk hr hn hw hl => wX12_table hX hlk hr h hw hl)
abbrev rX12_rule : Room := { frames := 1, cells := 0, slots := 0, locals := 25 }
def pX12_rule (σ : Me) (a0 : Nat) (x1 : Int32) (x2 : Int32) (x3 : Int32) (Q : Int32 → Me → Prop) : Prop := ∃ J73 : Me → Int32 → Prop, (∀ (σ73 : Me) (v_74 : Int32), J73 σ73 v_74 → (v_74 = 0 → Q ((-1 : Int32)) σ73) ∧ (¬ v_74 = 0 → gT σ73 a0 = 12 ∧ ((gI σ73 a0 9) = ((12 : Int32)) → Q ((-2 : Int32)) σ73) ∧ (¬ (gI σ73 a0 9) = ((12 : Int32)) → (x1 = ((1 : Int32)) → pX12_add σ73 a0 ((1 : Int32)) ((-9 : Int32)) x2 ((-9 : Int32)) ((-9 : Int32)) (fun r84 σ85 => Q r84 σ85)) ∧ (¬ x1 = ((1 : Int32)) → (x1 = ((2 : Int32)) → pX12_add σ73 a0 ((2 : Int32)) x2 x3 ((-9 : Int32)) ((-9 : Int32)) (fun r82 σ83 => Q r82 σ83)) ∧ (¬ x1 = ((2 : Int32)) → pX12_add σ73 a0 ((3 : Int32)) x2 ((-9 : Int32)) x3 ((-9 : Int32)) (fun r80 σ81 => Q r80 σ81)))))) ∧ ((x1 = ((1 : Int32)) → pX12_in σ x2 ((0 : Int32)) ((12 : Int32)) (fun r36 σ37 => (r36 = 0 → (x1 = ((2 : Int32)) → pX12_in σ37 x3 ((0 : Int32)) ((12 : Int32)) (fun r49 σ50 => (r49 = 0 → (x1 = ((3 : Int32)) → pX12_in σ50 x2 ((-12 : Int32)) ((12 : Int32)) (fun r53 σ54 => (r53 = 0 → J73 σ54 ((0 : Int32))) ∧ (¬ r53 = 0 → pX12_in σ54 x3 ((1 : Int32)) ((12 : Int32)) (fun r56 σ57 => ∀ v_58 : Int32, v_58 = (if r56 = 0 then ((0 : Int32)) else ((1 : Int32))) → J73 σ57 v_58)))) ∧ (¬ x1 = ((3 : Int32)) → J73 σ50 ((0 : Int32)))) ∧ (¬ r49 = 0 → pX12_in σ50 x2 ((-12 : Int32)) (x3 - ((1 : Int32))) (fun r61 σ62 => (r61 = 0 → (x1 = ((3 : Int32)) → pX12_in σ62 x2 ((-12 : Int32)) ((12 : Int32)) (fun r65 σ66 => (r65 = 0 → J73 σ66 ((0 : Int32))) ∧ (¬ r65 = 0 → pX12_in σ66 x3 ((1 : Int32)) ((12 : Int32)) (fun r68 σ69 => ∀ v_70 : Int32, v_70 = (if r68 = 0 then ((0 : Int32)) else ((1 : Int32))) → J73 σ69 v_70)))) ∧ (¬ x1 = ((3 : Int32)) → J73 σ62 ((0 : Int32)))) ∧ (¬ r61 = 0 → J73 σ62 ((1 : Int32))))))) ∧ (¬ x1 = ((2 : Int32)) → (x1 = ((3 : Int32)) → pX12_in σ37 x2 ((-12 : Int32)) ((12 : Int32)) (fun r41 σ42 => (r41 = 0 → J73 σ42 ((0 : Int32))) ∧ (¬ r41 = 0 → pX12_in σ42 x3 ((1 : Int32)) ((12 : Int32)) (fun r44 σ45 => ∀ v_46 : Int32, v_46 = (if r44 = 0 then ((0 : Int32)) else ((1 : Int32))) → J73 σ45 v_46)))) ∧ (¬ x1 = ((3 : Int32)) → J73 σ37 ((0 : Int32))))) ∧ (¬ r36 = 0 → J73 σ37 ((1 : Int32))))) ∧ (¬ x1 = ((1 : Int32)) → (x1 = ((2 : Int32)) → pX12_in σ x3 ((0 : Int32)) ((12 : Int32)) (fun r12 σ13 => (r12 = 0 → (x1 = ((3 : Int32)) → pX12_in σ13 x2 ((-12 : Int32)) ((12 : Int32)) (fun r16 σ17 => (r16 = 0 → J73 σ17 ((0 : Int32))) ∧ (¬ r16 = 0 → pX12_in σ17 x3 ((1 : Int32)) ((12 : Int32)) (fun r19 σ20 => ∀ v_21 : Int32, v_21 = (if r19 = 0 then ((0 : Int32)) else ((1 : Int32))) → J73 σ20 v_21)))) ∧ (¬ x1 = ((3 : Int32)) → J73 σ13 ((0 : Int32)))) ∧ (¬ r12 = 0 → pX12_in σ13 x2 ((-12 : Int32)) (x3 - ((1 : Int32))) (fun r24 σ25 => (r24 = 0 → (x1 = ((3 : Int32)) → pX12_in σ25 x2 ((-12 : Int32)) ((12 : Int32)) (fun r28 σ29 => (r28 = 0 → J73 σ29 ((0 : Int32))) ∧ (¬ r28 = 0 → pX12_in σ29 x3 ((1 : Int32)) ((12 : Int32)) (fun r31 σ32 => ∀ v_33 : Int32, v_33 = (if r31 = 0 then ((0 : Int32)) else ((1 : Int32))) → J73 σ32 v_33)))) ∧ (¬ x1 = ((3 : Int32)) → J73 σ25 ((0 : Int32)))) ∧ (¬ r24 = 0 → J73 σ25 ((1 : Int32))))))) ∧ (¬ x1 = ((2 : Int32)) → (x1 = ((3 : Int32)) → pX12_in σ x2 ((-12 : Int32)) ((12 : Int32)) (fun r4 σ5 => (r4 = 0 → J73 σ5 ((0 : Int32))) ∧ (¬ r4 = 0 → pX12_in σ5 x3 ((1 : Int32)) ((12 : Int32)) (fun r7 σ8 => ∀ v_9 : Int32, v_9 = (if r7 = 0 then ((0 : Int32)) else ((1 : Int32))) → J73 σ8 v_9)))) ∧ (¬ x1 = ((3 : Int32)) → J73 σ ((0 : Int32))))))
set_option maxHeartbeats 4000000 in
set_option maxRecDepth 100000 in
theorem wX12_rule {p : Program} {l : Launch} {e : Env} {s : State} {m : MethodId} {args : Array Value} {below : List Frame} {meth : Method} {c : Code} {D : va_G} {cA : Nat → ClassId} {z0 : Nat} (hX : Cx p m c cX12_rule 5 s args RX12 D cA) (hlk : meth.locks = false) (hr : meth.sig.returnType = (some .int)) {σ : Me} {a0 : Nat} {x1 : Int32} {x2 : Int32} {x3 : Int32} {Q : Int32 → Me → Prop} (h : pX12_rule σ a0 x1 x2 x3 Q) {H : Heap} {locs : List Loc} {ls : Array Slot} (hw : wS D cA z0 s σ H locs) (hl : lv_has ls 5 [(0, .ref a0), (1, .int x1), (2, .int x2), (3, .int x3)]) : W p l e rX12_rule s m args below meth c H locs 0 0 (MQ below (va_Qi Q (BM D cA z0) (AM z0)) args s 0 0 (AM z0)) (F0 m 0 ls []) := by
  have hx := hX.1.1
  have hb := hX.1.2.1
  have hown := hX.1.2.2.2.1
  have hts := hX.1.2.2.2.2
  unfold pX12_rule at h
  refine lv_iload_n hx hb dX12_rule_0 rfl (lv_at hl 1 rfl) ?_
  refine lv_iconst (v := 1) hx hb dX12_rule_1 (by decide) ?_
  obtain ⟨J73, hJ73, h⟩ := h
  have kJ73 : ∀ (σ73 : Me) (v_74 : Int32) (H : Heap) (locs : List Loc) (ls : Array Slot), J73 σ73 v_74 → wS D cA z0 s σ73 H locs → lv_has ls 5 [(0, .ref a0), (1, .int x1), (2, .int x2), (3, .int x3)] → W p l e rX12_rule s m args below meth c H locs 0 0 (MQ below (va_Qi Q (BM D cA z0) (AM z0)) args s 0 0 (AM z0)) (F0 m 73 ls [.int v_74]) := by
    intro σ73 v_74 H locs ls h hw hl
    have h := hJ73 _ _ h
    refine lv_istore (lv' := [(4, _), (0, _), (1, _), (2, _), (3, _)]) hx hb dX12_rule_73 hl (by decide) rfl (fun ls hl => ?_)
    refine lv_iload hx hb dX12_rule_75 (lv_at hl 0 rfl) ?_
    refine lv_if_ne (tgt := 82) hx hb dX12_rule_77 (by decide) (fun hc75 => ?_) (fun hc75 => ?_)
    · have h := h.2 hc75
      refine lv_aload_n hx hb dX12_rule_82 rfl (lv_at hl 1 rfl) ?_
      obtain ⟨hT76, h⟩ := h
      refine m_get hX hw cl12 hT76 9 (by decide) k_883 (fun _ h => h) (v := .int _) rfl dX12_rule_83 ?_
      refine lv_bipush (v := 12) hx hb dX12_rule_86 (by decide) ?_
      refine lv_icmp_ne (tgt := 94) hx hb dX12_rule_88 (by decide) (fun hc77 => ?_) (fun hc77 => ?_)
      · have h := h.2 hc77
        refine lv_iload_n hx hb dX12_rule_94 rfl (lv_at hl 2 rfl) ?_
        refine lv_iconst (v := 1) hx hb dX12_rule_95 (by decide) ?_
        refine lv_icmp_ne (tgt := 114) hx hb dX12_rule_96 (by decide) (fun hc78 => ?_) (fun hc78 => ?_)
        · have h := h.2 hc78
          refine lv_iload_n hx hb dX12_rule_114 rfl (lv_at hl 2 rfl) ?_
          refine lv_iconst (v := 2) hx hb dX12_rule_115 (by decide) ?_
          refine lv_icmp_ne (tgt := 133) hx hb dX12_rule_116 (by decide) (fun hc79 => ?_) (fun hc79 => ?_)
          · have h := h.2 hc79
            refine lv_aload_n hx hb dX12_rule_133 rfl (lv_at hl 1 rfl) ?_
            refine lv_iconst (v := 3) hx hb dX12_rule_134 (by decide) ?_
            refine lv_iload_n hx hb dX12_rule_135 rfl (lv_at hl 3 rfl) ?_
            refine lv_bipush (v := (-9)) hx hb dX12_rule_136 (by decide) ?_
            refine lv_iload_n hx hb dX12_rule_138 rfl (lv_at hl 4 rfl) ?_
            refine lv_bipush (v := (-9)) hx hb dX12_rule_139 (by decide) ?_
            refine m_ci (m_runV (rest := []) hX hw (tX12_add h) mtX12_add k_1113 ⟨k_1115, k_26⟩ cl12 hT76 ⟨⟨rfl, rfl, Nat.le_of_ble_eq_true rfl, Nat.le_of_ble_eq_true rfl⟩, Nat.le_of_ble_eq_true rfl, Nat.le_of_ble_eq_true rfl⟩ rfl hl.1 rfl (Nat.le_of_ble_eq_true rfl) dX12_rule_141) hw (fun r80 σ81 H locs h hw => ?_)
            exact m_iret hX hlk hr hw h dX12_rule_144
          · have h := h.1 hc79
            refine lv_aload_n hx hb dX12_rule_119 rfl (lv_at hl 1 rfl) ?_
            refine lv_iconst (v := 2) hx hb dX12_rule_120 (by decide) ?_
            refine lv_iload_n hx hb dX12_rule_121 rfl (lv_at hl 3 rfl) ?_
            refine lv_iload_n hx hb dX12_rule_122 rfl (lv_at hl 4 rfl) ?_
            refine lv_bipush (v := (-9)) hx hb dX12_rule_123 (by decide) ?_
            refine lv_bipush (v := (-9)) hx hb dX12_rule_125 (by decide) ?_
            refine m_ci (m_runV (rest := []) hX hw (tX12_add h) mtX12_add k_1113 ⟨k_1115, k_26⟩ cl12 hT76 ⟨⟨rfl, rfl, Nat.le_of_ble_eq_true rfl, Nat.le_of_ble_eq_true rfl⟩, Nat.le_of_ble_eq_true rfl, Nat.le_of_ble_eq_true rfl⟩ rfl hl.1 rfl (Nat.le_of_ble_eq_true rfl) dX12_rule_127) hw (fun r82 σ83 H locs h hw => ?_)
            refine lv_goto (tgt := 144) hx hb dX12_rule_130 (by decide) ?_
            exact m_iret hX hlk hr hw h dX12_rule_144
        · have h := h.1 hc78
          refine lv_aload_n hx hb dX12_rule_99 rfl (lv_at hl 1 rfl) ?_
          refine lv_iconst (v := 1) hx hb dX12_rule_100 (by decide) ?_
          refine lv_bipush (v := (-9)) hx hb dX12_rule_101 (by decide) ?_
          refine lv_iload_n hx hb dX12_rule_103 rfl (lv_at hl 3 rfl) ?_
          refine lv_bipush (v := (-9)) hx hb dX12_rule_104 (by decide) ?_
          refine lv_bipush (v := (-9)) hx hb dX12_rule_106 (by decide) ?_
          refine m_ci (m_runV (rest := []) hX hw (tX12_add h) mtX12_add k_1113 ⟨k_1115, k_26⟩ cl12 hT76 ⟨⟨rfl, rfl, Nat.le_of_ble_eq_true rfl, Nat.le_of_ble_eq_true rfl⟩, Nat.le_of_ble_eq_true rfl, Nat.le_of_ble_eq_true rfl⟩ rfl hl.1 rfl (Nat.le_of_ble_eq_true rfl) dX12_rule_108) hw (fun r84 σ85 H locs h hw => ?_)
          refine lv_goto (tgt := 144) hx hb dX12_rule_111 (by decide) ?_
          exact m_iret hX hlk hr hw h dX12_rule_144
      · have h := h.1 hc77
        refine lv_bipush (v := (-2)) hx hb dX12_rule_91 (by decide) ?_
        exact m_iret hX hlk hr hw h dX12_rule_93
    · have h := h.1 hc75
      refine lv_iconst (v := (-1)) hx hb dX12_rule_80 (by decide) ?_
      exact m_iret hX hlk hr hw h dX12_rule_81
  refine lv_icmp_ne (tgt := 15) hx hb dX12_rule_2 (by decide) (fun hc1 => ?_) (fun hc1 => ?_)
  · have h := h.2 hc1
    refine lv_iload_n hx hb dX12_rule_15 rfl (lv_at hl 1 rfl) ?_
    refine lv_iconst (v := 2) hx hb dX12_rule_16 (by decide) ?_
    refine lv_icmp_ne (tgt := 42) hx hb dX12_rule_17 (by decide) (fun hc2 => ?_) (fun hc2 => ?_)
    · have h := h.2 hc2
      refine lv_iload_n hx hb dX12_rule_42 rfl (lv_at hl 1 rfl) ?_
      refine lv_iconst (v := 3) hx hb dX12_rule_43 (by decide) ?_
      refine lv_icmp_ne (tgt := 72) hx hb dX12_rule_44 (by decide) (fun hc3 => ?_) (fun hc3 => ?_)
      · have h := h.2 hc3
        refine lv_iconst (v := 0) hx hb dX12_rule_72 (by decide) ?_
        exact kJ73 _ _ _ _ _ h hw (lv_sub hl [0, 1, 2, 3] rfl)
      · have h := h.1 hc3
        refine lv_iload_n hx hb dX12_rule_47 rfl (lv_at hl 2 rfl) ?_
        refine lv_bipush (v := (-12)) hx hb dX12_rule_48 (by decide) ?_
        refine lv_bipush (v := 12) hx hb dX12_rule_50 (by decide) ?_
        refine m_ci (m_runS (rest := []) hX hw (tX12_in h) mtX12_in k_1054 k_1055 ⟨⟨rfl, rfl, Nat.le_of_ble_eq_true rfl, Nat.le_of_ble_eq_true rfl⟩, Nat.le_of_ble_eq_true rfl, Nat.le_of_ble_eq_true rfl⟩ rfl hl.1 rfl (Nat.le_of_ble_eq_true rfl) dX12_rule_52) hw (fun r4 σ5 H locs h hw => ?_)
        refine lv_if_eq (tgt := 72) hx hb dX12_rule_55 (by decide) (fun hc6 => ?_) (fun hc6 => ?_)
        · have h := h.1 hc6
          refine lv_iconst (v := 0) hx hb dX12_rule_72 (by decide) ?_
          exact kJ73 _ _ _ _ _ h hw (lv_sub hl [0, 1, 2, 3] rfl)
        · have h := h.2 hc6
          refine lv_iload_n hx hb dX12_rule_58 rfl (lv_at hl 3 rfl) ?_
          refine lv_iconst (v := 1) hx hb dX12_rule_59 (by decide) ?_
          refine lv_bipush (v := 12) hx hb dX12_rule_60 (by decide) ?_
          refine m_ci (m_runS (rest := []) hX hw (tX12_in h) mtX12_in k_1054 k_1055 ⟨⟨rfl, rfl, Nat.le_of_ble_eq_true rfl, Nat.le_of_ble_eq_true rfl⟩, Nat.le_of_ble_eq_true rfl, Nat.le_of_ble_eq_true rfl⟩ rfl hl.1 rfl (Nat.le_of_ble_eq_true rfl) dX12_rule_62) hw (fun r7 σ8 H locs h hw => ?_)
          have kM10 : ∀ (v_9 : Int32) (ls : Array Slot), v_9 = (if r7 = 0 then ((0 : Int32)) else ((1 : Int32))) → lv_has ls 5 [(0, .ref a0), (1, .int x1), (2, .int x2), (3, .int x3)] → W p l e rX12_rule s m args below meth c H locs 0 0 (MQ below (va_Qi Q (BM D cA z0) (AM z0)) args s 0 0 (AM z0)) (F0 m 73 ls [.int v_9]) := by
            intro v_9 ls e_v_9 hl
            have h := h v_9 e_v_9
            exact kJ73 _ _ _ _ _ h hw (lv_sub hl [0, 1, 2, 3] rfl)
          refine lv_if_eq (tgt := 72) hx hb dX12_rule_65 (by decide) (fun hc11 => ?_) (fun hc11 => ?_)
          · refine lv_iconst (v := 0) hx hb dX12_rule_72 (by decide) ?_
            exact kM10 _ _ (by first | rfl | rw [if_pos hc11] | simp only [if_pos hc11]) (lv_sub hl [0, 1, 2, 3] rfl)
          · refine lv_iconst (v := 1) hx hb dX12_rule_68 (by decide) ?_
            refine lv_goto (tgt := 73) hx hb dX12_rule_69 (by decide) ?_
            exact kM10 _ _ (by first | rfl | rw [if_neg hc11] | simp only [if_neg hc11]) (lv_sub hl [0, 1, 2, 3] rfl)
    · have h := h.1 hc2
      refine lv_iload_n hx hb dX12_rule_20 rfl (lv_at hl 3 rfl) ?_
      refine lv_iconst (v := 0) hx hb dX12_rule_21 (by decide) ?_
      refine lv_bipush (v := 12) hx hb dX12_rule_22 (by decide) ?_
      refine m_ci (m_runS (rest := []) hX hw (tX12_in h) mtX12_in k_1054 k_1055 ⟨⟨rfl, rfl, Nat.le_of_ble_eq_true rfl, Nat.le_of_ble_eq_true rfl⟩, Nat.le_of_ble_eq_true rfl, Nat.le_of_ble_eq_true rfl⟩ rfl hl.1 rfl (Nat.le_of_ble_eq_true rfl) dX12_rule_24) hw (fun r12 σ13 H locs h hw => ?_)
      refine lv_if_eq (tgt := 42) hx hb dX12_rule_27 (by decide) (fun hc14 => ?_) (fun hc14 => ?_)
      · have h := h.1 hc14
        refine lv_iload_n hx hb dX12_rule_42 rfl (lv_at hl 1 rfl) ?_
        refine lv_iconst (v := 3) hx hb dX12_rule_43 (by decide) ?_
        refine lv_icmp_ne (tgt := 72) hx hb dX12_rule_44 (by decide) (fun hc15 => ?_) (fun hc15 => ?_)
        · have h := h.2 hc15
          refine lv_iconst (v := 0) hx hb dX12_rule_72 (by decide) ?_
          exact kJ73 _ _ _ _ _ h hw (lv_sub hl [0, 1, 2, 3] rfl)
        · have h := h.1 hc15
          refine lv_iload_n hx hb dX12_rule_47 rfl (lv_at hl 2 rfl) ?_
          refine lv_bipush (v := (-12)) hx hb dX12_rule_48 (by decide) ?_
          refine lv_bipush (v := 12) hx hb dX12_rule_50 (by decide) ?_
          refine m_ci (m_runS (rest := []) hX hw (tX12_in h) mtX12_in k_1054 k_1055 ⟨⟨rfl, rfl, Nat.le_of_ble_eq_true rfl, Nat.le_of_ble_eq_true rfl⟩, Nat.le_of_ble_eq_true rfl, Nat.le_of_ble_eq_true rfl⟩ rfl hl.1 rfl (Nat.le_of_ble_eq_true rfl) dX12_rule_52) hw (fun r16 σ17 H locs h hw => ?_)
          refine lv_if_eq (tgt := 72) hx hb dX12_rule_55 (by decide) (fun hc18 => ?_) (fun hc18 => ?_)
          · have h := h.1 hc18
            refine lv_iconst (v := 0) hx hb dX12_rule_72 (by decide) ?_
            exact kJ73 _ _ _ _ _ h hw (lv_sub hl [0, 1, 2, 3] rfl)
          · have h := h.2 hc18
            refine lv_iload_n hx hb dX12_rule_58 rfl (lv_at hl 3 rfl) ?_
            refine lv_iconst (v := 1) hx hb dX12_rule_59 (by decide) ?_
            refine lv_bipush (v := 12) hx hb dX12_rule_60 (by decide) ?_
            refine m_ci (m_runS (rest := []) hX hw (tX12_in h) mtX12_in k_1054 k_1055 ⟨⟨rfl, rfl, Nat.le_of_ble_eq_true rfl, Nat.le_of_ble_eq_true rfl⟩, Nat.le_of_ble_eq_true rfl, Nat.le_of_ble_eq_true rfl⟩ rfl hl.1 rfl (Nat.le_of_ble_eq_true rfl) dX12_rule_62) hw (fun r19 σ20 H locs h hw => ?_)
            have kM22 : ∀ (v_21 : Int32) (ls : Array Slot), v_21 = (if r19 = 0 then ((0 : Int32)) else ((1 : Int32))) → lv_has ls 5 [(0, .ref a0), (1, .int x1), (2, .int x2), (3, .int x3)] → W p l e rX12_rule s m args below meth c H locs 0 0 (MQ below (va_Qi Q (BM D cA z0) (AM z0)) args s 0 0 (AM z0)) (F0 m 73 ls [.int v_21]) := by
              intro v_21 ls e_v_21 hl
              have h := h v_21 e_v_21
              exact kJ73 _ _ _ _ _ h hw (lv_sub hl [0, 1, 2, 3] rfl)
            refine lv_if_eq (tgt := 72) hx hb dX12_rule_65 (by decide) (fun hc23 => ?_) (fun hc23 => ?_)
            · refine lv_iconst (v := 0) hx hb dX12_rule_72 (by decide) ?_
              exact kM22 _ _ (by first | rfl | rw [if_pos hc23] | simp only [if_pos hc23]) (lv_sub hl [0, 1, 2, 3] rfl)
            · refine lv_iconst (v := 1) hx hb dX12_rule_68 (by decide) ?_
              refine lv_goto (tgt := 73) hx hb dX12_rule_69 (by decide) ?_
              exact kM22 _ _ (by first | rfl | rw [if_neg hc23] | simp only [if_neg hc23]) (lv_sub hl [0, 1, 2, 3] rfl)
      · have h := h.2 hc14
        refine lv_iload_n hx hb dX12_rule_30 rfl (lv_at hl 2 rfl) ?_
        refine lv_bipush (v := (-12)) hx hb dX12_rule_31 (by decide) ?_
        refine lv_iload_n hx hb dX12_rule_33 rfl (lv_at hl 3 rfl) ?_
        refine lv_iconst (v := 1) hx hb dX12_rule_34 (by decide) ?_
        refine lv_isub hx hb dX12_rule_35 ?_
        refine m_ci (m_runS (rest := []) hX hw (tX12_in h) mtX12_in k_1054 k_1055 ⟨⟨rfl, rfl, Nat.le_of_ble_eq_true rfl, Nat.le_of_ble_eq_true rfl⟩, Nat.le_of_ble_eq_true rfl, Nat.le_of_ble_eq_true rfl⟩ rfl hl.1 rfl (Nat.le_of_ble_eq_true rfl) dX12_rule_36) hw (fun r24 σ25 H locs h hw => ?_)
        refine lv_if_ne (tgt := 68) hx hb dX12_rule_39 (by decide) (fun hc26 => ?_) (fun hc26 => ?_)
        · have h := h.2 hc26
          refine lv_iconst (v := 1) hx hb dX12_rule_68 (by decide) ?_
          refine lv_goto (tgt := 73) hx hb dX12_rule_69 (by decide) ?_
          exact kJ73 _ _ _ _ _ h hw (lv_sub hl [0, 1, 2, 3] rfl)
        · have h := h.1 hc26
          refine lv_iload_n hx hb dX12_rule_42 rfl (lv_at hl 1 rfl) ?_
          refine lv_iconst (v := 3) hx hb dX12_rule_43 (by decide) ?_
          refine lv_icmp_ne (tgt := 72) hx hb dX12_rule_44 (by decide) (fun hc27 => ?_) (fun hc27 => ?_)
          · have h := h.2 hc27
            refine lv_iconst (v := 0) hx hb dX12_rule_72 (by decide) ?_
            exact kJ73 _ _ _ _ _ h hw (lv_sub hl [0, 1, 2, 3] rfl)
          · have h := h.1 hc27
            refine lv_iload_n hx hb dX12_rule_47 rfl (lv_at hl 2 rfl) ?_
            refine lv_bipush (v := (-12)) hx hb dX12_rule_48 (by decide) ?_
            refine lv_bipush (v := 12) hx hb dX12_rule_50 (by decide) ?_
            refine m_ci (m_runS (rest := []) hX hw (tX12_in h) mtX12_in k_1054 k_1055 ⟨⟨rfl, rfl, Nat.le_of_ble_eq_true rfl, Nat.le_of_ble_eq_true rfl⟩, Nat.le_of_ble_eq_true rfl, Nat.le_of_ble_eq_true rfl⟩ rfl hl.1 rfl (Nat.le_of_ble_eq_true rfl) dX12_rule_52) hw (fun r28 σ29 H locs h hw => ?_)
            refine lv_if_eq (tgt := 72) hx hb dX12_rule_55 (by decide) (fun hc30 => ?_) (fun hc30 => ?_)
            · have h := h.1 hc30
              refine lv_iconst (v := 0) hx hb dX12_rule_72 (by decide) ?_
              exact kJ73 _ _ _ _ _ h hw (lv_sub hl [0, 1, 2, 3] rfl)
            · have h := h.2 hc30
              refine lv_iload_n hx hb dX12_rule_58 rfl (lv_at hl 3 rfl) ?_
              refine lv_iconst (v := 1) hx hb dX12_rule_59 (by decide) ?_
              refine lv_bipush (v := 12) hx hb dX12_rule_60 (by decide) ?_
              refine m_ci (m_runS (rest := []) hX hw (tX12_in h) mtX12_in k_1054 k_1055 ⟨⟨rfl, rfl, Nat.le_of_ble_eq_true rfl, Nat.le_of_ble_eq_true rfl⟩, Nat.le_of_ble_eq_true rfl, Nat.le_of_ble_eq_true rfl⟩ rfl hl.1 rfl (Nat.le_of_ble_eq_true rfl) dX12_rule_62) hw (fun r31 σ32 H locs h hw => ?_)
              have kM34 : ∀ (v_33 : Int32) (ls : Array Slot), v_33 = (if r31 = 0 then ((0 : Int32)) else ((1 : Int32))) → lv_has ls 5 [(0, .ref a0), (1, .int x1), (2, .int x2), (3, .int x3)] → W p l e rX12_rule s m args below meth c H locs 0 0 (MQ below (va_Qi Q (BM D cA z0) (AM z0)) args s 0 0 (AM z0)) (F0 m 73 ls [.int v_33]) := by
                intro v_33 ls e_v_33 hl
                have h := h v_33 e_v_33
                exact kJ73 _ _ _ _ _ h hw (lv_sub hl [0, 1, 2, 3] rfl)
              refine lv_if_eq (tgt := 72) hx hb dX12_rule_65 (by decide) (fun hc35 => ?_) (fun hc35 => ?_)
              · refine lv_iconst (v := 0) hx hb dX12_rule_72 (by decide) ?_
                exact kM34 _ _ (by first | rfl | rw [if_pos hc35] | simp only [if_pos hc35]) (lv_sub hl [0, 1, 2, 3] rfl)
              · refine lv_iconst (v := 1) hx hb dX12_rule_68 (by decide) ?_
                refine lv_goto (tgt := 73) hx hb dX12_rule_69 (by decide) ?_
                exact kM34 _ _ (by first | rfl | rw [if_neg hc35] | simp only [if_neg hc35]) (lv_sub hl [0, 1, 2, 3] rfl)
  · have h := h.1 hc1
    refine lv_iload_n hx hb dX12_rule_5 rfl (lv_at hl 2 rfl) ?_
    refine lv_iconst (v := 0) hx hb dX12_rule_6 (by decide) ?_
    refine lv_bipush (v := 12) hx hb dX12_rule_7 (by decide) ?_
    refine m_ci (m_runS (rest := []) hX hw (tX12_in h) mtX12_in k_1054 k_1055 ⟨⟨rfl, rfl, Nat.le_of_ble_eq_true rfl, Nat.le_of_ble_eq_true rfl⟩, Nat.le_of_ble_eq_true rfl, Nat.le_of_ble_eq_true rfl⟩ rfl hl.1 rfl (Nat.le_of_ble_eq_true rfl) dX12_rule_9) hw (fun r36 σ37 H locs h hw => ?_)
    refine lv_if_ne (tgt := 68) hx hb dX12_rule_12 (by decide) (fun hc38 => ?_) (fun hc38 => ?_)
    · have h := h.2 hc38
      refine lv_iconst (v := 1) hx hb dX12_rule_68 (by decide) ?_
      refine lv_goto (tgt := 73) hx hb dX12_rule_69 (by decide) ?_
      exact kJ73 _ _ _ _ _ h hw (lv_sub hl [0, 1, 2, 3] rfl)
    · have h := h.1 hc38
      refine lv_iload_n hx hb dX12_rule_15 rfl (lv_at hl 1 rfl) ?_
      refine lv_iconst (v := 2) hx hb dX12_rule_16 (by decide) ?_
      refine lv_icmp_ne (tgt := 42) hx hb dX12_rule_17 (by decide) (fun hc39 => ?_) (fun hc39 => ?_)
      · have h := h.2 hc39
        refine lv_iload_n hx hb dX12_rule_42 rfl (lv_at hl 1 rfl) ?_
        refine lv_iconst (v := 3) hx hb dX12_rule_43 (by decide) ?_
        refine lv_icmp_ne (tgt := 72) hx hb dX12_rule_44 (by decide) (fun hc40 => ?_) (fun hc40 => ?_)
        · have h := h.2 hc40
          refine lv_iconst (v := 0) hx hb dX12_rule_72 (by decide) ?_
          exact kJ73 _ _ _ _ _ h hw (lv_sub hl [0, 1, 2, 3] rfl)
        · have h := h.1 hc40
          refine lv_iload_n hx hb dX12_rule_47 rfl (lv_at hl 2 rfl) ?_
          refine lv_bipush (v := (-12)) hx hb dX12_rule_48 (by decide) ?_
          refine lv_bipush (v := 12) hx hb dX12_rule_50 (by decide) ?_
          refine m_ci (m_runS (rest := []) hX hw (tX12_in h) mtX12_in k_1054 k_1055 ⟨⟨rfl, rfl, Nat.le_of_ble_eq_true rfl, Nat.le_of_ble_eq_true rfl⟩, Nat.le_of_ble_eq_true rfl, Nat.le_of_ble_eq_true rfl⟩ rfl hl.1 rfl (Nat.le_of_ble_eq_true rfl) dX12_rule_52) hw (fun r41 σ42 H locs h hw => ?_)
          refine lv_if_eq (tgt := 72) hx hb dX12_rule_55 (by decide) (fun hc43 => ?_) (fun hc43 => ?_)
          · have h := h.1 hc43
            refine lv_iconst (v := 0) hx hb dX12_rule_72 (by decide) ?_
            exact kJ73 _ _ _ _ _ h hw (lv_sub hl [0, 1, 2, 3] rfl)
          · have h := h.2 hc43
            refine lv_iload_n hx hb dX12_rule_58 rfl (lv_at hl 3 rfl) ?_
            refine lv_iconst (v := 1) hx hb dX12_rule_59 (by decide) ?_
            refine lv_bipush (v := 12) hx hb dX12_rule_60 (by decide) ?_
            refine m_ci (m_runS (rest := []) hX hw (tX12_in h) mtX12_in k_1054 k_1055 ⟨⟨rfl, rfl, Nat.le_of_ble_eq_true rfl, Nat.le_of_ble_eq_true rfl⟩, Nat.le_of_ble_eq_true rfl, Nat.le_of_ble_eq_true rfl⟩ rfl hl.1 rfl (Nat.le_of_ble_eq_true rfl) dX12_rule_62) hw (fun r44 σ45 H locs h hw => ?_)
            have kM47 : ∀ (v_46 : Int32) (ls : Array Slot), v_46 = (if r44 = 0 then ((0 : Int32)) else ((1 : Int32))) → lv_has ls 5 [(0, .ref a0), (1, .int x1), (2, .int x2), (3, .int x3)] → W p l e rX12_rule s m args below meth c H locs 0 0 (MQ below (va_Qi Q (BM D cA z0) (AM z0)) args s 0 0 (AM z0)) (F0 m 73 ls [.int v_46]) := by
              intro v_46 ls e_v_46 hl
              have h := h v_46 e_v_46
              exact kJ73 _ _ _ _ _ h hw (lv_sub hl [0, 1, 2, 3] rfl)
            refine lv_if_eq (tgt := 72) hx hb dX12_rule_65 (by decide) (fun hc48 => ?_) (fun hc48 => ?_)
            · refine lv_iconst (v := 0) hx hb dX12_rule_72 (by decide) ?_
              exact kM47 _ _ (by first | rfl | rw [if_pos hc48] | simp only [if_pos hc48]) (lv_sub hl [0, 1, 2, 3] rfl)
            · refine lv_iconst (v := 1) hx hb dX12_rule_68 (by decide) ?_
              refine lv_goto (tgt := 73) hx hb dX12_rule_69 (by decide) ?_
              exact kM47 _ _ (by first | rfl | rw [if_neg hc48] | simp only [if_neg hc48]) (lv_sub hl [0, 1, 2, 3] rfl)
      · have h := h.1 hc39
        refine lv_iload_n hx hb dX12_rule_20 rfl (lv_at hl 3 rfl) ?_
        refine lv_iconst (v := 0) hx hb dX12_rule_21 (by decide) ?_
        refine lv_bipush (v := 12) hx hb dX12_rule_22 (by decide) ?_
        refine m_ci (m_runS (rest := []) hX hw (tX12_in h) mtX12_in k_1054 k_1055 ⟨⟨rfl, rfl, Nat.le_of_ble_eq_true rfl, Nat.le_of_ble_eq_true rfl⟩, Nat.le_of_ble_eq_true rfl, Nat.le_of_ble_eq_true rfl⟩ rfl hl.1 rfl (Nat.le_of_ble_eq_true rfl) dX12_rule_24) hw (fun r49 σ50 H locs h hw => ?_)
        refine lv_if_eq (tgt := 42) hx hb dX12_rule_27 (by decide) (fun hc51 => ?_) (fun hc51 => ?_)
        · have h := h.1 hc51
          refine lv_iload_n hx hb dX12_rule_42 rfl (lv_at hl 1 rfl) ?_
          refine lv_iconst (v := 3) hx hb dX12_rule_43 (by decide) ?_
          refine lv_icmp_ne (tgt := 72) hx hb dX12_rule_44 (by decide) (fun hc52 => ?_) (fun hc52 => ?_)
          · have h := h.2 hc52
            refine lv_iconst (v := 0) hx hb dX12_rule_72 (by decide) ?_
            exact kJ73 _ _ _ _ _ h hw (lv_sub hl [0, 1, 2, 3] rfl)
          · have h := h.1 hc52
            refine lv_iload_n hx hb dX12_rule_47 rfl (lv_at hl 2 rfl) ?_
            refine lv_bipush (v := (-12)) hx hb dX12_rule_48 (by decide) ?_
            refine lv_bipush (v := 12) hx hb dX12_rule_50 (by decide) ?_
            refine m_ci (m_runS (rest := []) hX hw (tX12_in h) mtX12_in k_1054 k_1055 ⟨⟨rfl, rfl, Nat.le_of_ble_eq_true rfl, Nat.le_of_ble_eq_true rfl⟩, Nat.le_of_ble_eq_true rfl, Nat.le_of_ble_eq_true rfl⟩ rfl hl.1 rfl (Nat.le_of_ble_eq_true rfl) dX12_rule_52) hw (fun r53 σ54 H locs h hw => ?_)
            refine lv_if_eq (tgt := 72) hx hb dX12_rule_55 (by decide) (fun hc55 => ?_) (fun hc55 => ?_)
            · have h := h.1 hc55
              refine lv_iconst (v := 0) hx hb dX12_rule_72 (by decide) ?_
              exact kJ73 _ _ _ _ _ h hw (lv_sub hl [0, 1, 2, 3] rfl)
            · have h := h.2 hc55
              refine lv_iload_n hx hb dX12_rule_58 rfl (lv_at hl 3 rfl) ?_
              refine lv_iconst (v := 1) hx hb dX12_rule_59 (by decide) ?_
              refine lv_bipush (v := 12) hx hb dX12_rule_60 (by decide) ?_
              refine m_ci (m_runS (rest := []) hX hw (tX12_in h) mtX12_in k_1054 k_1055 ⟨⟨rfl, rfl, Nat.le_of_ble_eq_true rfl, Nat.le_of_ble_eq_true rfl⟩, Nat.le_of_ble_eq_true rfl, Nat.le_of_ble_eq_true rfl⟩ rfl hl.1 rfl (Nat.le_of_ble_eq_true rfl) dX12_rule_62) hw (fun r56 σ57 H locs h hw => ?_)
              have kM59 : ∀ (v_58 : Int32) (ls : Array Slot), v_58 = (if r56 = 0 then ((0 : Int32)) else ((1 : Int32))) → lv_has ls 5 [(0, .ref a0), (1, .int x1), (2, .int x2), (3, .int x3)] → W p l e rX12_rule s m args below meth c H locs 0 0 (MQ below (va_Qi Q (BM D cA z0) (AM z0)) args s 0 0 (AM z0)) (F0 m 73 ls [.int v_58]) := by
                intro v_58 ls e_v_58 hl
                have h := h v_58 e_v_58
                exact kJ73 _ _ _ _ _ h hw (lv_sub hl [0, 1, 2, 3] rfl)
              refine lv_if_eq (tgt := 72) hx hb dX12_rule_65 (by decide) (fun hc60 => ?_) (fun hc60 => ?_)
              · refine lv_iconst (v := 0) hx hb dX12_rule_72 (by decide) ?_
                exact kM59 _ _ (by first | rfl | rw [if_pos hc60] | simp only [if_pos hc60]) (lv_sub hl [0, 1, 2, 3] rfl)
              · refine lv_iconst (v := 1) hx hb dX12_rule_68 (by decide) ?_
                refine lv_goto (tgt := 73) hx hb dX12_rule_69 (by decide) ?_
                exact kM59 _ _ (by first | rfl | rw [if_neg hc60] | simp only [if_neg hc60]) (lv_sub hl [0, 1, 2, 3] rfl)
        · have h := h.2 hc51
          refine lv_iload_n hx hb dX12_rule_30 rfl (lv_at hl 2 rfl) ?_
          refine lv_bipush (v := (-12)) hx hb dX12_rule_31 (by decide) ?_
          refine lv_iload_n hx hb dX12_rule_33 rfl (lv_at hl 3 rfl) ?_
          refine lv_iconst (v := 1) hx hb dX12_rule_34 (by decide) ?_
          refine lv_isub hx hb dX12_rule_35 ?_
          refine m_ci (m_runS (rest := []) hX hw (tX12_in h) mtX12_in k_1054 k_1055 ⟨⟨rfl, rfl, Nat.le_of_ble_eq_true rfl, Nat.le_of_ble_eq_true rfl⟩, Nat.le_of_ble_eq_true rfl, Nat.le_of_ble_eq_true rfl⟩ rfl hl.1 rfl (Nat.le_of_ble_eq_true rfl) dX12_rule_36) hw (fun r61 σ62 H locs h hw => ?_)
          refine lv_if_ne (tgt := 68) hx hb dX12_rule_39 (by decide) (fun hc63 => ?_) (fun hc63 => ?_)
          · have h := h.2 hc63
            refine lv_iconst (v := 1) hx hb dX12_rule_68 (by decide) ?_
            refine lv_goto (tgt := 73) hx hb dX12_rule_69 (by decide) ?_
            exact kJ73 _ _ _ _ _ h hw (lv_sub hl [0, 1, 2, 3] rfl)
          · have h := h.1 hc63
            refine lv_iload_n hx hb dX12_rule_42 rfl (lv_at hl 1 rfl) ?_
            refine lv_iconst (v := 3) hx hb dX12_rule_43 (by decide) ?_
            refine lv_icmp_ne (tgt := 72) hx hb dX12_rule_44 (by decide) (fun hc64 => ?_) (fun hc64 => ?_)
            · have h := h.2 hc64
              refine lv_iconst (v := 0) hx hb dX12_rule_72 (by decide) ?_
              exact kJ73 _ _ _ _ _ h hw (lv_sub hl [0, 1, 2, 3] rfl)
            · have h := h.1 hc64
              refine lv_iload_n hx hb dX12_rule_47 rfl (lv_at hl 2 rfl) ?_
              refine lv_bipush (v := (-12)) hx hb dX12_rule_48 (by decide) ?_
              refine lv_bipush (v := 12) hx hb dX12_rule_50 (by decide) ?_
              refine m_ci (m_runS (rest := []) hX hw (tX12_in h) mtX12_in k_1054 k_1055 ⟨⟨rfl, rfl, Nat.le_of_ble_eq_true rfl, Nat.le_of_ble_eq_true rfl⟩, Nat.le_of_ble_eq_true rfl, Nat.le_of_ble_eq_true rfl⟩ rfl hl.1 rfl (Nat.le_of_ble_eq_true rfl) dX12_rule_52) hw (fun r65 σ66 H locs h hw => ?_)
              refine lv_if_eq (tgt := 72) hx hb dX12_rule_55 (by decide) (fun hc67 => ?_) (fun hc67 => ?_)
              · have h := h.1 hc67
                refine lv_iconst (v := 0) hx hb dX12_rule_72 (by decide) ?_
                exact kJ73 _ _ _ _ _ h hw (lv_sub hl [0, 1, 2, 3] rfl)
              · have h := h.2 hc67
                refine lv_iload_n hx hb dX12_rule_58 rfl (lv_at hl 3 rfl) ?_
                refine lv_iconst (v := 1) hx hb dX12_rule_59 (by decide) ?_
                refine lv_bipush (v := 12) hx hb dX12_rule_60 (by decide) ?_
                refine m_ci (m_runS (rest := []) hX hw (tX12_in h) mtX12_in k_1054 k_1055 ⟨⟨rfl, rfl, Nat.le_of_ble_eq_true rfl, Nat.le_of_ble_eq_true rfl⟩, Nat.le_of_ble_eq_true rfl, Nat.le_of_ble_eq_true rfl⟩ rfl hl.1 rfl (Nat.le_of_ble_eq_true rfl) dX12_rule_62) hw (fun r68 σ69 H locs h hw => ?_)
                have kM71 : ∀ (v_70 : Int32) (ls : Array Slot), v_70 = (if r68 = 0 then ((0 : Int32)) else ((1 : Int32))) → lv_has ls 5 [(0, .ref a0), (1, .int x1), (2, .int x2), (3, .int x3)] → W p l e rX12_rule s m args below meth c H locs 0 0 (MQ below (va_Qi Q (BM D cA z0) (AM z0)) args s 0 0 (AM z0)) (F0 m 73 ls [.int v_70]) := by
                  intro v_70 ls e_v_70 hl
                  have h := h v_70 e_v_70
                  exact kJ73 _ _ _ _ _ h hw (lv_sub hl [0, 1, 2, 3] rfl)
                refine lv_if_eq (tgt := 72) hx hb dX12_rule_65 (by decide) (fun hc72 => ?_) (fun hc72 => ?_)
                · refine lv_iconst (v := 0) hx hb dX12_rule_72 (by decide) ?_
                  exact kM71 _ _ (by first | rfl | rw [if_pos hc72] | simp only [if_pos hc72]) (lv_sub hl [0, 1, 2, 3] rfl)
                · refine lv_iconst (v := 1) hx hb dX12_rule_68 (by decide) ?_
                  refine lv_goto (tgt := 73) hx hb dX12_rule_69 (by decide) ?_
                  exact kM71 _ _ (by first | rfl | rw [if_neg hc72] | simp only [if_neg hc72]) (lv_sub hl [0, 1, 2, 3] rfl)
theorem mtX12_rule : Mth yX12_rule cX12_rule 5 (some .int) 3 := ⟨k_1120, k_50, by decide +kernel⟩
theorem tX12_rule {l : Launch} {D : va_G} {cA : Nat → ClassId} {z0 : Nat} {σ : Me} {a0 : Nat} {x1 : Int32} {x2 : Int32} {x3 : Int32} {Q : Int32 → Me → Prop} (h : pX12_rule σ a0 x1 x2 x3 Q) : Met l yX12_rule (Cond.code yX12_rule cX12_rule 5 (some .int) :: gTab) rX12_rule (PcM D cA z0 σ [.ref a0, .int x1, .int x2, .int x3]) (va_Qi Q (BM D cA z0) (AM z0)) 0 0 (AM z0) :=
  met_of (by decide) (Nat.le_of_ble_eq_true rfl) (fun hX hlk hr hn hw hl => wX12_rule hX hlk hr h hw hl)
