abbrev rX12_see : Room := { frames := 1, cells := 0, slots := 0, locals := 22 }
def pX12_see (σ : Me) (a0 : Nat) (x1 : Int32) (Q : Int32 → Me → Prop) : Prop := pX12_in σ x1 ((0 : Int32)) ((6 : Int32)) (fun r1 σ2 => (r1 = 0 → Q ((-1 : Int32)) σ2) ∧ (¬ r1 = 0 → gT σ2 a0 = 12 ∧ ((gI σ2 a0 55) = ((6 : Int32)) → Q ((-2 : Int32)) σ2) ∧ (¬ (gI σ2 a0 55) = ((6 : Int32)) → ∃ b6 : Nat, gP σ2 a0 56 = some b6 ∧ gT σ2 b6 = 20 ∧ vp_in (gI σ2 a0 55) (gN σ2 b6) ∧ ∀ σ9 : Me, σ9 = sI σ2 b6 (gI σ2 a0 55).toNatClampNeg x1 → ∀ σ10 : Me, σ10 = sI σ9 a0 55 ((gI σ9 a0 55) + ((1 : Int32))) → Q (gI σ10 a0 55) σ10)))
set_option maxHeartbeats 4000000 in
set_option maxRecDepth 100000 in
theorem wX12_see {p : Program} {l : Launch} {e : Env} {s : State} {m : MethodId} {args : Array Value} {below : List Frame} {meth : Method} {c : Code} {D : va_G} {cA : Nat → ClassId} {z0 : Nat} (hX : Cx p m c cX12_see 2 s args RX12 D cA) (hlk : meth.locks = false) (hr : meth.sig.returnType = (some .int)) {σ : Me} {a0 : Nat} {x1 : Int32} {Q : Int32 → Me → Prop} (h : pX12_see σ a0 x1 Q) {H : Heap} {locs : List Loc} {ls : Array Slot} (hw : wS D cA z0 s σ H locs) (hl : lv_has ls 2 [(0, .ref a0), (1, .int x1)]) : W p l e rX12_see s m args below meth c H locs 0 0 (MQ below (va_Qi Q (BM D cA z0) (AM z0)) args s 0 0 (AM z0)) (F0 m 0 ls []) := by
  have hx := hX.1.1
  have hb := hX.1.2.1
  have hown := hX.1.2.2.2.1
  have hts := hX.1.2.2.2.2
  unfold pX12_see at h
  refine lv_iload_n hx hb dX12_see_0 rfl (lv_at hl 1 rfl) ?_
  refine lv_iconst (v := 0) hx hb dX12_see_1 (by decide) ?_
  refine lv_bipush (v := 6) hx hb dX12_see_2 (by decide) ?_
  refine m_ci (m_runS (rest := []) hX hw (tX12_in h) mtX12_in k_1054 k_1055 ⟨⟨rfl, rfl, Nat.le_of_ble_eq_true rfl, Nat.le_of_ble_eq_true rfl⟩, Nat.le_of_ble_eq_true rfl, Nat.le_of_ble_eq_true rfl⟩ rfl hl.1 rfl (Nat.le_of_ble_eq_true rfl) dX12_see_4) hw (fun r1 σ2 H locs h hw => ?_)
  refine lv_if_ne (tgt := 12) hx hb dX12_see_7 (by decide) (fun hc3 => ?_) (fun hc3 => ?_)
  · have h := h.2 hc3
    refine lv_aload_n hx hb dX12_see_12 rfl (lv_at hl 0 rfl) ?_
    obtain ⟨hT4, h⟩ := h
    refine m_get hX hw cl12 hT4 55 (by decide) k_929 (fun _ h => h) (v := .int _) rfl dX12_see_13 ?_
    refine lv_bipush (v := 6) hx hb dX12_see_16 (by decide) ?_
    refine lv_icmp_ne (tgt := 24) hx hb dX12_see_18 (by decide) (fun hc5 => ?_) (fun hc5 => ?_)
    · have h := h.2 hc5
      refine lv_aload_n hx hb dX12_see_24 rfl (lv_at hl 0 rfl) ?_
      obtain ⟨b6, hb6, h⟩ := h
      refine m_get hX hw cl12 hT4 56 (by decide) k_930 (fun _ h => h) (v := .ref b6) (congrArg va_rf hb6) dX12_see_25 ?_
      refine lv_aload_n hx hb dX12_see_28 rfl (lv_at hl 0 rfl) ?_
      refine m_get hX hw cl12 hT4 55 (by decide) k_929 (fun _ h => h) (v := .int _) rfl dX12_see_29 ?_
      refine lv_iload_n hx hb dX12_see_32 rfl (lv_at hl 1 rfl) ?_
      obtain ⟨hT7, h⟩ := h
      obtain ⟨hc8, h⟩ := h
      refine m_iast hX hw hT7 hc8 dX12_see_33 (fun H locs hw => ?_)
      let σ9 : Me := sI σ2 b6 (gI σ2 a0 55).toNatClampNeg x1
      have h := h σ9 rfl
      have hw : wS D cA z0 s σ9 H locs := hw
      refine lv_aload_n hx hb dX12_see_34 rfl (lv_at hl 0 rfl) ?_
      refine lv_dup hx hb dX12_see_35 rfl ?_
      refine m_get hX hw cl12 hT4 55 (by decide) k_929 (fun _ h => h) (v := .int _) rfl dX12_see_36 ?_
      refine lv_iconst (v := 1) hx hb dX12_see_39 (by decide) ?_
      refine lv_iadd hx hb dX12_see_40 ?_
      refine m_putI hX hw cl12 hT4 55 (by decide) k_929 (fun _ h => h) rfl rfl dX12_see_41 (fun H locs hw => ?_)
      let σ10 : Me := sI σ9 a0 55 ((gI σ9 a0 55) + ((1 : Int32)))
      have h := h σ10 rfl
      have hw : wS D cA z0 s σ10 H locs := hw
      refine lv_aload_n hx hb dX12_see_44 rfl (lv_at hl 0 rfl) ?_
      refine m_get hX hw cl12 hT4 55 (by decide) k_929 (fun _ h => h) (v := .int _) rfl dX12_see_45 ?_
      exact m_iret hX hlk hr hw h dX12_see_48
    · have h := h.1 hc5
      refine lv_bipush (v := (-2)) hx hb dX12_see_21 (by decide) ?_
      exact m_iret hX hlk hr hw h dX12_see_23
  · have h := h.1 hc3
    refine lv_iconst (v := (-1)) hx hb dX12_see_10 (by decide) ?_
    exact m_iret hX hlk hr hw h dX12_see_11
theorem mtX12_see : Mth yX12_see cX12_see 2 (some .int) 1 := ⟨k_1239, k_50, by decide +kernel⟩
theorem tX12_see {l : Launch} {D : va_G} {cA : Nat → ClassId} {z0 : Nat} {σ : Me} {a0 : Nat} {x1 : Int32} {Q : Int32 → Me → Prop} (h : pX12_see σ a0 x1 Q) : Met l yX12_see (Cond.code yX12_see cX12_see 2 (some .int) :: gTab) rX12_see (PcM D cA z0 σ [.ref a0, .int x1]) (va_Qi Q (BM D cA z0) (AM z0)) 0 0 (AM z0) :=
  met_of (by decide) (Nat.le_of_ble_eq_true rfl) (fun hX hlk hr hn hw hl => wX12_see hX hlk hr h hw hl)
abbrev rX12_forget : Room := { frames := 0, cells := 0, slots := 0, locals := 0 }
def pX12_forget (σ : Me) (a0 : Nat) (Q : Int32 → Me → Prop) : Prop := gT σ a0 = 12 ∧ ∀ x1_2 : Int32, x1_2 = (gI σ a0 55) → ∀ σ3 : Me, σ3 = sI σ a0 55 ((0 : Int32)) → Q x1_2 σ3
set_option maxHeartbeats 4000000 in
set_option maxRecDepth 100000 in
theorem wX12_forget {p : Program} {l : Launch} {e : Env} {s : State} {m : MethodId} {args : Array Value} {below : List Frame} {meth : Method} {c : Code} {D : va_G} {cA : Nat → ClassId} {z0 : Nat} (hX : Cx p m c cX12_forget 2 s args RX12 D cA) (hlk : meth.locks = false) (hr : meth.sig.returnType = (some .int)) {σ : Me} {a0 : Nat} {Q : Int32 → Me → Prop} (h : pX12_forget σ a0 Q) {H : Heap} {locs : List Loc} {ls : Array Slot} (hw : wS D cA z0 s σ H locs) (hl : lv_has ls 2 [(0, .ref a0)]) : W p l e rX12_forget s m args below meth c H locs 0 0 (MQ below (va_Qi Q (BM D cA z0) (AM z0)) args s 0 0 (AM z0)) (F0 m 0 ls []) := by
  have hx := hX.1.1
  have hb := hX.1.2.1
  have hown := hX.1.2.2.2.1
  have hts := hX.1.2.2.2.2
  unfold pX12_forget at h
  refine lv_aload_n hx hb dX12_forget_0 rfl (lv_at hl 0 rfl) ?_
  obtain ⟨hT1, h⟩ := h
  refine m_get hX hw cl12 hT1 55 (by decide) k_929 (fun _ h => h) (v := .int _) rfl dX12_forget_1 ?_
  refine lv_topi (fun x1_2 e_x1_2 => ?_)
  have h := h x1_2 e_x1_2
  refine lv_istore_n (lv' := [(1, _), (0, _)]) hx hb dX12_forget_4 rfl hl (by decide) rfl (fun ls hl => ?_)
  refine lv_aload_n hx hb dX12_forget_5 rfl (lv_at hl 1 rfl) ?_
  refine lv_iconst (v := 0) hx hb dX12_forget_6 (by decide) ?_
  refine m_putI hX hw cl12 hT1 55 (by decide) k_929 (fun _ h => h) rfl rfl dX12_forget_7 (fun H locs hw => ?_)
  let σ3 : Me := sI σ a0 55 ((0 : Int32))
  have h := h σ3 rfl
  have hw : wS D cA z0 s σ3 H locs := hw
  refine lv_iload_n hx hb dX12_forget_10 rfl (lv_at hl 0 rfl) ?_
  exact m_iret hX hlk hr hw h dX12_forget_11
theorem mtX12_forget : Mth yX12_forget cX12_forget 2 (some .int) 0 := ⟨k_1243, k_50, by decide +kernel⟩
theorem tX12_forget {l : Launch} {D : va_G} {cA : Nat → ClassId} {z0 : Nat} {σ : Me} {a0 : Nat} {Q : Int32 → Me → Prop} (h : pX12_forget σ a0 Q) : Met l yX12_forget (Cond.code yX12_forget cX12_forget 2 (some .int) :: gTab) rX12_forget (PcM D cA z0 σ [.ref a0]) (va_Qi Q (BM D cA z0) (AM z0)) 0 0 (AM z0) :=
  met_of (by decide) (Nat.le_of_ble_eq_true rfl) (fun hX hlk hr hn hw hl => wX12_forget hX hlk hr h hw hl)
abbrev rX12_doubt : Room := { frames := 2, cells := 0, slots := 0, locals := 56 }
def pX12_doubt (σ : Me) (a0 : Nat) (x1 : Int32) (x2 : Int32) (x3 : Int32) (x4 : Int32) (Q : Int32 → Me → Prop) : Prop := pX12_isPlace σ x1 (fun r1 σ2 => (r1 = 0 → Q ((-1 : Int32)) σ2) ∧ (¬ r1 = 0 → pX12_isPlace σ2 x2 (fun r4 σ5 => (r4 = 0 → Q ((-1 : Int32)) σ5) ∧ (¬ r4 = 0 → (x1 = x2 → Q ((-1 : Int32)) σ5) ∧ (¬ x1 = x2 → pX12_in σ5 x3 ((1 : Int32)) ((9 : Int32)) (fun r8 σ9 => (r8 = 0 → Q ((-1 : Int32)) σ9) ∧ (¬ r8 = 0 → pX12_in σ9 x4 ((1 : Int32)) ((9 : Int32)) (fun r11 σ12 => (r11 = 0 → Q ((-1 : Int32)) σ12) ∧ (¬ r11 = 0 → gT σ12 a0 = 12 ∧ ∃ b15 : Nat, gP σ12 a0 4 = some b15 ∧ gT σ12 b15 = 22 ∧ vp_in x1 (gN σ12 b15) ∧ ((gI σ12 b15 x1.toNatClampNeg) = 0 → pX12_meets σ12 a0 ((1 : Int32)) (fun r19 σ20 => Q r19 σ20)) ∧ (¬ (gI σ12 b15 x1.toNatClampNeg) = 0 → vp_in x2 (gN σ12 b15) ∧ ((gI σ12 b15 x2.toNatClampNeg) = 0 → pX12_meets σ12 a0 ((1 : Int32)) (fun r99 σ100 => Q r99 σ100)) ∧ (¬ (gI σ12 b15 x2.toNatClampNeg) = 0 → ∀ x5_23 : Int64, x5_23 = (x3.toInt64) → ∀ x7_24 : Int64, x7_24 = (x4.toInt64) → ∃ I78 : Nat → Me → Int64 → Int64 → Int32 → Prop, (∀ (n78 : Nat) (σ25 : Me) (x5_26 : Int64) (x7_27 : Int64) (x9_28 : Int32), I78 n78 σ25 x5_26 x7_27 x9_28 → gT σ25 a0 = 12 ∧ ((gI σ25 a0 55) ≤ x9_28 → pX12_allOf σ25 a0 x1 (fun r52 σ53 => (r52 = 0 → gT σ53 a0 = 12 ∧ pX12_meets σ53 a0 ((4 : Int32)) (fun r55 σ56 => Q r55 σ56)) ∧ (¬ r52 = 0 → gT σ53 a0 = 12 ∧ pX12_allOf σ53 a0 x2 (fun r58 σ59 => (r58 = 0 → gT σ59 a0 = 12 ∧ pX12_meets σ59 a0 ((4 : Int32)) (fun r62 σ63 => Q r62 σ63)) ∧ (¬ r58 = 0 → ((x5_26 + x7_27) = ((0 : Int64)) → gT σ59 a0 = 12 ∧ pX12_meets σ59 a0 ((4 : Int32)) (fun r76 σ77 => Q r76 σ77)) ∧ (¬ (x5_26 + x7_27) = ((0 : Int64)) → gT σ59 a0 = 12 ∧ pX12_tells σ59 a0 x5_26 (x5_26 + x7_27) ((1 : Int32)) (fun r73 σ74 => Q r73 σ74))))))) ∧ (¬ (gI σ25 a0 55) ≤ x9_28 → ∃ b79 : Nat, gP σ25 a0 5 = some b79 ∧ ∃ b80 : Nat, gP σ25 a0 56 = some b80 ∧ gT σ25 b80 = 20 ∧ vp_in x9_28 (gN σ25 b80) ∧ gT σ25 b79 = 20 ∧ vp_in ((((7 : Int32)) * x1) + (gI σ25 b80 x9_28.toNatClampNeg)) (gN σ25 b79) ∧ pX12_allOf σ25 a0 x2 (fun r85 σ86 => ∀ x5_87 : Int64, x5_87 = (x5_26 * (((gI σ25 b79 ((((7 : Int32)) * x1) + (gI σ25 b80 x9_28.toNatClampNeg)).toNatClampNeg).toInt64) * r85.toInt64)) → gT σ86 a0 = 12 ∧ ∃ b89 : Nat, gP σ86 a0 5 = some b89 ∧ ∃ b90 : Nat, gP σ86 a0 56 = some b90 ∧ gT σ86 b90 = 20 ∧ vp_in x9_28 (gN σ86 b90) ∧ gT σ86 b89 = 20 ∧ vp_in ((((7 : Int32)) * x2) + (gI σ86 b90 x9_28.toNatClampNeg)) (gN σ86 b89) ∧ pX12_allOf σ86 a0 x1 (fun r95 σ96 => ∀ x7_97 : Int64, x7_97 = (x7_27 * (((gI σ86 b89 ((((7 : Int32)) * x2) + (gI σ86 b90 x9_28.toNatClampNeg)).toNatClampNeg).toInt64) * r95.toInt64)) → ∀ x9_98 : Int32, x9_98 = x9_28 + 1 → ∃ m78 : Nat, m78 < n78 ∧ I78 m78 σ96 x5_87 x7_97 x9_98)))) ∧ ∃ n78 : Nat, I78 n78 σ12 x5_23 x7_24 ((0 : Int32)))))))))))))
set_option maxHeartbeats 4000000 in
set_option maxRecDepth 100000 in
theorem wX12_doubt {p : Program} {l : Launch} {e : Env} {s : State} {m : MethodId} {args : Array Value} {below : List Frame} {meth : Method} {c : Code} {D : va_G} {cA : Nat → ClassId} {z0 : Nat} (hX : Cx p m c cX12_doubt 10 s args RX12 D cA) (hlk : meth.locks = false) (hr : meth.sig.returnType = (some .int)) {σ : Me} {a0 : Nat} {x1 : Int32} {x2 : Int32} {x3 : Int32} {x4 : Int32} {Q : Int32 → Me → Prop} (h : pX12_doubt σ a0 x1 x2 x3 x4 Q) {H : Heap} {locs : List Loc} {ls : Array Slot} (hw : wS D cA z0 s σ H locs) (hl : lv_has ls 10 [(0, .ref a0), (1, .int x1), (2, .int x2), (3, .int x3), (4, .int x4)]) : W p l e rX12_doubt s m args below meth c H locs 0 0 (MQ below (va_Qi Q (BM D cA z0) (AM z0)) args s 0 0 (AM z0)) (F0 m 0 ls []) := by
  have hx := hX.1.1
  have hb := hX.1.2.1
  have hown := hX.1.2.2.2.1
  have hts := hX.1.2.2.2.2
  unfold pX12_doubt at h
  refine lv_iload_n hx hb dX12_doubt_0 rfl (lv_at hl 1 rfl) ?_
  refine m_ci (m_runS (rest := []) hX hw (tX12_isPlace h) mtX12_isPlace k_1069 k_1070 ⟨⟨rfl, rfl, Nat.le_of_ble_eq_true rfl, Nat.le_of_ble_eq_true rfl⟩, Nat.le_of_ble_eq_true rfl, Nat.le_of_ble_eq_true rfl⟩ rfl hl.1 rfl (Nat.le_of_ble_eq_true rfl) dX12_doubt_1) hw (fun r1 σ2 H locs h hw => ?_)
  refine lv_if_eq (tgt := 40) hx hb dX12_doubt_4 (by decide) (fun hc3 => ?_) (fun hc3 => ?_)
  · have h := h.1 hc3
    refine lv_iconst (v := (-1)) hx hb dX12_doubt_40 (by decide) ?_
    exact m_iret hX hlk hr hw h dX12_doubt_41
  · have h := h.2 hc3
    refine lv_iload_n hx hb dX12_doubt_7 rfl (lv_at hl 2 rfl) ?_
    refine m_ci (m_runS (rest := []) hX hw (tX12_isPlace h) mtX12_isPlace k_1069 k_1070 ⟨⟨rfl, rfl, Nat.le_of_ble_eq_true rfl, Nat.le_of_ble_eq_true rfl⟩, Nat.le_of_ble_eq_true rfl, Nat.le_of_ble_eq_true rfl⟩ rfl hl.1 rfl (Nat.le_of_ble_eq_true rfl) dX12_doubt_8) hw (fun r4 σ5 H locs h hw => ?_)
    refine lv_if_eq (tgt := 40) hx hb dX12_doubt_11 (by decide) (fun hc6 => ?_) (fun hc6 => ?_)
    · have h := h.1 hc6
      refine lv_iconst (v := (-1)) hx hb dX12_doubt_40 (by decide) ?_
      exact m_iret hX hlk hr hw h dX12_doubt_41
    · have h := h.2 hc6
      refine lv_iload_n hx hb dX12_doubt_14 rfl (lv_at hl 1 rfl) ?_
      refine lv_iload_n hx hb dX12_doubt_15 rfl (lv_at hl 2 rfl) ?_
      refine lv_icmp_eq (tgt := 40) hx hb dX12_doubt_16 (by decide) (fun hc7 => ?_) (fun hc7 => ?_)
      · have h := h.1 hc7
        refine lv_iconst (v := (-1)) hx hb dX12_doubt_40 (by decide) ?_
        exact m_iret hX hlk hr hw h dX12_doubt_41
      · have h := h.2 hc7
        refine lv_iload_n hx hb dX12_doubt_19 rfl (lv_at hl 3 rfl) ?_
        refine lv_iconst (v := 1) hx hb dX12_doubt_20 (by decide) ?_
        refine lv_bipush (v := 9) hx hb dX12_doubt_21 (by decide) ?_
        refine m_ci (m_runS (rest := []) hX hw (tX12_in h) mtX12_in k_1054 k_1055 ⟨⟨rfl, rfl, Nat.le_of_ble_eq_true rfl, Nat.le_of_ble_eq_true rfl⟩, Nat.le_of_ble_eq_true rfl, Nat.le_of_ble_eq_true rfl⟩ rfl hl.1 rfl (Nat.le_of_ble_eq_true rfl) dX12_doubt_23) hw (fun r8 σ9 H locs h hw => ?_)
        refine lv_if_eq (tgt := 40) hx hb dX12_doubt_26 (by decide) (fun hc10 => ?_) (fun hc10 => ?_)
        · have h := h.1 hc10
          refine lv_iconst (v := (-1)) hx hb dX12_doubt_40 (by decide) ?_
          exact m_iret hX hlk hr hw h dX12_doubt_41
        · have h := h.2 hc10
          refine lv_iload hx hb dX12_doubt_29 (lv_at hl 4 rfl) ?_
          refine lv_iconst (v := 1) hx hb dX12_doubt_31 (by decide) ?_
          refine lv_bipush (v := 9) hx hb dX12_doubt_32 (by decide) ?_
          refine m_ci (m_runS (rest := []) hX hw (tX12_in h) mtX12_in k_1054 k_1055 ⟨⟨rfl, rfl, Nat.le_of_ble_eq_true rfl, Nat.le_of_ble_eq_true rfl⟩, Nat.le_of_ble_eq_true rfl, Nat.le_of_ble_eq_true rfl⟩ rfl hl.1 rfl (Nat.le_of_ble_eq_true rfl) dX12_doubt_34) hw (fun r11 σ12 H locs h hw => ?_)
          refine lv_if_ne (tgt := 42) hx hb dX12_doubt_37 (by decide) (fun hc13 => ?_) (fun hc13 => ?_)
          · have h := h.2 hc13
            refine lv_aload_n hx hb dX12_doubt_42 rfl (lv_at hl 0 rfl) ?_
            obtain ⟨hT14, h⟩ := h
            obtain ⟨b15, hb15, h⟩ := h
            refine m_get hX hw cl12 hT14 4 (by decide) k_878 (fun _ h => h) (v := .ref b15) (congrArg va_rf hb15) dX12_doubt_43 ?_
            refine lv_iload_n hx hb dX12_doubt_46 rfl (lv_at hl 1 rfl) ?_
            obtain ⟨hT16, h⟩ := h
            obtain ⟨hc17, h⟩ := h
            refine m_zald hX hw hT16 hc17 dX12_doubt_47 ?_
            refine lv_if_eq (tgt := 60) hx hb dX12_doubt_48 (by decide) (fun hc18 => ?_) (fun hc18 => ?_)
            · have h := h.1 hc18
              refine lv_aload_n hx hb dX12_doubt_60 rfl (lv_at hl 0 rfl) ?_
              refine lv_iconst (v := 1) hx hb dX12_doubt_61 (by decide) ?_
              refine m_ci (m_runV (rest := []) hX hw (tX12_meets h) mtX12_meets k_1076 ⟨k_1078, k_24⟩ cl12 hT14 ⟨⟨rfl, rfl, Nat.le_of_ble_eq_true rfl, Nat.le_of_ble_eq_true rfl⟩, Nat.le_of_ble_eq_true rfl, Nat.le_of_ble_eq_true rfl⟩ rfl hl.1 rfl (Nat.le_of_ble_eq_true rfl) dX12_doubt_62) hw (fun r19 σ20 H locs h hw => ?_)
              exact m_iret hX hlk hr hw h dX12_doubt_65
            · have h := h.2 hc18
              refine lv_aload_n hx hb dX12_doubt_51 rfl (lv_at hl 0 rfl) ?_
              refine m_get hX hw cl12 hT14 4 (by decide) k_878 (fun _ h => h) (v := .ref b15) (congrArg va_rf hb15) dX12_doubt_52 ?_
              refine lv_iload_n hx hb dX12_doubt_55 rfl (lv_at hl 2 rfl) ?_
              obtain ⟨hc21, h⟩ := h
              refine m_zald hX hw hT16 hc21 dX12_doubt_56 ?_
              refine lv_if_ne (tgt := 66) hx hb dX12_doubt_57 (by decide) (fun hc22 => ?_) (fun hc22 => ?_)
              · have h := h.2 hc22
                refine lv_iload_n hx hb dX12_doubt_66 rfl (lv_at hl 3 rfl) ?_
                refine lv_i2l hx hb dX12_doubt_67 rfl ?_
                refine lv_topl (fun x5_23 e_x5_23 => ?_)
                have h := h x5_23 e_x5_23
                refine lv_lstore (lv' := [(5, _), (0, _), (1, _), (2, _), (3, _), (4, _)]) hx hb dX12_doubt_68 hl (by decide) rfl (fun ls hl => ?_)
                refine lv_iload hx hb dX12_doubt_70 (lv_at hl 5 rfl) ?_
                refine lv_i2l hx hb dX12_doubt_72 rfl ?_
                refine lv_topl (fun x7_24 e_x7_24 => ?_)
                have h := h x7_24 e_x7_24
                refine lv_lstore (lv' := [(7, _), (5, _), (0, _), (1, _), (2, _), (3, _), (4, _)]) hx hb dX12_doubt_73 hl (by decide) rfl (fun ls hl => ?_)
                refine lv_iconst (v := 0) hx hb dX12_doubt_75 (by decide) ?_
                refine lv_istore (lv' := [(9, _), (7, _), (5, _), (0, _), (1, _), (2, _), (3, _), (4, _)]) hx hb dX12_doubt_76 hl (by decide) rfl (fun ls hl => ?_)
                obtain ⟨I78, hI78, n78, h⟩ := h
                have key78 : ∀ (n78 : Nat) (σ25 : Me) (x5_26 : Int64) (x7_27 : Int64) (x9_28 : Int32) (H : Heap) (locs : List Loc) (ls : Array Slot), I78 n78 σ25 x5_26 x7_27 x9_28 → wS D cA z0 s σ25 H locs → lv_has ls 10 [(0, .ref a0), (1, .int x1), (2, .int x2), (5, .long x5_26), (7, .long x7_27), (9, .int x9_28)] → W p l e rX12_doubt s m args below meth c H locs 0 0 (MQ below (va_Qi Q (BM D cA z0) (AM z0)) args s 0 0 (AM z0)) (F0 m 78 ls []) := by
                  intro n78
                  induction n78 using Nat.strongRecOn with
                  | _ n78 ih78 =>
                    intro σ25 x5_26 x7_27 x9_28 H locs ls h hw hl
                    have h := hI78 _ _ _ _ _ h
                    refine lv_iload hx hb dX12_doubt_78 (lv_at hl 5 rfl) ?_
                    refine lv_aload_n hx hb dX12_doubt_80 rfl (lv_at hl 0 rfl) ?_
                    obtain ⟨hT29, h⟩ := h
                    refine m_get hX hw cl12 hT29 55 (by decide) k_929 (fun _ h => h) (v := .int _) rfl dX12_doubt_81 ?_
                    refine lv_icmp_ge (tgt := 153) hx hb dX12_doubt_84 (by decide) (fun hc51 => ?_) (fun hc51 => ?_)
                    · have h := h.1 hc51
                      refine lv_aload_n hx hb dX12_doubt_153 rfl (lv_at hl 0 rfl) ?_
                      refine lv_iload_n hx hb dX12_doubt_154 rfl (lv_at hl 1 rfl) ?_
                      refine m_ci (m_runV (rest := []) hX hw (tX12_allOf h) mtX12_allOf k_1093 ⟨k_1095, k_25⟩ cl12 hT29 ⟨⟨rfl, rfl, Nat.le_of_ble_eq_true rfl, Nat.le_of_ble_eq_true rfl⟩, Nat.le_of_ble_eq_true rfl, Nat.le_of_ble_eq_true rfl⟩ rfl hl.1 rfl (Nat.le_of_ble_eq_true rfl) dX12_doubt_155) hw (fun r52 σ53 H locs h hw => ?_)
                      refine lv_if_eq (tgt := 179) hx hb dX12_doubt_158 (by decide) (fun hc54 => ?_) (fun hc54 => ?_)
                      · have h := h.1 hc54
                        refine lv_aload_n hx hb dX12_doubt_179 rfl (lv_at hl 0 rfl) ?_
                        refine lv_iconst (v := 4) hx hb dX12_doubt_180 (by decide) ?_
                        obtain ⟨hT57, h⟩ := h
                        refine m_ci (m_runV (rest := []) hX hw (tX12_meets h) mtX12_meets k_1076 ⟨k_1078, k_24⟩ cl12 hT57 ⟨⟨rfl, rfl, Nat.le_of_ble_eq_true rfl, Nat.le_of_ble_eq_true rfl⟩, Nat.le_of_ble_eq_true rfl, Nat.le_of_ble_eq_true rfl⟩ rfl hl.1 rfl (Nat.le_of_ble_eq_true rfl) dX12_doubt_181) hw (fun r55 σ56 H locs h hw => ?_)
                        exact m_iret hX hlk hr hw h dX12_doubt_184
                      · have h := h.2 hc54
                        refine lv_aload_n hx hb dX12_doubt_161 rfl (lv_at hl 0 rfl) ?_
                        refine lv_iload_n hx hb dX12_doubt_162 rfl (lv_at hl 2 rfl) ?_
                        obtain ⟨hT60, h⟩ := h
                        refine m_ci (m_runV (rest := []) hX hw (tX12_allOf h) mtX12_allOf k_1093 ⟨k_1095, k_25⟩ cl12 hT60 ⟨⟨rfl, rfl, Nat.le_of_ble_eq_true rfl, Nat.le_of_ble_eq_true rfl⟩, Nat.le_of_ble_eq_true rfl, Nat.le_of_ble_eq_true rfl⟩ rfl hl.1 rfl (Nat.le_of_ble_eq_true rfl) dX12_doubt_163) hw (fun r58 σ59 H locs h hw => ?_)
                        refine lv_if_eq (tgt := 179) hx hb dX12_doubt_166 (by decide) (fun hc61 => ?_) (fun hc61 => ?_)
                        · have h := h.1 hc61
                          refine lv_aload_n hx hb dX12_doubt_179 rfl (lv_at hl 0 rfl) ?_
                          refine lv_iconst (v := 4) hx hb dX12_doubt_180 (by decide) ?_
                          obtain ⟨hT64, h⟩ := h
                          refine m_ci (m_runV (rest := []) hX hw (tX12_meets h) mtX12_meets k_1076 ⟨k_1078, k_24⟩ cl12 hT64 ⟨⟨rfl, rfl, Nat.le_of_ble_eq_true rfl, Nat.le_of_ble_eq_true rfl⟩, Nat.le_of_ble_eq_true rfl, Nat.le_of_ble_eq_true rfl⟩ rfl hl.1 rfl (Nat.le_of_ble_eq_true rfl) dX12_doubt_181) hw (fun r62 σ63 H locs h hw => ?_)
                          exact m_iret hX hlk hr hw h dX12_doubt_184
                        · have h := h.2 hc61
                          refine lv_lload hx hb dX12_doubt_169 (lv_at hl 3 rfl) ?_
                          refine lv_lload hx hb dX12_doubt_171 (lv_at hl 4 rfl) ?_
                          refine lv_ladd hx hb dX12_doubt_173 ?_
                          refine lv_lconst (v := 0) hx hb dX12_doubt_174 (by decide) ?_
                          refine m_lne (tgt := 185) hX dX12_doubt_175 dX12_doubt_176 (by decide) (fun hc72 => ?_) (fun hc72 => ?_)
                          · have h := h.2 hc72
                            refine lv_aload_n hx hb dX12_doubt_185 rfl (lv_at hl 0 rfl) ?_
                            refine lv_lload hx hb dX12_doubt_186 (lv_at hl 3 rfl) ?_
                            refine lv_lload hx hb dX12_doubt_188 (lv_at hl 3 rfl) ?_
                            refine lv_lload hx hb dX12_doubt_190 (lv_at hl 4 rfl) ?_
                            refine lv_ladd hx hb dX12_doubt_192 ?_
                            refine lv_iconst (v := 1) hx hb dX12_doubt_193 (by decide) ?_
                            obtain ⟨hT75, h⟩ := h
                            refine m_ci (m_runV (rest := []) hX hw (tX12_tells h) mtX12_tells k_1196 ⟨k_1198, k_38⟩ cl12 hT75 ⟨⟨rfl, rfl, Nat.le_of_ble_eq_true rfl, Nat.le_of_ble_eq_true rfl⟩, Nat.le_of_ble_eq_true rfl, Nat.le_of_ble_eq_true rfl⟩ rfl hl.1 rfl (Nat.le_of_ble_eq_true rfl) dX12_doubt_194) hw (fun r73 σ74 H locs h hw => ?_)
                            exact m_iret hX hlk hr hw h dX12_doubt_197
                          · have h := h.1 hc72
                            refine lv_aload_n hx hb dX12_doubt_179 rfl (lv_at hl 0 rfl) ?_
                            refine lv_iconst (v := 4) hx hb dX12_doubt_180 (by decide) ?_
                            obtain ⟨hT78, h⟩ := h
                            refine m_ci (m_runV (rest := []) hX hw (tX12_meets h) mtX12_meets k_1076 ⟨k_1078, k_24⟩ cl12 hT78 ⟨⟨rfl, rfl, Nat.le_of_ble_eq_true rfl, Nat.le_of_ble_eq_true rfl⟩, Nat.le_of_ble_eq_true rfl, Nat.le_of_ble_eq_true rfl⟩ rfl hl.1 rfl (Nat.le_of_ble_eq_true rfl) dX12_doubt_181) hw (fun r76 σ77 H locs h hw => ?_)
                            exact m_iret hX hlk hr hw h dX12_doubt_184
                    · have h := h.2 hc51
                      refine lv_lload hx hb dX12_doubt_87 (lv_at hl 3 rfl) ?_
                      refine lv_aload_n hx hb dX12_doubt_89 rfl (lv_at hl 0 rfl) ?_
                      obtain ⟨b79, hb79, h⟩ := h
                      refine m_get hX hw cl12 hT29 5 (by decide) k_879 (fun _ h => h) (v := .ref b79) (congrArg va_rf hb79) dX12_doubt_90 ?_
                      refine lv_bipush (v := 7) hx hb dX12_doubt_93 (by decide) ?_
                      refine lv_iload_n hx hb dX12_doubt_95 rfl (lv_at hl 1 rfl) ?_
                      refine lv_imul hx hb dX12_doubt_96 ?_
                      refine lv_aload_n hx hb dX12_doubt_97 rfl (lv_at hl 0 rfl) ?_
                      obtain ⟨b80, hb80, h⟩ := h
                      refine m_get hX hw cl12 hT29 56 (by decide) k_930 (fun _ h => h) (v := .ref b80) (congrArg va_rf hb80) dX12_doubt_98 ?_
                      refine lv_iload hx hb dX12_doubt_101 (lv_at hl 5 rfl) ?_
                      obtain ⟨hT81, h⟩ := h
                      obtain ⟨hc82, h⟩ := h
                      refine m_iald hX hw hT81 hc82 dX12_doubt_103 ?_
                      refine lv_iadd hx hb dX12_doubt_104 ?_
                      obtain ⟨hT83, h⟩ := h
                      obtain ⟨hc84, h⟩ := h
                      refine m_iald hX hw hT83 hc84 dX12_doubt_105 ?_
                      refine lv_i2l hx hb dX12_doubt_106 rfl ?_
                      refine lv_aload_n hx hb dX12_doubt_107 rfl (lv_at hl 0 rfl) ?_
                      refine lv_iload_n hx hb dX12_doubt_108 rfl (lv_at hl 2 rfl) ?_
                      refine m_ci (m_runV (rest := [_, _]) hX hw (tX12_allOf h) mtX12_allOf k_1093 ⟨k_1095, k_25⟩ cl12 hT29 ⟨⟨rfl, rfl, Nat.le_of_ble_eq_true rfl, Nat.le_of_ble_eq_true rfl⟩, Nat.le_of_ble_eq_true rfl, Nat.le_of_ble_eq_true rfl⟩ rfl hl.1 rfl (Nat.le_of_ble_eq_true rfl) dX12_doubt_109) hw (fun r85 σ86 H locs h hw => ?_)
                      refine lv_i2l hx hb dX12_doubt_112 rfl ?_
                      refine lv_lmul hx hb dX12_doubt_113 ?_
                      refine lv_lmul hx hb dX12_doubt_114 ?_
                      refine lv_topl (fun x5_87 e_x5_87 => ?_)
                      have h := h x5_87 e_x5_87
                      refine lv_lstore (lv' := [(5, _), (0, _), (1, _), (2, _), (7, _), (9, _)]) hx hb dX12_doubt_115 hl (by decide) rfl (fun ls hl => ?_)
                      refine lv_lload hx hb dX12_doubt_117 (lv_at hl 4 rfl) ?_
                      refine lv_aload_n hx hb dX12_doubt_119 rfl (lv_at hl 1 rfl) ?_
                      obtain ⟨hT88, h⟩ := h
                      obtain ⟨b89, hb89, h⟩ := h
                      refine m_get hX hw cl12 hT88 5 (by decide) k_879 (fun _ h => h) (v := .ref b89) (congrArg va_rf hb89) dX12_doubt_120 ?_
                      refine lv_bipush (v := 7) hx hb dX12_doubt_123 (by decide) ?_
                      refine lv_iload_n hx hb dX12_doubt_125 rfl (lv_at hl 3 rfl) ?_
                      refine lv_imul hx hb dX12_doubt_126 ?_
                      refine lv_aload_n hx hb dX12_doubt_127 rfl (lv_at hl 1 rfl) ?_
                      obtain ⟨b90, hb90, h⟩ := h
                      refine m_get hX hw cl12 hT88 56 (by decide) k_930 (fun _ h => h) (v := .ref b90) (congrArg va_rf hb90) dX12_doubt_128 ?_
                      refine lv_iload hx hb dX12_doubt_131 (lv_at hl 5 rfl) ?_
                      obtain ⟨hT91, h⟩ := h
                      obtain ⟨hc92, h⟩ := h
                      refine m_iald hX hw hT91 hc92 dX12_doubt_133 ?_
                      refine lv_iadd hx hb dX12_doubt_134 ?_
                      obtain ⟨hT93, h⟩ := h
                      obtain ⟨hc94, h⟩ := h
                      refine m_iald hX hw hT93 hc94 dX12_doubt_135 ?_
                      refine lv_i2l hx hb dX12_doubt_136 rfl ?_
                      refine lv_aload_n hx hb dX12_doubt_137 rfl (lv_at hl 1 rfl) ?_
                      refine lv_iload_n hx hb dX12_doubt_138 rfl (lv_at hl 2 rfl) ?_
                      refine m_ci (m_runV (rest := [_, _]) hX hw (tX12_allOf h) mtX12_allOf k_1093 ⟨k_1095, k_25⟩ cl12 hT88 ⟨⟨rfl, rfl, Nat.le_of_ble_eq_true rfl, Nat.le_of_ble_eq_true rfl⟩, Nat.le_of_ble_eq_true rfl, Nat.le_of_ble_eq_true rfl⟩ rfl hl.1 rfl (Nat.le_of_ble_eq_true rfl) dX12_doubt_139) hw (fun r95 σ96 H locs h hw => ?_)
                      refine lv_i2l hx hb dX12_doubt_142 rfl ?_
                      refine lv_lmul hx hb dX12_doubt_143 ?_
                      refine lv_lmul hx hb dX12_doubt_144 ?_
                      refine lv_topl (fun x7_97 e_x7_97 => ?_)
                      have h := h x7_97 e_x7_97
                      refine lv_lstore (lv' := [(7, _), (5, _), (0, _), (1, _), (2, _), (9, _)]) hx hb dX12_doubt_145 hl (by decide) rfl (fun ls hl => ?_)
                      obtain ⟨x9_98, e_x9_98⟩ : ∃ y : Int32, y = x9_28 + 1 := ⟨_, rfl⟩
                      have h := h x9_98 e_x9_98
                      refine lv_iinc (v := x9_98) (lv' := [(9, _), (7, _), (5, _), (0, _), (1, _), (2, _)]) hx hb dX12_doubt_147 hl (k := 5) rfl (by rw [e_x9_98]; rfl) (by decide) rfl (fun ls hl => ?_)
                      refine lv_goto (tgt := 78) hx hb dX12_doubt_150 (by decide) ?_
                      obtain ⟨m78, hm78, h⟩ := h
                      exact ih78 m78 hm78 _ _ _ _ _ _ _ h hw (lv_sub hl [3, 4, 5, 2, 1, 0] rfl)
                exact key78 _ _ _ _ _ _ _ _ h hw (lv_sub hl [3, 4, 5, 2, 1, 0] rfl)
              · have h := h.1 hc22
                refine lv_aload_n hx hb dX12_doubt_60 rfl (lv_at hl 0 rfl) ?_
                refine lv_iconst (v := 1) hx hb dX12_doubt_61 (by decide) ?_
                refine m_ci (m_runV (rest := []) hX hw (tX12_meets h) mtX12_meets k_1076 ⟨k_1078, k_24⟩ cl12 hT14 ⟨⟨rfl, rfl, Nat.le_of_ble_eq_true rfl, Nat.le_of_ble_eq_true rfl⟩, Nat.le_of_ble_eq_true rfl, Nat.le_of_ble_eq_true rfl⟩ rfl hl.1 rfl (Nat.le_of_ble_eq_true rfl) dX12_doubt_62) hw (fun r99 σ100 H locs h hw => ?_)
                exact m_iret hX hlk hr hw h dX12_doubt_65
          · have h := h.1 hc13
            refine lv_iconst (v := (-1)) hx hb dX12_doubt_40 (by decide) ?_
            exact m_iret hX hlk hr hw h dX12_doubt_41
theorem mtX12_doubt : Mth yX12_doubt cX12_doubt 10 (some .int) 4 := ⟨k_1247, k_50, by decide +kernel⟩
theorem tX12_doubt {l : Launch} {D : va_G} {cA : Nat → ClassId} {z0 : Nat} {σ : Me} {a0 : Nat} {x1 : Int32} {x2 : Int32} {x3 : Int32} {x4 : Int32} {Q : Int32 → Me → Prop} (h : pX12_doubt σ a0 x1 x2 x3 x4 Q) : Met l yX12_doubt (Cond.code yX12_doubt cX12_doubt 10 (some .int) :: gTab) rX12_doubt (PcM D cA z0 σ [.ref a0, .int x1, .int x2, .int x3, .int x4]) (va_Qi Q (BM D cA z0) (AM z0)) 0 0 (AM z0) :=
  met_of (by decide) (Nat.le_of_ble_eq_true rfl) (fun hX hlk hr hn hw hl => wX12_doubt hX hlk hr h hw hl)
abbrev rX12_count : Room := { frames := 0, cells := 0, slots := 0, locals := 0 }
def pX12_count (σ : Me) (a0 : Nat) (x1 : Int32) (Q : Int32 → Me → Prop) : Prop := ∃ I4 : Nat → Me → Int32 → Int32 → Prop, (∀ (n4 : Nat) (σ1 : Me) (x2_2 : Int32) (x3_3 : Int32), I4 n4 σ1 x2_2 x3_3 → gT σ1 a0 = 12 ∧ ((gI σ1 a0 9) ≤ x3_3 → (x1 = 0 → Q (gI σ1 a0 9) σ1) ∧ (x1 = 1 → Q x2_2 σ1) ∧ (x1 = 2 → Q (gI σ1 a0 55) σ1) ∧ (x1 = 3 → Q (gI σ1 a0 17) σ1) ∧ (x1 = 4 → Q (gI σ1 a0 18) σ1) ∧ (x1 = 5 → ∀ v_16 : Int32, v_16 = (if (gI σ1 a0 19) = 0 then ((0 : Int32)) else ((1 : Int32))) → Q v_16 σ1) ∧ (¬ x1 = 0 → ¬ x1 = 1 → ¬ x1 = 2 → ¬ x1 = 3 → ¬ x1 = 4 → ¬ x1 = 5 → Q ((-1 : Int32)) σ1)) ∧ (¬ (gI σ1 a0 9) ≤ x3_3 → ∃ b19 : Nat, gP σ1 a0 16 = some b19 ∧ gT σ1 b19 = 22 ∧ vp_in x3_3 (gN σ1 b19) ∧ ∀ v_22 : Int32, v_22 = (if (gI σ1 b19 x3_3.toNatClampNeg) = 0 then ((1 : Int32)) else ((0 : Int32))) → ∀ x2_24 : Int32, x2_24 = (x2_2 + v_22) → ∀ x3_25 : Int32, x3_25 = x3_3 + 1 → ∃ m4 : Nat, m4 < n4 ∧ I4 m4 σ1 x2_24 x3_25)) ∧ ∃ n4 : Nat, I4 n4 σ ((0 : Int32)) ((0 : Int32))
set_option maxHeartbeats 4000000 in
set_option maxRecDepth 100000 in
theorem wX12_count {p : Program} {l : Launch} {e : Env} {s : State} {m : MethodId} {args : Array Value} {below : List Frame} {meth : Method} {c : Code} {D : va_G} {cA : Nat → ClassId} {z0 : Nat} (hX : Cx p m c cX12_count 4 s args RX12 D cA) (hlk : meth.locks = false) (hr : meth.sig.returnType = (some .int)) {σ : Me} {a0 : Nat} {x1 : Int32} {Q : Int32 → Me → Prop} (h : pX12_count σ a0 x1 Q) {H : Heap} {locs : List Loc} {ls : Array Slot} (hw : wS D cA z0 s σ H locs) (hl : lv_has ls 4 [(0, .ref a0), (1, .int x1)]) : W p l e rX12_count s m args below meth c H locs 0 0 (MQ below (va_Qi Q (BM D cA z0) (AM z0)) args s 0 0 (AM z0)) (F0 m 0 ls []) := by
  have hx := hX.1.1
  have hb := hX.1.2.1
  have hown := hX.1.2.2.2.1
  have hts := hX.1.2.2.2.2
  unfold pX12_count at h
  refine lv_iconst (v := 0) hx hb dX12_count_0 (by decide) ?_
  refine lv_istore_n (lv' := [(2, _), (0, _), (1, _)]) hx hb dX12_count_1 rfl hl (by decide) rfl (fun ls hl => ?_)
  refine lv_iconst (v := 0) hx hb dX12_count_2 (by decide) ?_
  refine lv_istore_n (lv' := [(3, _), (2, _), (0, _), (1, _)]) hx hb dX12_count_3 rfl hl (by decide) rfl (fun ls hl => ?_)
  obtain ⟨I4, hI4, n4, h⟩ := h
  have key4 : ∀ (n4 : Nat) (σ1 : Me) (x2_2 : Int32) (x3_3 : Int32) (H : Heap) (locs : List Loc) (ls : Array Slot), I4 n4 σ1 x2_2 x3_3 → wS D cA z0 s σ1 H locs → lv_has ls 4 [(0, .ref a0), (1, .int x1), (2, .int x2_2), (3, .int x3_3)] → W p l e rX12_count s m args below meth c H locs 0 0 (MQ below (va_Qi Q (BM D cA z0) (AM z0)) args s 0 0 (AM z0)) (F0 m 4 ls []) := by
    intro n4
    induction n4 using Nat.strongRecOn with
    | _ n4 ih4 =>
      intro σ1 x2_2 x3_3 H locs ls h hw hl
      have h := hI4 _ _ _ _ h
      refine lv_iload_n hx hb dX12_count_4 rfl (lv_at hl 3 rfl) ?_
      refine lv_aload_n hx hb dX12_count_5 rfl (lv_at hl 0 rfl) ?_
      obtain ⟨hT4, h⟩ := h
      refine m_get hX hw cl12 hT4 9 (by decide) k_883 (fun _ h => h) (v := .int _) rfl dX12_count_6 ?_
      refine lv_icmp_ge (tgt := 35) hx hb dX12_count_9 (by decide) (fun hc14 => ?_) (fun hc14 => ?_)
      · have h := h.1 hc14
        refine lv_iload_n hx hb dX12_count_35 rfl (lv_at hl 1 rfl) ?_
        by_cases hs15_0 : x1 = 0
        · refine lv_tableIn (off := 40) (tgt := 76) hx hb dX12_count_36 (by rw [hs15_0]; decide) (by rw [hs15_0]; decide) (by rw [hs15_0]; rfl) (by decide) ?_
          have h := h.1 hs15_0
          refine lv_aload_n hx hb dX12_count_76 rfl (lv_at hl 0 rfl) ?_
          refine m_get hX hw cl12 hT4 9 (by decide) k_883 (fun _ h => h) (v := .int _) rfl dX12_count_77 ?_
          exact m_iret hX hlk hr hw h dX12_count_80
        by_cases hs15_1 : x1 = 1
        · refine lv_tableIn (off := 45) (tgt := 81) hx hb dX12_count_36 (by rw [hs15_1]; decide) (by rw [hs15_1]; decide) (by rw [hs15_1]; rfl) (by decide) ?_
          have h := h.2.1 hs15_1
          refine lv_iload_n hx hb dX12_count_81 rfl (lv_at hl 2 rfl) ?_
          exact m_iret hX hlk hr hw h dX12_count_82
        by_cases hs15_2 : x1 = 2
        · refine lv_tableIn (off := 47) (tgt := 83) hx hb dX12_count_36 (by rw [hs15_2]; decide) (by rw [hs15_2]; decide) (by rw [hs15_2]; rfl) (by decide) ?_
          have h := h.2.2.1 hs15_2
          refine lv_aload_n hx hb dX12_count_83 rfl (lv_at hl 0 rfl) ?_
          refine m_get hX hw cl12 hT4 55 (by decide) k_929 (fun _ h => h) (v := .int _) rfl dX12_count_84 ?_
          exact m_iret hX hlk hr hw h dX12_count_87
        by_cases hs15_3 : x1 = 3
        · refine lv_tableIn (off := 52) (tgt := 88) hx hb dX12_count_36 (by rw [hs15_3]; decide) (by rw [hs15_3]; decide) (by rw [hs15_3]; rfl) (by decide) ?_
          have h := h.2.2.2.1 hs15_3
          refine lv_aload_n hx hb dX12_count_88 rfl (lv_at hl 0 rfl) ?_
          refine m_get hX hw cl12 hT4 17 (by decide) k_891 (fun _ h => h) (v := .int _) rfl dX12_count_89 ?_
          exact m_iret hX hlk hr hw h dX12_count_92
        by_cases hs15_4 : x1 = 4
        · refine lv_tableIn (off := 57) (tgt := 93) hx hb dX12_count_36 (by rw [hs15_4]; decide) (by rw [hs15_4]; decide) (by rw [hs15_4]; rfl) (by decide) ?_
          have h := h.2.2.2.2.1 hs15_4
          refine lv_aload_n hx hb dX12_count_93 rfl (lv_at hl 0 rfl) ?_
          refine m_get hX hw cl12 hT4 18 (by decide) k_892 (fun _ h => h) (v := .int _) rfl dX12_count_94 ?_
          exact m_iret hX hlk hr hw h dX12_count_97
        by_cases hs15_5 : x1 = 5
        · refine lv_tableIn (off := 62) (tgt := 98) hx hb dX12_count_36 (by rw [hs15_5]; decide) (by rw [hs15_5]; decide) (by rw [hs15_5]; rfl) (by decide) ?_
          have h := h.2.2.2.2.2.1 hs15_5
          refine lv_aload_n hx hb dX12_count_98 rfl (lv_at hl 0 rfl) ?_
          refine m_get hX hw cl12 hT4 19 (by decide) k_893 (fun _ h => h) (v := .int _) rfl dX12_count_99 ?_
          have kM17 : ∀ (v_16 : Int32) (ls : Array Slot), v_16 = (if (gI σ1 a0 19) = 0 then ((0 : Int32)) else ((1 : Int32))) → lv_has ls 4 [] → W p l e rX12_count s m args below meth c H locs 0 0 (MQ below (va_Qi Q (BM D cA z0) (AM z0)) args s 0 0 (AM z0)) (F0 m 110 ls [.int v_16]) := by
            intro v_16 ls e_v_16 hl
            have h := h v_16 e_v_16
            exact m_iret hX hlk hr hw h dX12_count_110
          refine lv_if_eq (tgt := 109) hx hb dX12_count_102 (by decide) (fun hc18 => ?_) (fun hc18 => ?_)
          · refine lv_iconst (v := 0) hx hb dX12_count_109 (by decide) ?_
            exact kM17 _ _ (by first | rfl | rw [if_pos hc18] | simp only [if_pos hc18]) (lv_sub hl [] rfl)
          · refine lv_iconst (v := 1) hx hb dX12_count_105 (by decide) ?_
            refine lv_goto (tgt := 110) hx hb dX12_count_106 (by decide) ?_
            exact kM17 _ _ (by first | rfl | rw [if_neg hc18] | simp only [if_neg hc18]) (lv_sub hl [] rfl)
        refine lv_tableOut (tgt := 111) hx hb dX12_count_36 (by have q0 := lv_neT hs15_0 (show (0 : Int32).toInt = 0 by decide); have q1 := lv_neT hs15_1 (show (1 : Int32).toInt = 1 by decide); have q2 := lv_neT hs15_2 (show (2 : Int32).toInt = 2 by decide); have q3 := lv_neT hs15_3 (show (3 : Int32).toInt = 3 by decide); have q4 := lv_neT hs15_4 (show (4 : Int32).toInt = 4 by decide); have q5 := lv_neT hs15_5 (show (5 : Int32).toInt = 5 by decide); omega) (by decide) ?_
        have h := h.2.2.2.2.2.2 hs15_0 hs15_1 hs15_2 hs15_3 hs15_4 hs15_5
        refine lv_iconst (v := (-1)) hx hb dX12_count_111 (by decide) ?_
        exact m_iret hX hlk hr hw h dX12_count_112
      · have h := h.2 hc14
        refine lv_iload_n hx hb dX12_count_12 rfl (lv_at hl 2 rfl) ?_
        refine lv_aload_n hx hb dX12_count_13 rfl (lv_at hl 0 rfl) ?_
        obtain ⟨b19, hb19, h⟩ := h
        refine m_get hX hw cl12 hT4 16 (by decide) k_890 (fun _ h => h) (v := .ref b19) (congrArg va_rf hb19) dX12_count_14 ?_
        refine lv_iload_n hx hb dX12_count_17 rfl (lv_at hl 3 rfl) ?_
        obtain ⟨hT20, h⟩ := h
        obtain ⟨hc21, h⟩ := h
        refine m_zald hX hw hT20 hc21 dX12_count_18 ?_
        have kM23 : ∀ (v_22 : Int32) (ls : Array Slot), v_22 = (if (gI σ1 b19 x3_3.toNatClampNeg) = 0 then ((1 : Int32)) else ((0 : Int32))) → lv_has ls 4 [(0, .ref a0), (1, .int x1), (3, .int x3_3)] → W p l e rX12_count s m args below meth c H locs 0 0 (MQ below (va_Qi Q (BM D cA z0) (AM z0)) args s 0 0 (AM z0)) (F0 m 27 ls [.int v_22, .int x2_2]) := by
          intro v_22 ls e_v_22 hl
          have h := h v_22 e_v_22
          refine lv_iadd hx hb dX12_count_27 ?_
          refine lv_topi (fun x2_24 e_x2_24 => ?_)
          have h := h x2_24 e_x2_24
          refine lv_istore_n (lv' := [(2, _), (0, _), (1, _), (3, _)]) hx hb dX12_count_28 rfl hl (by decide) rfl (fun ls hl => ?_)
          obtain ⟨x3_25, e_x3_25⟩ : ∃ y : Int32, y = x3_3 + 1 := ⟨_, rfl⟩
          have h := h x3_25 e_x3_25
          refine lv_iinc (v := x3_25) (lv' := [(3, _), (2, _), (0, _), (1, _)]) hx hb dX12_count_29 hl (k := 3) rfl (by rw [e_x3_25]; rfl) (by decide) rfl (fun ls hl => ?_)
          refine lv_goto (tgt := 4) hx hb dX12_count_32 (by decide) ?_
          obtain ⟨m4, hm4, h⟩ := h
          exact ih4 m4 hm4 _ _ _ _ _ _ h hw (lv_sub hl [2, 3, 1, 0] rfl)
        refine lv_if_eq (tgt := 26) hx hb dX12_count_19 (by decide) (fun hc26 => ?_) (fun hc26 => ?_)
        · refine lv_iconst (v := 1) hx hb dX12_count_26 (by decide) ?_
          exact kM23 _ _ (by first | rfl | rw [if_pos hc26] | simp only [if_pos hc26]) (lv_sub hl [0, 1, 3] rfl)
        · refine lv_iconst (v := 0) hx hb dX12_count_22 (by decide) ?_
          refine lv_goto (tgt := 27) hx hb dX12_count_23 (by decide) ?_
          exact kM23 _ _ (by first | rfl | rw [if_neg hc26] | simp only [if_neg hc26]) (lv_sub hl [0, 1, 3] rfl)
  exact key4 _ _ _ _ _ _ _ h hw (lv_sub hl [2, 3, 1, 0] rfl)
theorem mtX12_count : Mth yX12_count cX12_count 4 (some .int) 1 := ⟨k_1251, k_50, by decide +kernel⟩
theorem tX12_count {l : Launch} {D : va_G} {cA : Nat → ClassId} {z0 : Nat} {σ : Me} {a0 : Nat} {x1 : Int32} {Q : Int32 → Me → Prop} (h : pX12_count σ a0 x1 Q) : Met l yX12_count (Cond.code yX12_count cX12_count 4 (some .int) :: gTab) rX12_count (PcM D cA z0 σ [.ref a0, .int x1]) (va_Qi Q (BM D cA z0) (AM z0)) 0 0 (AM z0) :=
  met_of (by decide) (Nat.le_of_ble_eq_true rfl) (fun hX hlk hr hn hw hl => wX12_count hX hlk hr h hw hl)
abbrev rX12_digest : Room := { frames := 1, cells := 0, slots := 0, locals := 23 }
def pX12_digest (σ : Me) (a0 : Nat) (Q : Int64 → Me → Prop) : Prop := ∃ I6 : Nat → Me → Int64 → Int32 → Prop, (∀ (n6 : Nat) (σ1 : Me) (x1_2 : Int64) (x3_3 : Int32), I6 n6 σ1 x1_2 x3_3 → (((6 : Int32)) ≤ x3_3 → gT σ1 a0 = 12 ∧ ∀ x1_12 : Int64, x1_12 = ((((31 : Int64)) * ((((31 : Int64)) * ((((31 : Int64)) * ((((31 : Int64)) * x1_2) + ((gI σ1 a0 20).toInt64))) + ((gI σ1 a0 21).toInt64))) + ((gI σ1 a0 22).toInt64))) + ((gI σ1 a0 23).toInt64)) → ∃ I75 : Nat → Me → Int64 → Int32 → Prop, (∀ (n75 : Nat) (σ13 : Me) (x1_14 : Int64) (x3_15 : Int32), I75 n75 σ13 x1_14 x3_15 → (((4 : Int32)) ≤ x3_15 → ∃ I154 : Nat → Me → Int64 → Int32 → Prop, (∀ (n154 : Nat) (σ43 : Me) (x1_44 : Int64) (x3_45 : Int32), I154 n154 σ43 x1_44 x3_45 → gT σ43 a0 = 12 ∧ ((gI σ43 a0 9) ≤ x3_45 → ∃ I230 : Nat → Me → Int64 → Int32 → Prop, (∀ (n230 : Nat) (σ71 : Me) (x1_72 : Int64) (x3_73 : Int32), I230 n230 σ71 x1_72 x3_73 → (((4 : Int32)) ≤ x3_73 → Q x1_72 σ71) ∧ (¬ ((4 : Int32)) ≤ x3_73 → gT σ71 a0 = 12 ∧ ∃ b77 : Nat, gP σ71 a0 7 = some b77 ∧ gT σ71 b77 = 20 ∧ vp_in x3_73 (gN σ71 b77) ∧ ∀ x1_80 : Int64, x1_80 = ((((31 : Int64)) * x1_72) + ((gI σ71 b77 x3_73.toNatClampNeg).toInt64)) → ∃ I252 : Nat → Me → Int64 → Int32 → Prop, (∀ (n252 : Nat) (σ81 : Me) (x1_82 : Int64) (x4_83 : Int32), I252 n252 σ81 x1_82 x4_83 → gT σ81 a0 = 12 ∧ ∃ b85 : Nat, gP σ81 a0 7 = some b85 ∧ gT σ81 b85 = 20 ∧ vp_in x3_73 (gN σ81 b85) ∧ ((gI σ81 b85 x3_73.toNatClampNeg) ≤ x4_83 → ∀ x3_89 : Int32, x3_89 = x3_73 + 1 → ∃ m230 : Nat, m230 < n230 ∧ I230 m230 σ81 x1_82 x3_89) ∧ (¬ (gI σ81 b85 x3_73.toNatClampNeg) ≤ x4_83 → ∃ b90 : Nat, gP σ81 a0 8 = some b90 ∧ gT σ81 b90 = 23 ∧ vp_in ((((25 : Int32)) * x3_73) + x4_83) (gN σ81 b90) ∧ ∀ x1_93 : Int64, x1_93 = ((((31 : Int64)) * x1_82) + ((gI σ81 b90 ((((25 : Int32)) * x3_73) + x4_83).toNatClampNeg).toInt64)) → ∀ x4_94 : Int32, x4_94 = x4_83 + 1 → ∃ m252 : Nat, m252 < n252 ∧ I252 m252 σ81 x1_93 x4_94)) ∧ ∃ n252 : Nat, I252 n252 σ71 x1_80 ((0 : Int32)))) ∧ ∃ n230 : Nat, I230 n230 σ43 x1_44 ((0 : Int32))) ∧ (¬ (gI σ43 a0 9) ≤ x3_45 → ∃ b95 : Nat, gP σ43 a0 16 = some b95 ∧ gT σ43 b95 = 22 ∧ vp_in x3_45 (gN σ43 b95) ∧ ∀ v_98 : Int64, v_98 = (if (gI σ43 b95 x3_45.toNatClampNeg) = 0 then x1_44 else ((((31 : Int64)) * x1_44) - ((1 : Int64)))) → ∃ I186 : Nat → Me → Int64 → Int32 → Prop, (∀ (n186 : Nat) (σ100 : Me) (x1_101 : Int64) (x4_102 : Int32), I186 n186 σ100 x1_101 x4_102 → (((5 : Int32)) ≤ x4_102 → ∀ x3_105 : Int32, x3_105 = x3_45 + 1 → ∃ m154 : Nat, m154 < n154 ∧ I154 m154 σ100 x1_101 x3_105) ∧ (¬ ((5 : Int32)) ≤ x4_102 → gT σ100 a0 = 12 ∧ ∃ b107 : Nat, gP σ100 a0 16 = some b107 ∧ gT σ100 b107 = 22 ∧ vp_in x3_45 (gN σ100 b107) ∧ ((gI σ100 b107 x3_45.toNatClampNeg) = 0 → pX12_toldOf σ100 a0 x3_45 x4_102 (fun r112 σ113 => ∀ x1_114 : Int64, x1_114 = ((((31 : Int64)) * x1_101) + r112.toInt64) → ∀ x4_115 : Int32, x4_115 = x4_102 + 1 → ∃ m186 : Nat, m186 < n186 ∧ I186 m186 σ113 x1_114 x4_115)) ∧ (¬ (gI σ100 b107 x3_45.toNatClampNeg) = 0 → ∀ x3_111 : Int32, x3_111 = x3_45 + 1 → ∃ m154 : Nat, m154 < n154 ∧ I154 m154 σ100 x1_101 x3_111))) ∧ ∃ n186 : Nat, I186 n186 σ43 v_98 ((0 : Int32)))) ∧ ∃ n154 : Nat, I154 n154 σ13 x1_14 ((0 : Int32))) ∧ (¬ ((4 : Int32)) ≤ x3_15 → gT σ13 a0 = 12 ∧ ∃ b118 : Nat, gP σ13 a0 4 = some b118 ∧ gT σ13 b118 = 22 ∧ vp_in x3_15 (gN σ13 b118) ∧ ∀ v_121 : Int64, v_121 = (if (gI σ13 b118 x3_15.toNatClampNeg) = 0 then ((((31 : Int64)) * x1_14) - ((1 : Int64))) else x1_14) → ∃ I104 : Nat → Me → Int64 → Int32 → Prop, (∀ (n104 : Nat) (σ123 : Me) (x1_124 : Int64) (x4_125 : Int32), I104 n104 σ123 x1_124 x4_125 → (((7 : Int32)) ≤ x4_125 → ∀ x3_128 : Int32, x3_128 = x3_15 + 1 → ∃ m75 : Nat, m75 < n75 ∧ I75 m75 σ123 x1_124 x3_128) ∧ (¬ ((7 : Int32)) ≤ x4_125 → gT σ123 a0 = 12 ∧ ∃ b130 : Nat, gP σ123 a0 4 = some b130 ∧ gT σ123 b130 = 22 ∧ vp_in x3_15 (gN σ123 b130) ∧ ((gI σ123 b130 x3_15.toNatClampNeg) = 0 → ∀ x3_134 : Int32, x3_134 = x3_15 + 1 → ∃ m75 : Nat, m75 < n75 ∧ I75 m75 σ123 x1_124 x3_134) ∧ (¬ (gI σ123 b130 x3_15.toNatClampNeg) = 0 → ∃ b135 : Nat, gP σ123 a0 5 = some b135 ∧ gT σ123 b135 = 20 ∧ vp_in ((((7 : Int32)) * x3_15) + x4_125) (gN σ123 b135) ∧ ∀ x1_138 : Int64, x1_138 = ((((31 : Int64)) * x1_124) + ((gI σ123 b135 ((((7 : Int32)) * x3_15) + x4_125).toNatClampNeg).toInt64)) → ∀ x4_139 : Int32, x4_139 = x4_125 + 1 → ∃ m104 : Nat, m104 < n104 ∧ I104 m104 σ123 x1_138 x4_139))) ∧ ∃ n104 : Nat, I104 n104 σ13 v_121 ((0 : Int32)))) ∧ ∃ n75 : Nat, I75 n75 σ1 x1_12 ((0 : Int32))) ∧ (¬ ((6 : Int32)) ≤ x3_3 → gT σ1 a0 = 12 ∧ pX12_count σ1 a0 x3_3 (fun r141 σ142 => ∀ x1_144 : Int64, x1_144 = ((((31 : Int64)) * x1_2) + r141.toInt64) → ∀ x3_145 : Int32, x3_145 = x3_3 + 1 → ∃ m6 : Nat, m6 < n6 ∧ I6 m6 σ142 x1_144 x3_145))) ∧ ∃ n6 : Nat, I6 n6 σ ((17 : Int64)) ((0 : Int32))
set_option maxHeartbeats 4000000 in
set_option maxRecDepth 100000 in
theorem wX12_digest {p : Program} {l : Launch} {e : Env} {s : State} {m : MethodId} {args : Array Value} {below : List Frame} {meth : Method} {c : Code} {D : va_G} {cA : Nat → ClassId} {z0 : Nat} (hX : Cx p m c cX12_digest 5 s args RX12 D cA) (hlk : meth.locks = false) (hr : meth.sig.returnType = (some .long)) {σ : Me} {a0 : Nat} {Q : Int64 → Me → Prop} (h : pX12_digest σ a0 Q) {H : Heap} {locs : List Loc} {ls : Array Slot} (hw : wS D cA z0 s σ H locs) (hl : lv_has ls 5 [(0, .ref a0)]) : W p l e rX12_digest s m args below meth c H locs 0 0 (MQ below (va_Ql Q (BM D cA z0) (AM z0)) args s 0 0 (AM z0)) (F0 m 0 ls []) := by
  have hx := hX.1.1
  have hb := hX.1.2.1
  have hown := hX.1.2.2.2.1
  have hts := hX.1.2.2.2.2
  unfold pX12_digest at h
  refine lv_ldc2 hx hb hown (hts _ k_1256) dX12_digest_0 ?_
  refine lv_lstore_n (lv' := [(1, _), (0, _)]) hx hb dX12_digest_3 rfl hl (by decide) rfl (fun ls hl => ?_)
  refine lv_iconst (v := 0) hx hb dX12_digest_4 (by decide) ?_
  refine lv_istore_n (lv' := [(3, _), (1, _), (0, _)]) hx hb dX12_digest_5 rfl hl (by decide) rfl (fun ls hl => ?_)
  obtain ⟨I6, hI6, n6, h⟩ := h
  have key6 : ∀ (n6 : Nat) (σ1 : Me) (x1_2 : Int64) (x3_3 : Int32) (H : Heap) (locs : List Loc) (ls : Array Slot), I6 n6 σ1 x1_2 x3_3 → wS D cA z0 s σ1 H locs → lv_has ls 5 [(0, .ref a0), (1, .long x1_2), (3, .int x3_3)] → W p l e rX12_digest s m args below meth c H locs 0 0 (MQ below (va_Ql Q (BM D cA z0) (AM z0)) args s 0 0 (AM z0)) (F0 m 6 ls []) := by
    intro n6
    induction n6 using Nat.strongRecOn with
    | _ n6 ih6 =>
      intro σ1 x1_2 x3_3 H locs ls h hw hl
      have h := hI6 _ _ _ _ h
      refine lv_iload_n hx hb dX12_digest_6 rfl (lv_at hl 2 rfl) ?_
      refine lv_bipush (v := 6) hx hb dX12_digest_7 (by decide) ?_
      refine lv_icmp_ge (tgt := 31) hx hb dX12_digest_9 (by decide) (fun hc10 => ?_) (fun hc10 => ?_)
      · have h := h.1 hc10
        refine lv_ldc2 hx hb hown (hts _ k_1257) dX12_digest_31 ?_
        refine lv_ldc2 hx hb hown (hts _ k_1257) dX12_digest_34 ?_
        refine lv_ldc2 hx hb hown (hts _ k_1257) dX12_digest_37 ?_
        refine lv_ldc2 hx hb hown (hts _ k_1257) dX12_digest_40 ?_
        refine lv_lload_n hx hb dX12_digest_43 rfl (lv_at hl 1 rfl) ?_
        refine lv_lmul hx hb dX12_digest_44 ?_
        refine lv_aload_n hx hb dX12_digest_45 rfl (lv_at hl 0 rfl) ?_
        obtain ⟨hT11, h⟩ := h
        refine m_get hX hw cl12 hT11 20 (by decide) k_894 (fun _ h => h) (v := .int _) rfl dX12_digest_46 ?_
        refine lv_i2l hx hb dX12_digest_49 rfl ?_
        refine lv_ladd hx hb dX12_digest_50 ?_
        refine lv_lmul hx hb dX12_digest_51 ?_
        refine lv_aload_n hx hb dX12_digest_52 rfl (lv_at hl 0 rfl) ?_
        refine m_get hX hw cl12 hT11 21 (by decide) k_895 (fun _ h => h) (v := .int _) rfl dX12_digest_53 ?_
        refine lv_i2l hx hb dX12_digest_56 rfl ?_
        refine lv_ladd hx hb dX12_digest_57 ?_
        refine lv_lmul hx hb dX12_digest_58 ?_
        refine lv_aload_n hx hb dX12_digest_59 rfl (lv_at hl 0 rfl) ?_
        refine m_get hX hw cl12 hT11 22 (by decide) k_896 (fun _ h => h) (v := .int _) rfl dX12_digest_60 ?_
        refine lv_i2l hx hb dX12_digest_63 rfl ?_
        refine lv_ladd hx hb dX12_digest_64 ?_
        refine lv_lmul hx hb dX12_digest_65 ?_
        refine lv_aload_n hx hb dX12_digest_66 rfl (lv_at hl 0 rfl) ?_
        refine m_get hX hw cl12 hT11 23 (by decide) k_897 (fun _ h => h) (v := .int _) rfl dX12_digest_67 ?_
        refine lv_i2l hx hb dX12_digest_70 rfl ?_
        refine lv_ladd hx hb dX12_digest_71 ?_
        refine lv_topl (fun x1_12 e_x1_12 => ?_)
        have h := h x1_12 e_x1_12
        refine lv_lstore_n (lv' := [(1, _), (0, _), (3, _)]) hx hb dX12_digest_72 rfl hl (by decide) rfl (fun ls hl => ?_)
        refine lv_iconst (v := 0) hx hb dX12_digest_73 (by decide) ?_
        refine lv_istore_n (lv' := [(3, _), (1, _), (0, _)]) hx hb dX12_digest_74 rfl hl (by decide) rfl (fun ls hl => ?_)
        obtain ⟨I75, hI75, n75, h⟩ := h
        have key75 : ∀ (n75 : Nat) (σ13 : Me) (x1_14 : Int64) (x3_15 : Int32) (H : Heap) (locs : List Loc) (ls : Array Slot), I75 n75 σ13 x1_14 x3_15 → wS D cA z0 s σ13 H locs → lv_has ls 5 [(0, .ref a0), (1, .long x1_14), (3, .int x3_15)] → W p l e rX12_digest s m args below meth c H locs 0 0 (MQ below (va_Ql Q (BM D cA z0) (AM z0)) args s 0 0 (AM z0)) (F0 m 75 ls []) := by
          intro n75
          induction n75 using Nat.strongRecOn with
          | _ n75 ih75 =>
            intro σ13 x1_14 x3_15 H locs ls h hw hl
            have h := hI75 _ _ _ _ h
            refine lv_iload_n hx hb dX12_digest_75 rfl (lv_at hl 2 rfl) ?_
            refine lv_iconst (v := 4) hx hb dX12_digest_76 (by decide) ?_
            refine lv_icmp_ge (tgt := 152) hx hb dX12_digest_77 (by decide) (fun hc42 => ?_) (fun hc42 => ?_)
            · have h := h.1 hc42
              refine lv_iconst (v := 0) hx hb dX12_digest_152 (by decide) ?_
              refine lv_istore_n (lv' := [(3, _), (0, _), (1, _)]) hx hb dX12_digest_153 rfl hl (by decide) rfl (fun ls hl => ?_)
              obtain ⟨I154, hI154, n154, h⟩ := h
              have key154 : ∀ (n154 : Nat) (σ43 : Me) (x1_44 : Int64) (x3_45 : Int32) (H : Heap) (locs : List Loc) (ls : Array Slot), I154 n154 σ43 x1_44 x3_45 → wS D cA z0 s σ43 H locs → lv_has ls 5 [(0, .ref a0), (1, .long x1_44), (3, .int x3_45)] → W p l e rX12_digest s m args below meth c H locs 0 0 (MQ below (va_Ql Q (BM D cA z0) (AM z0)) args s 0 0 (AM z0)) (F0 m 154 ls []) := by
                intro n154
                induction n154 using Nat.strongRecOn with
                | _ n154 ih154 =>
                  intro σ43 x1_44 x3_45 H locs ls h hw hl
                  have h := hI154 _ _ _ _ h
                  refine lv_iload_n hx hb dX12_digest_154 rfl (lv_at hl 2 rfl) ?_
                  refine lv_aload_n hx hb dX12_digest_155 rfl (lv_at hl 0 rfl) ?_
                  obtain ⟨hT46, h⟩ := h
                  refine m_get hX hw cl12 hT46 9 (by decide) k_883 (fun _ h => h) (v := .int _) rfl dX12_digest_156 ?_
                  refine lv_icmp_ge (tgt := 228) hx hb dX12_digest_159 (by decide) (fun hc70 => ?_) (fun hc70 => ?_)
                  · have h := h.1 hc70
                    refine lv_iconst (v := 0) hx hb dX12_digest_228 (by decide) ?_
                    refine lv_istore_n (lv' := [(3, _), (0, _), (1, _)]) hx hb dX12_digest_229 rfl hl (by decide) rfl (fun ls hl => ?_)
                    obtain ⟨I230, hI230, n230, h⟩ := h
                    have key230 : ∀ (n230 : Nat) (σ71 : Me) (x1_72 : Int64) (x3_73 : Int32) (H : Heap) (locs : List Loc) (ls : Array Slot), I230 n230 σ71 x1_72 x3_73 → wS D cA z0 s σ71 H locs → lv_has ls 5 [(0, .ref a0), (1, .long x1_72), (3, .int x3_73)] → W p l e rX12_digest s m args below meth c H locs 0 0 (MQ below (va_Ql Q (BM D cA z0) (AM z0)) args s 0 0 (AM z0)) (F0 m 230 ls []) := by
                      intro n230
                      induction n230 using Nat.strongRecOn with
                      | _ n230 ih230 =>
                        intro σ71 x1_72 x3_73 H locs ls h hw hl
                        have h := hI230 _ _ _ _ h
                        refine lv_iload_n hx hb dX12_digest_230 rfl (lv_at hl 2 rfl) ?_
                        refine lv_iconst (v := 4) hx hb dX12_digest_231 (by decide) ?_
                        refine lv_icmp_ge (tgt := 295) hx hb dX12_digest_232 (by decide) (fun hc75 => ?_) (fun hc75 => ?_)
                        · have h := h.1 hc75
                          refine lv_lload_n hx hb dX12_digest_295 rfl (lv_at hl 1 rfl) ?_
                          exact m_lret hX hlk hr hw h dX12_digest_296
                        · have h := h.2 hc75
                          refine lv_ldc2 hx hb hown (hts _ k_1257) dX12_digest_235 ?_
                          refine lv_lload_n hx hb dX12_digest_238 rfl (lv_at hl 1 rfl) ?_
                          refine lv_lmul hx hb dX12_digest_239 ?_
                          refine lv_aload_n hx hb dX12_digest_240 rfl (lv_at hl 0 rfl) ?_
                          obtain ⟨hT76, h⟩ := h
                          obtain ⟨b77, hb77, h⟩ := h
                          refine m_get hX hw cl12 hT76 7 (by decide) k_881 (fun _ h => h) (v := .ref b77) (congrArg va_rf hb77) dX12_digest_241 ?_
                          refine lv_iload_n hx hb dX12_digest_244 rfl (lv_at hl 2 rfl) ?_
                          obtain ⟨hT78, h⟩ := h
                          obtain ⟨hc79, h⟩ := h
                          refine m_iald hX hw hT78 hc79 dX12_digest_245 ?_
                          refine lv_i2l hx hb dX12_digest_246 rfl ?_
                          refine lv_ladd hx hb dX12_digest_247 ?_
                          refine lv_topl (fun x1_80 e_x1_80 => ?_)
                          have h := h x1_80 e_x1_80
                          refine lv_lstore_n (lv' := [(1, _), (0, _), (3, _)]) hx hb dX12_digest_248 rfl hl (by decide) rfl (fun ls hl => ?_)
                          refine lv_iconst (v := 0) hx hb dX12_digest_249 (by decide) ?_
                          refine lv_istore (lv' := [(4, _), (1, _), (0, _), (3, _)]) hx hb dX12_digest_250 hl (by decide) rfl (fun ls hl => ?_)
                          obtain ⟨I252, hI252, n252, h⟩ := h
                          have key252 : ∀ (n252 : Nat) (σ81 : Me) (x1_82 : Int64) (x4_83 : Int32) (H : Heap) (locs : List Loc) (ls : Array Slot), I252 n252 σ81 x1_82 x4_83 → wS D cA z0 s σ81 H locs → lv_has ls 5 [(0, .ref a0), (1, .long x1_82), (3, .int x3_73), (4, .int x4_83)] → W p l e rX12_digest s m args below meth c H locs 0 0 (MQ below (va_Ql Q (BM D cA z0) (AM z0)) args s 0 0 (AM z0)) (F0 m 252 ls []) := by
                            intro n252
                            induction n252 using Nat.strongRecOn with
                            | _ n252 ih252 =>
                              intro σ81 x1_82 x4_83 H locs ls h hw hl
                              have h := hI252 _ _ _ _ h
                              refine lv_iload hx hb dX12_digest_252 (lv_at hl 3 rfl) ?_
                              refine lv_aload_n hx hb dX12_digest_254 rfl (lv_at hl 0 rfl) ?_
                              obtain ⟨hT84, h⟩ := h
                              obtain ⟨b85, hb85, h⟩ := h
                              refine m_get hX hw cl12 hT84 7 (by decide) k_881 (fun _ h => h) (v := .ref b85) (congrArg va_rf hb85) dX12_digest_255 ?_
                              refine lv_iload_n hx hb dX12_digest_258 rfl (lv_at hl 2 rfl) ?_
                              obtain ⟨hT86, h⟩ := h
                              obtain ⟨hc87, h⟩ := h
                              refine m_iald hX hw hT86 hc87 dX12_digest_259 ?_
                              refine lv_icmp_ge (tgt := 289) hx hb dX12_digest_260 (by decide) (fun hc88 => ?_) (fun hc88 => ?_)
                              · have h := h.1 hc88
                                obtain ⟨x3_89, e_x3_89⟩ : ∃ y : Int32, y = x3_73 + 1 := ⟨_, rfl⟩
                                have h := h x3_89 e_x3_89
                                refine lv_iinc (v := x3_89) (lv' := [(3, _), (0, _), (1, _), (4, _)]) hx hb dX12_digest_289 hl (k := 2) rfl (by rw [e_x3_89]; rfl) (by decide) rfl (fun ls hl => ?_)
                                refine lv_goto (tgt := 230) hx hb dX12_digest_292 (by decide) ?_
                                obtain ⟨m230, hm230, h⟩ := h
                                exact ih230 m230 hm230 _ _ _ _ _ _ h hw (lv_sub hl [1, 2, 0] rfl)
                              · have h := h.2 hc88
                                refine lv_ldc2 hx hb hown (hts _ k_1257) dX12_digest_263 ?_
                                refine lv_lload_n hx hb dX12_digest_266 rfl (lv_at hl 1 rfl) ?_
                                refine lv_lmul hx hb dX12_digest_267 ?_
                                refine lv_aload_n hx hb dX12_digest_268 rfl (lv_at hl 0 rfl) ?_
                                obtain ⟨b90, hb90, h⟩ := h
                                refine m_get hX hw cl12 hT84 8 (by decide) k_882 (fun _ h => h) (v := .ref b90) (congrArg va_rf hb90) dX12_digest_269 ?_
                                refine lv_bipush (v := 25) hx hb dX12_digest_272 (by decide) ?_
                                refine lv_iload_n hx hb dX12_digest_274 rfl (lv_at hl 2 rfl) ?_
                                refine lv_imul hx hb dX12_digest_275 ?_
                                refine lv_iload hx hb dX12_digest_276 (lv_at hl 3 rfl) ?_
                                refine lv_iadd hx hb dX12_digest_278 ?_
                                obtain ⟨hT91, h⟩ := h
                                obtain ⟨hc92, h⟩ := h
                                refine m_bald hX hw hT91 hc92 dX12_digest_279 ?_
                                refine lv_i2l hx hb dX12_digest_280 rfl ?_
                                refine lv_ladd hx hb dX12_digest_281 ?_
                                refine lv_topl (fun x1_93 e_x1_93 => ?_)
                                have h := h x1_93 e_x1_93
                                refine lv_lstore_n (lv' := [(1, _), (0, _), (3, _), (4, _)]) hx hb dX12_digest_282 rfl hl (by decide) rfl (fun ls hl => ?_)
                                obtain ⟨x4_94, e_x4_94⟩ : ∃ y : Int32, y = x4_83 + 1 := ⟨_, rfl⟩
                                have h := h x4_94 e_x4_94
                                refine lv_iinc (v := x4_94) (lv' := [(4, _), (1, _), (0, _), (3, _)]) hx hb dX12_digest_283 hl (k := 3) rfl (by rw [e_x4_94]; rfl) (by decide) rfl (fun ls hl => ?_)
                                refine lv_goto (tgt := 252) hx hb dX12_digest_286 (by decide) ?_
                                obtain ⟨m252, hm252, h⟩ := h
                                exact ih252 m252 hm252 _ _ _ _ _ _ h hw (lv_sub hl [2, 1, 3, 0] rfl)
                          exact key252 _ _ _ _ _ _ _ h hw (lv_sub hl [2, 1, 3, 0] rfl)
                    exact key230 _ _ _ _ _ _ _ h hw (lv_sub hl [1, 2, 0] rfl)
                  · have h := h.2 hc70
                    refine lv_aload_n hx hb dX12_digest_162 rfl (lv_at hl 0 rfl) ?_
                    obtain ⟨b95, hb95, h⟩ := h
                    refine m_get hX hw cl12 hT46 16 (by decide) k_890 (fun _ h => h) (v := .ref b95) (congrArg va_rf hb95) dX12_digest_163 ?_
                    refine lv_iload_n hx hb dX12_digest_166 rfl (lv_at hl 2 rfl) ?_
                    obtain ⟨hT96, h⟩ := h
                    obtain ⟨hc97, h⟩ := h
                    refine m_zald hX hw hT96 hc97 dX12_digest_167 ?_
                    have kM99 : ∀ (v_98 : Int64) (ls : Array Slot), v_98 = (if (gI σ43 b95 x3_45.toNatClampNeg) = 0 then x1_44 else ((((31 : Int64)) * x1_44) - ((1 : Int64)))) → lv_has ls 5 [(0, .ref a0), (3, .int x3_45)] → W p l e rX12_digest s m args below meth c H locs 0 0 (MQ below (va_Ql Q (BM D cA z0) (AM z0)) args s 0 0 (AM z0)) (F0 m 182 ls [.long v_98]) := by
                      intro v_98 ls e_v_98 hl
                      have h := h v_98 e_v_98
                      refine lv_lstore_n (lv' := [(1, _), (0, _), (3, _)]) hx hb dX12_digest_182 rfl hl (by decide) rfl (fun ls hl => ?_)
                      refine lv_iconst (v := 0) hx hb dX12_digest_183 (by decide) ?_
                      refine lv_istore (lv' := [(4, _), (1, _), (0, _), (3, _)]) hx hb dX12_digest_184 hl (by decide) rfl (fun ls hl => ?_)
                      obtain ⟨I186, hI186, n186, h⟩ := h
                      have key186 : ∀ (n186 : Nat) (σ100 : Me) (x1_101 : Int64) (x4_102 : Int32) (H : Heap) (locs : List Loc) (ls : Array Slot), I186 n186 σ100 x1_101 x4_102 → wS D cA z0 s σ100 H locs → lv_has ls 5 [(0, .ref a0), (1, .long x1_101), (3, .int x3_45), (4, .int x4_102)] → W p l e rX12_digest s m args below meth c H locs 0 0 (MQ below (va_Ql Q (BM D cA z0) (AM z0)) args s 0 0 (AM z0)) (F0 m 186 ls []) := by
                        intro n186
                        induction n186 using Nat.strongRecOn with
                        | _ n186 ih186 =>
                          intro σ100 x1_101 x4_102 H locs ls h hw hl
                          have h := hI186 _ _ _ _ h
                          refine lv_iload hx hb dX12_digest_186 (lv_at hl 3 rfl) ?_
                          refine lv_iconst (v := 5) hx hb dX12_digest_188 (by decide) ?_
                          refine lv_icmp_ge (tgt := 222) hx hb dX12_digest_189 (by decide) (fun hc104 => ?_) (fun hc104 => ?_)
                          · have h := h.1 hc104
                            obtain ⟨x3_105, e_x3_105⟩ : ∃ y : Int32, y = x3_45 + 1 := ⟨_, rfl⟩
                            have h := h x3_105 e_x3_105
                            refine lv_iinc (v := x3_105) (lv' := [(3, _), (0, _), (1, _), (4, _)]) hx hb dX12_digest_222 hl (k := 2) rfl (by rw [e_x3_105]; rfl) (by decide) rfl (fun ls hl => ?_)
                            refine lv_goto (tgt := 154) hx hb dX12_digest_225 (by decide) ?_
                            obtain ⟨m154, hm154, h⟩ := h
                            exact ih154 m154 hm154 _ _ _ _ _ _ h hw (lv_sub hl [1, 2, 0] rfl)
                          · have h := h.2 hc104
                            refine lv_aload_n hx hb dX12_digest_192 rfl (lv_at hl 0 rfl) ?_
                            obtain ⟨hT106, h⟩ := h
                            obtain ⟨b107, hb107, h⟩ := h
                            refine m_get hX hw cl12 hT106 16 (by decide) k_890 (fun _ h => h) (v := .ref b107) (congrArg va_rf hb107) dX12_digest_193 ?_
                            refine lv_iload_n hx hb dX12_digest_196 rfl (lv_at hl 2 rfl) ?_
                            obtain ⟨hT108, h⟩ := h
                            obtain ⟨hc109, h⟩ := h
                            refine m_zald hX hw hT108 hc109 dX12_digest_197 ?_
                            refine lv_if_ne (tgt := 222) hx hb dX12_digest_198 (by decide) (fun hc110 => ?_) (fun hc110 => ?_)
                            · have h := h.2 hc110
                              obtain ⟨x3_111, e_x3_111⟩ : ∃ y : Int32, y = x3_45 + 1 := ⟨_, rfl⟩
                              have h := h x3_111 e_x3_111
                              refine lv_iinc (v := x3_111) (lv' := [(3, _), (0, _), (1, _), (4, _)]) hx hb dX12_digest_222 hl (k := 2) rfl (by rw [e_x3_111]; rfl) (by decide) rfl (fun ls hl => ?_)
                              refine lv_goto (tgt := 154) hx hb dX12_digest_225 (by decide) ?_
                              obtain ⟨m154, hm154, h⟩ := h
                              exact ih154 m154 hm154 _ _ _ _ _ _ h hw (lv_sub hl [1, 2, 0] rfl)
                            · have h := h.1 hc110
                              refine lv_ldc2 hx hb hown (hts _ k_1257) dX12_digest_201 ?_
                              refine lv_lload_n hx hb dX12_digest_204 rfl (lv_at hl 1 rfl) ?_
                              refine lv_lmul hx hb dX12_digest_205 ?_
                              refine lv_aload_n hx hb dX12_digest_206 rfl (lv_at hl 0 rfl) ?_
                              refine lv_iload_n hx hb dX12_digest_207 rfl (lv_at hl 2 rfl) ?_
                              refine lv_iload hx hb dX12_digest_208 (lv_at hl 3 rfl) ?_
                              refine m_ci (m_runV (rest := [_]) hX hw (tX12_toldOf h) mtX12_toldOf k_1137 ⟨k_1139, k_29⟩ cl12 hT106 ⟨⟨rfl, rfl, Nat.le_of_ble_eq_true rfl, Nat.le_of_ble_eq_true rfl⟩, Nat.le_of_ble_eq_true rfl, Nat.le_of_ble_eq_true rfl⟩ rfl hl.1 rfl (Nat.le_of_ble_eq_true rfl) dX12_digest_210) hw (fun r112 σ113 H locs h hw => ?_)
                              refine lv_i2l hx hb dX12_digest_213 rfl ?_
                              refine lv_ladd hx hb dX12_digest_214 ?_
                              refine lv_topl (fun x1_114 e_x1_114 => ?_)
                              have h := h x1_114 e_x1_114
                              refine lv_lstore_n (lv' := [(1, _), (0, _), (3, _), (4, _)]) hx hb dX12_digest_215 rfl hl (by decide) rfl (fun ls hl => ?_)
                              obtain ⟨x4_115, e_x4_115⟩ : ∃ y : Int32, y = x4_102 + 1 := ⟨_, rfl⟩
                              have h := h x4_115 e_x4_115
                              refine lv_iinc (v := x4_115) (lv' := [(4, _), (1, _), (0, _), (3, _)]) hx hb dX12_digest_216 hl (k := 3) rfl (by rw [e_x4_115]; rfl) (by decide) rfl (fun ls hl => ?_)
                              refine lv_goto (tgt := 186) hx hb dX12_digest_219 (by decide) ?_
                              obtain ⟨m186, hm186, h⟩ := h
                              exact ih186 m186 hm186 _ _ _ _ _ _ h hw (lv_sub hl [2, 1, 3, 0] rfl)
                      exact key186 _ _ _ _ _ _ _ h hw (lv_sub hl [2, 1, 3, 0] rfl)
                    refine lv_if_eq (tgt := 181) hx hb dX12_digest_168 (by decide) (fun hc116 => ?_) (fun hc116 => ?_)
                    · refine lv_lload_n hx hb dX12_digest_181 rfl (lv_at hl 1 rfl) ?_
                      exact kM99 _ _ (by first | rfl | rw [if_pos hc116] | simp only [if_pos hc116]) (lv_sub hl [0, 2] rfl)
                    · refine lv_ldc2 hx hb hown (hts _ k_1257) dX12_digest_171 ?_
                      refine lv_lload_n hx hb dX12_digest_174 rfl (lv_at hl 1 rfl) ?_
                      refine lv_lmul hx hb dX12_digest_175 ?_
                      refine lv_lconst (v := 1) hx hb dX12_digest_176 (by decide) ?_
                      refine lv_lsub hx hb dX12_digest_177 ?_
                      refine lv_goto (tgt := 182) hx hb dX12_digest_178 (by decide) ?_
                      exact kM99 _ _ (by first | rfl | rw [if_neg hc116] | simp only [if_neg hc116]) (lv_sub hl [0, 2] rfl)
              exact key154 _ _ _ _ _ _ _ h hw (lv_sub hl [1, 2, 0] rfl)
            · have h := h.2 hc42
              refine lv_aload_n hx hb dX12_digest_80 rfl (lv_at hl 0 rfl) ?_
              obtain ⟨hT117, h⟩ := h
              obtain ⟨b118, hb118, h⟩ := h
              refine m_get hX hw cl12 hT117 4 (by decide) k_878 (fun _ h => h) (v := .ref b118) (congrArg va_rf hb118) dX12_digest_81 ?_
              refine lv_iload_n hx hb dX12_digest_84 rfl (lv_at hl 2 rfl) ?_
              obtain ⟨hT119, h⟩ := h
              obtain ⟨hc120, h⟩ := h
              refine m_zald hX hw hT119 hc120 dX12_digest_85 ?_
              have kM122 : ∀ (v_121 : Int64) (ls : Array Slot), v_121 = (if (gI σ13 b118 x3_15.toNatClampNeg) = 0 then ((((31 : Int64)) * x1_14) - ((1 : Int64))) else x1_14) → lv_has ls 5 [(0, .ref a0), (3, .int x3_15)] → W p l e rX12_digest s m args below meth c H locs 0 0 (MQ below (va_Ql Q (BM D cA z0) (AM z0)) args s 0 0 (AM z0)) (F0 m 100 ls [.long v_121]) := by
                intro v_121 ls e_v_121 hl
                have h := h v_121 e_v_121
                refine lv_lstore_n (lv' := [(1, _), (0, _), (3, _)]) hx hb dX12_digest_100 rfl hl (by decide) rfl (fun ls hl => ?_)
                refine lv_iconst (v := 0) hx hb dX12_digest_101 (by decide) ?_
                refine lv_istore (lv' := [(4, _), (1, _), (0, _), (3, _)]) hx hb dX12_digest_102 hl (by decide) rfl (fun ls hl => ?_)
                obtain ⟨I104, hI104, n104, h⟩ := h
                have key104 : ∀ (n104 : Nat) (σ123 : Me) (x1_124 : Int64) (x4_125 : Int32) (H : Heap) (locs : List Loc) (ls : Array Slot), I104 n104 σ123 x1_124 x4_125 → wS D cA z0 s σ123 H locs → lv_has ls 5 [(0, .ref a0), (1, .long x1_124), (3, .int x3_15), (4, .int x4_125)] → W p l e rX12_digest s m args below meth c H locs 0 0 (MQ below (va_Ql Q (BM D cA z0) (AM z0)) args s 0 0 (AM z0)) (F0 m 104 ls []) := by
                  intro n104
                  induction n104 using Nat.strongRecOn with
                  | _ n104 ih104 =>
                    intro σ123 x1_124 x4_125 H locs ls h hw hl
                    have h := hI104 _ _ _ _ h
                    refine lv_iload hx hb dX12_digest_104 (lv_at hl 3 rfl) ?_
                    refine lv_bipush (v := 7) hx hb dX12_digest_106 (by decide) ?_
                    refine lv_icmp_ge (tgt := 146) hx hb dX12_digest_108 (by decide) (fun hc127 => ?_) (fun hc127 => ?_)
                    · have h := h.1 hc127
                      obtain ⟨x3_128, e_x3_128⟩ : ∃ y : Int32, y = x3_15 + 1 := ⟨_, rfl⟩
                      have h := h x3_128 e_x3_128
                      refine lv_iinc (v := x3_128) (lv' := [(3, _), (0, _), (1, _), (4, _)]) hx hb dX12_digest_146 hl (k := 2) rfl (by rw [e_x3_128]; rfl) (by decide) rfl (fun ls hl => ?_)
                      refine lv_goto (tgt := 75) hx hb dX12_digest_149 (by decide) ?_
                      obtain ⟨m75, hm75, h⟩ := h
                      exact ih75 m75 hm75 _ _ _ _ _ _ h hw (lv_sub hl [1, 2, 0] rfl)
                    · have h := h.2 hc127
                      refine lv_aload_n hx hb dX12_digest_111 rfl (lv_at hl 0 rfl) ?_
                      obtain ⟨hT129, h⟩ := h
                      obtain ⟨b130, hb130, h⟩ := h
                      refine m_get hX hw cl12 hT129 4 (by decide) k_878 (fun _ h => h) (v := .ref b130) (congrArg va_rf hb130) dX12_digest_112 ?_
                      refine lv_iload_n hx hb dX12_digest_115 rfl (lv_at hl 2 rfl) ?_
                      obtain ⟨hT131, h⟩ := h
                      obtain ⟨hc132, h⟩ := h
                      refine m_zald hX hw hT131 hc132 dX12_digest_116 ?_
                      refine lv_if_eq (tgt := 146) hx hb dX12_digest_117 (by decide) (fun hc133 => ?_) (fun hc133 => ?_)
                      · have h := h.1 hc133
                        obtain ⟨x3_134, e_x3_134⟩ : ∃ y : Int32, y = x3_15 + 1 := ⟨_, rfl⟩
                        have h := h x3_134 e_x3_134
                        refine lv_iinc (v := x3_134) (lv' := [(3, _), (0, _), (1, _), (4, _)]) hx hb dX12_digest_146 hl (k := 2) rfl (by rw [e_x3_134]; rfl) (by decide) rfl (fun ls hl => ?_)
                        refine lv_goto (tgt := 75) hx hb dX12_digest_149 (by decide) ?_
                        obtain ⟨m75, hm75, h⟩ := h
                        exact ih75 m75 hm75 _ _ _ _ _ _ h hw (lv_sub hl [1, 2, 0] rfl)
                      · have h := h.2 hc133
                        refine lv_ldc2 hx hb hown (hts _ k_1257) dX12_digest_120 ?_
                        refine lv_lload_n hx hb dX12_digest_123 rfl (lv_at hl 1 rfl) ?_
                        refine lv_lmul hx hb dX12_digest_124 ?_
                        refine lv_aload_n hx hb dX12_digest_125 rfl (lv_at hl 0 rfl) ?_
                        obtain ⟨b135, hb135, h⟩ := h
                        refine m_get hX hw cl12 hT129 5 (by decide) k_879 (fun _ h => h) (v := .ref b135) (congrArg va_rf hb135) dX12_digest_126 ?_
                        refine lv_bipush (v := 7) hx hb dX12_digest_129 (by decide) ?_
                        refine lv_iload_n hx hb dX12_digest_131 rfl (lv_at hl 2 rfl) ?_
                        refine lv_imul hx hb dX12_digest_132 ?_
                        refine lv_iload hx hb dX12_digest_133 (lv_at hl 3 rfl) ?_
                        refine lv_iadd hx hb dX12_digest_135 ?_
                        obtain ⟨hT136, h⟩ := h
                        obtain ⟨hc137, h⟩ := h
                        refine m_iald hX hw hT136 hc137 dX12_digest_136 ?_
                        refine lv_i2l hx hb dX12_digest_137 rfl ?_
                        refine lv_ladd hx hb dX12_digest_138 ?_
                        refine lv_topl (fun x1_138 e_x1_138 => ?_)
                        have h := h x1_138 e_x1_138
                        refine lv_lstore_n (lv' := [(1, _), (0, _), (3, _), (4, _)]) hx hb dX12_digest_139 rfl hl (by decide) rfl (fun ls hl => ?_)
                        obtain ⟨x4_139, e_x4_139⟩ : ∃ y : Int32, y = x4_125 + 1 := ⟨_, rfl⟩
                        have h := h x4_139 e_x4_139
                        refine lv_iinc (v := x4_139) (lv' := [(4, _), (1, _), (0, _), (3, _)]) hx hb dX12_digest_140 hl (k := 3) rfl (by rw [e_x4_139]; rfl) (by decide) rfl (fun ls hl => ?_)
                        refine lv_goto (tgt := 104) hx hb dX12_digest_143 (by decide) ?_
                        obtain ⟨m104, hm104, h⟩ := h
                        exact ih104 m104 hm104 _ _ _ _ _ _ h hw (lv_sub hl [2, 1, 3, 0] rfl)
                exact key104 _ _ _ _ _ _ _ h hw (lv_sub hl [2, 1, 3, 0] rfl)
              refine lv_if_eq (tgt := 93) hx hb dX12_digest_86 (by decide) (fun hc140 => ?_) (fun hc140 => ?_)
              · refine lv_ldc2 hx hb hown (hts _ k_1257) dX12_digest_93 ?_
                refine lv_lload_n hx hb dX12_digest_96 rfl (lv_at hl 1 rfl) ?_
                refine lv_lmul hx hb dX12_digest_97 ?_
                refine lv_lconst (v := 1) hx hb dX12_digest_98 (by decide) ?_
                refine lv_lsub hx hb dX12_digest_99 ?_
                exact kM122 _ _ (by first | rfl | rw [if_pos hc140] | simp only [if_pos hc140]) (lv_sub hl [0, 2] rfl)
              · refine lv_lload_n hx hb dX12_digest_89 rfl (lv_at hl 1 rfl) ?_
                refine lv_goto (tgt := 100) hx hb dX12_digest_90 (by decide) ?_
                exact kM122 _ _ (by first | rfl | rw [if_neg hc140] | simp only [if_neg hc140]) (lv_sub hl [0, 2] rfl)
        exact key75 _ _ _ _ _ _ _ h hw (lv_sub hl [2, 1, 0] rfl)
      · have h := h.2 hc10
        refine lv_ldc2 hx hb hown (hts _ k_1257) dX12_digest_12 ?_
        refine lv_lload_n hx hb dX12_digest_15 rfl (lv_at hl 1 rfl) ?_
        refine lv_lmul hx hb dX12_digest_16 ?_
        refine lv_aload_n hx hb dX12_digest_17 rfl (lv_at hl 0 rfl) ?_
        refine lv_iload_n hx hb dX12_digest_18 rfl (lv_at hl 2 rfl) ?_
        obtain ⟨hT143, h⟩ := h
        refine m_ci (m_runV (rest := [_]) hX hw (tX12_count h) mtX12_count k_1258 ⟨k_1249, k_1250⟩ cl12 hT143 ⟨⟨rfl, rfl, Nat.le_of_ble_eq_true rfl, Nat.le_of_ble_eq_true rfl⟩, Nat.le_of_ble_eq_true rfl, Nat.le_of_ble_eq_true rfl⟩ rfl hl.1 rfl (Nat.le_of_ble_eq_true rfl) dX12_digest_19) hw (fun r141 σ142 H locs h hw => ?_)
        refine lv_i2l hx hb dX12_digest_22 rfl ?_
        refine lv_ladd hx hb dX12_digest_23 ?_
        refine lv_topl (fun x1_144 e_x1_144 => ?_)
        have h := h x1_144 e_x1_144
        refine lv_lstore_n (lv' := [(1, _), (0, _), (3, _)]) hx hb dX12_digest_24 rfl hl (by decide) rfl (fun ls hl => ?_)
        obtain ⟨x3_145, e_x3_145⟩ : ∃ y : Int32, y = x3_3 + 1 := ⟨_, rfl⟩
        have h := h x3_145 e_x3_145
        refine lv_iinc (v := x3_145) (lv' := [(3, _), (1, _), (0, _)]) hx hb dX12_digest_25 hl (k := 2) rfl (by rw [e_x3_145]; rfl) (by decide) rfl (fun ls hl => ?_)
        refine lv_goto (tgt := 6) hx hb dX12_digest_28 (by decide) ?_
        obtain ⟨m6, hm6, h⟩ := h
        exact ih6 m6 hm6 _ _ _ _ _ _ h hw (lv_sub hl [2, 1, 0] rfl)
  exact key6 _ _ _ _ _ _ _ h hw (lv_sub hl [2, 1, 0] rfl)
theorem mtX12_digest : Mth yX12_digest cX12_digest 5 (some .long) 0 := ⟨k_1255, k_50, by decide +kernel⟩
theorem tX12_digest {l : Launch} {D : va_G} {cA : Nat → ClassId} {z0 : Nat} {σ : Me} {a0 : Nat} {Q : Int64 → Me → Prop} (h : pX12_digest σ a0 Q) : Met l yX12_digest (Cond.code yX12_digest cX12_digest 5 (some .long) :: gTab) rX12_digest (PcM D cA z0 σ [.ref a0]) (va_Ql Q (BM D cA z0) (AM z0)) 0 0 (AM z0) :=
  met_of (by decide) (Nat.le_of_ble_eq_true rfl) (fun hX hlk hr hn hw hl => wX12_digest hX hlk hr h hw hl)
abbrev rX0_init : Room := { frames := 2, cells := 0, slots := 0, locals := 40 }
def pX0_init (σ : Me) (a0 : Nat) (x1 : Int32) (Q : Me → Prop) : Prop := pX5_init σ a0 (fun σ2 => gT σ2 a0 = 0 ∧ ∀ σ4 : Me, σ4 = sI σ2 a0 0 x1 → Q σ4)
set_option maxHeartbeats 4000000 in
set_option maxRecDepth 100000 in
theorem wX0_init {p : Program} {l : Launch} {e : Env} {s : State} {m : MethodId} {args : Array Value} {below : List Frame} {meth : Method} {c : Code} {D : va_G} {cA : Nat → ClassId} {z0 : Nat} (hX : Cx p m c cX0_init 2 s args RX0 D cA) (hlk : meth.locks = false) (hr : meth.sig.returnType = none) (hin : meth.name = "<init>") {σ : Me} {a0 : Nat} {x1 : Int32} {Q : Me → Prop} (h : pX0_init σ a0 x1 Q) {H : Heap} {locs : List Loc} {ls : Array Slot} (hw : wS D cA z0 s σ H locs) (hl : lv_has ls 2 [(0, .ref a0), (1, .int x1)]) : W p l e rX0_init s m args below meth c H locs 0 0 (MQ below (va_Qv Q (BM D cA z0) (AM z0)) args s 0 0 (AM z0)) (F0 m 0 ls []) := by
  have hx := hX.1.1
  have hb := hX.1.2.1
  have hown := hX.1.2.2.2.1
  have hts := hX.1.2.2.2.2
  unfold pX0_init at h
  refine lv_aload_n hx hb dX0_init_0 rfl (lv_at hl 0 rfl) ?_
  refine m_cv (m_runIN (rest := []) hX hw (tX5_init h) mtX5_init (List.mem_of_getElem? (i := 4) rfl) k_383 rfl ⟨⟨rfl, rfl, Nat.le_of_ble_eq_true rfl, Nat.le_of_ble_eq_true rfl⟩, Nat.le_of_ble_eq_true rfl, Nat.le_of_ble_eq_true rfl⟩ rfl hl.1 rfl (Nat.le_of_ble_eq_true rfl) dX0_init_1) hw (fun σ2 H locs h hw => ?_)
  refine lv_aload_n hx hb dX0_init_4 rfl (lv_at hl 0 rfl) ?_
  refine lv_iload_n hx hb dX0_init_5 rfl (lv_at hl 1 rfl) ?_
  obtain ⟨hT3, h⟩ := h
  refine m_putFI hX hin hw cl0 hT3 0 (by decide) k_414 (fun _ h => h) rfl rfl rfl dX0_init_6 (fun H locs hw => ?_)
  let σ4 : Me := sI σ2 a0 0 x1
  have h := h σ4 rfl
  have hw : wS D cA z0 s σ4 H locs := hw
  exact m_vret hX hlk hr hw h dX0_init_9
theorem mtX0_init : Mth yX0_init cX0_init 2 none 1 := ⟨k_412, k_55, by decide +kernel⟩
theorem tX0_init {l : Launch} {D : va_G} {cA : Nat → ClassId} {z0 : Nat} {σ : Me} {a0 : Nat} {x1 : Int32} {Q : Me → Prop} (h : pX0_init σ a0 x1 Q) : Met l yX0_init (Cond.code yX0_init cX0_init 2 none :: gTab) rX0_init (PcM D cA z0 σ [.ref a0, .int x1]) (va_Qv Q (BM D cA z0) (AM z0)) 0 0 (AM z0) :=
  met_of (by decide) (Nat.le_of_ble_eq_true rfl) (fun hX hlk hr hn hw hl => wX0_init hX hlk hr hn h hw hl)
abbrev rX0_init3 : Room := { frames := 2, cells := 0, slots := 0, locals := 40 }
def pX0_init3 (σ : Me) (a0 : Nat) (x1 : Int32) (Q : Me → Prop) : Prop := pX5_init σ a0 (fun σ2 => gT σ2 a0 = 3 ∧ ∀ σ4 : Me, σ4 = sI σ2 a0 0 x1 → Q σ4)
set_option maxHeartbeats 4000000 in
set_option maxRecDepth 100000 in
theorem wX0_init3 {p : Program} {l : Launch} {e : Env} {s : State} {m : MethodId} {args : Array Value} {below : List Frame} {meth : Method} {c : Code} {D : va_G} {cA : Nat → ClassId} {z0 : Nat} (hX : Cx p m c cX0_init 2 s args RX0 D cA) (hlk : meth.locks = false) (hr : meth.sig.returnType = none) (hin : meth.name = "<init>") {σ : Me} {a0 : Nat} {x1 : Int32} {Q : Me → Prop} (h : pX0_init3 σ a0 x1 Q) {H : Heap} {locs : List Loc} {ls : Array Slot} (hw : wS D cA z0 s σ H locs) (hl : lv_has ls 2 [(0, .ref a0), (1, .int x1)]) : W p l e rX0_init3 s m args below meth c H locs 0 0 (MQ below (va_Qv Q (BM D cA z0) (AM z0)) args s 0 0 (AM z0)) (F0 m 0 ls []) := by
  have hx := hX.1.1
  have hb := hX.1.2.1
  have hown := hX.1.2.2.2.1
  have hts := hX.1.2.2.2.2
  unfold pX0_init3 at h
  refine lv_aload_n hx hb dX0_init_0 rfl (lv_at hl 0 rfl) ?_
  refine m_cv (m_runIN (rest := []) hX hw (tX5_init h) mtX5_init (List.mem_of_getElem? (i := 4) rfl) k_383 rfl ⟨⟨rfl, rfl, Nat.le_of_ble_eq_true rfl, Nat.le_of_ble_eq_true rfl⟩, Nat.le_of_ble_eq_true rfl, Nat.le_of_ble_eq_true rfl⟩ rfl hl.1 rfl (Nat.le_of_ble_eq_true rfl) dX0_init_1) hw (fun σ2 H locs h hw => ?_)
  refine lv_aload_n hx hb dX0_init_4 rfl (lv_at hl 0 rfl) ?_
  refine lv_iload_n hx hb dX0_init_5 rfl (lv_at hl 1 rfl) ?_
  obtain ⟨hT3, h⟩ := h
  refine m_putFI hX hin hw cl3 hT3 0 (by decide) k_414 (fun _ h => h) rfl rfl rfl dX0_init_6 (fun H locs hw => ?_)
  let σ4 : Me := sI σ2 a0 0 x1
  have h := h σ4 rfl
  have hw : wS D cA z0 s σ4 H locs := hw
  exact m_vret hX hlk hr hw h dX0_init_9
theorem tX0_init3 {l : Launch} {D : va_G} {cA : Nat → ClassId} {z0 : Nat} {σ : Me} {a0 : Nat} {x1 : Int32} {Q : Me → Prop} (h : pX0_init3 σ a0 x1 Q) : Met l yX0_init (Cond.code yX0_init cX0_init 2 none :: gTab) rX0_init3 (PcM D cA z0 σ [.ref a0, .int x1]) (va_Qv Q (BM D cA z0) (AM z0)) 0 0 (AM z0) :=
  met_of (by decide) (Nat.le_of_ble_eq_true rfl) (fun hX hlk hr hn hw hl => wX0_init3 hX hlk hr hn h hw hl)
abbrev rX2_init : Room := { frames := 2, cells := 0, slots := 0, locals := 40 }
def pX2_init (σ : Me) (a0 : Nat) (x1 : Int32) (x2 : Int32) (Q : Me → Prop) : Prop := pX5_init σ a0 (fun σ2 => gT σ2 a0 = 2 ∧ ∀ σ4 : Me, σ4 = sI σ2 a0 0 x1 → ∀ σ5 : Me, σ5 = sI σ4 a0 1 x2 → Q σ5)
set_option maxHeartbeats 4000000 in
set_option maxRecDepth 100000 in
theorem wX2_init {p : Program} {l : Launch} {e : Env} {s : State} {m : MethodId} {args : Array Value} {below : List Frame} {meth : Method} {c : Code} {D : va_G} {cA : Nat → ClassId} {z0 : Nat} (hX : Cx p m c cX2_init 3 s args RX2 D cA) (hlk : meth.locks = false) (hr : meth.sig.returnType = none) (hin : meth.name = "<init>") {σ : Me} {a0 : Nat} {x1 : Int32} {x2 : Int32} {Q : Me → Prop} (h : pX2_init σ a0 x1 x2 Q) {H : Heap} {locs : List Loc} {ls : Array Slot} (hw : wS D cA z0 s σ H locs) (hl : lv_has ls 3 [(0, .ref a0), (1, .int x1), (2, .int x2)]) : W p l e rX2_init s m args below meth c H locs 0 0 (MQ below (va_Qv Q (BM D cA z0) (AM z0)) args s 0 0 (AM z0)) (F0 m 0 ls []) := by
  have hx := hX.1.1
  have hb := hX.1.2.1
  have hown := hX.1.2.2.2.1
  have hts := hX.1.2.2.2.2
  unfold pX2_init at h
  refine lv_aload_n hx hb dX2_init_0 rfl (lv_at hl 0 rfl) ?_
  refine m_cv (m_runIN (rest := []) hX hw (tX5_init h) mtX5_init (List.mem_of_getElem? (i := 5) rfl) k_383 rfl ⟨⟨rfl, rfl, Nat.le_of_ble_eq_true rfl, Nat.le_of_ble_eq_true rfl⟩, Nat.le_of_ble_eq_true rfl, Nat.le_of_ble_eq_true rfl⟩ rfl hl.1 rfl (Nat.le_of_ble_eq_true rfl) dX2_init_1) hw (fun σ2 H locs h hw => ?_)
  refine lv_aload_n hx hb dX2_init_4 rfl (lv_at hl 0 rfl) ?_
  refine lv_iload_n hx hb dX2_init_5 rfl (lv_at hl 1 rfl) ?_
  obtain ⟨hT3, h⟩ := h
  refine m_putFI hX hin hw cl2 hT3 0 (by decide) k_440 (fun _ h => h) rfl rfl rfl dX2_init_6 (fun H locs hw => ?_)
  let σ4 : Me := sI σ2 a0 0 x1
  have h := h σ4 rfl
  have hw : wS D cA z0 s σ4 H locs := hw
  refine lv_aload_n hx hb dX2_init_9 rfl (lv_at hl 0 rfl) ?_
  refine lv_iload_n hx hb dX2_init_10 rfl (lv_at hl 2 rfl) ?_
  refine m_putFI hX hin hw cl2 hT3 1 (by decide) k_441 (fun _ h => h) rfl rfl rfl dX2_init_11 (fun H locs hw => ?_)
  let σ5 : Me := sI σ4 a0 1 x2
  have h := h σ5 rfl
  have hw : wS D cA z0 s σ5 H locs := hw
  exact m_vret hX hlk hr hw h dX2_init_14
theorem mtX2_init : Mth yX2_init cX2_init 3 none 2 := ⟨k_438, k_57, by decide +kernel⟩
theorem tX2_init {l : Launch} {D : va_G} {cA : Nat → ClassId} {z0 : Nat} {σ : Me} {a0 : Nat} {x1 : Int32} {x2 : Int32} {Q : Me → Prop} (h : pX2_init σ a0 x1 x2 Q) : Met l yX2_init (Cond.code yX2_init cX2_init 3 none :: gTab) rX2_init (PcM D cA z0 σ [.ref a0, .int x1, .int x2]) (va_Qv Q (BM D cA z0) (AM z0)) 0 0 (AM z0) :=
  met_of (by decide) (Nat.le_of_ble_eq_true rfl) (fun hX hlk hr hn hw hl => wX2_init hX hlk hr hn h hw hl)
abbrev rX3_init : Room := { frames := 3, cells := 0, slots := 0, locals := 61 }
def pX3_init (σ : Me) (a0 : Nat) (x1 : Int32) (x2 : Int32) (Q : Me → Prop) : Prop := pX0_init3 σ a0 x2 (fun σ2 => gT σ2 a0 = 3 ∧ ∀ σ4 : Me, σ4 = sI σ2 a0 1 x1 → Q σ4)
set_option maxHeartbeats 4000000 in
set_option maxRecDepth 100000 in
theorem wX3_init {p : Program} {l : Launch} {e : Env} {s : State} {m : MethodId} {args : Array Value} {below : List Frame} {meth : Method} {c : Code} {D : va_G} {cA : Nat → ClassId} {z0 : Nat} (hX : Cx p m c cX3_init 3 s args RX3 D cA) (hlk : meth.locks = false) (hr : meth.sig.returnType = none) (hin : meth.name = "<init>") {σ : Me} {a0 : Nat} {x1 : Int32} {x2 : Int32} {Q : Me → Prop} (h : pX3_init σ a0 x1 x2 Q) {H : Heap} {locs : List Loc} {ls : Array Slot} (hw : wS D cA z0 s σ H locs) (hl : lv_has ls 3 [(0, .ref a0), (1, .int x1), (2, .int x2)]) : W p l e rX3_init s m args below meth c H locs 0 0 (MQ below (va_Qv Q (BM D cA z0) (AM z0)) args s 0 0 (AM z0)) (F0 m 0 ls []) := by
  have hx := hX.1.1
  have hb := hX.1.2.1
  have hown := hX.1.2.2.2.1
  have hts := hX.1.2.2.2.2
  unfold pX3_init at h
  refine lv_aload_n hx hb dX3_init_0 rfl (lv_at hl 0 rfl) ?_
  refine lv_iload_n hx hb dX3_init_1 rfl (lv_at hl 2 rfl) ?_
  refine m_cv (m_runI (rest := []) hX hw (tX0_init3 h) mtX0_init k_427 k_411 rfl ⟨⟨rfl, rfl, Nat.le_of_ble_eq_true rfl, Nat.le_of_ble_eq_true rfl⟩, Nat.le_of_ble_eq_true rfl, Nat.le_of_ble_eq_true rfl⟩ rfl hl.1 rfl (Nat.le_of_ble_eq_true rfl) dX3_init_2) hw (fun σ2 H locs h hw => ?_)
  refine lv_aload_n hx hb dX3_init_5 rfl (lv_at hl 0 rfl) ?_
  refine lv_iload_n hx hb dX3_init_6 rfl (lv_at hl 1 rfl) ?_
  obtain ⟨hT3, h⟩ := h
  refine m_putFI hX hin hw cl3 hT3 1 (by decide) k_428 (fun _ h => h) rfl rfl rfl dX3_init_7 (fun H locs hw => ?_)
  let σ4 : Me := sI σ2 a0 1 x1
  have h := h σ4 rfl
  have hw : wS D cA z0 s σ4 H locs := hw
  exact m_vret hX hlk hr hw h dX3_init_10
theorem mtX3_init : Mth yX3_init cX3_init 3 none 2 := ⟨k_426, k_56, by decide +kernel⟩
theorem tX3_init {l : Launch} {D : va_G} {cA : Nat → ClassId} {z0 : Nat} {σ : Me} {a0 : Nat} {x1 : Int32} {x2 : Int32} {Q : Me → Prop} (h : pX3_init σ a0 x1 x2 Q) : Met l yX3_init (Cond.code yX3_init cX3_init 3 none :: gTab) rX3_init (PcM D cA z0 σ [.ref a0, .int x1, .int x2]) (va_Qv Q (BM D cA z0) (AM z0)) 0 0 (AM z0) :=
  met_of (by decide) (Nat.le_of_ble_eq_true rfl) (fun hX hlk hr hn hw hl => wX3_init hX hlk hr hn h hw hl)
abbrev rX3_wants : Room := { frames := 1, cells := 0, slots := 0, locals := 22 }
def pX3_wants (σ : Me) (a0 : Nat) (x1 : Int32) (Q : Int32 → Me → Prop) : Prop := gT σ a0 = 3 ∧ pX3_pairWants σ (gI σ a0 1) (gI σ a0 0) x1 (fun r2 σ3 => Q r2 σ3)
set_option maxHeartbeats 4000000 in
set_option maxRecDepth 100000 in
theorem wX3_wants {p : Program} {l : Launch} {e : Env} {s : State} {m : MethodId} {args : Array Value} {below : List Frame} {meth : Method} {c : Code} {D : va_G} {cA : Nat → ClassId} {z0 : Nat} (hX : Cx p m c cX3_wants 2 s args RX3 D cA) (hlk : meth.locks = false) (hr : meth.sig.returnType = (some .int)) {σ : Me} {a0 : Nat} {x1 : Int32} {Q : Int32 → Me → Prop} (h : pX3_wants σ a0 x1 Q) {H : Heap} {locs : List Loc} {ls : Array Slot} (hw : wS D cA z0 s σ H locs) (hl : lv_has ls 2 [(0, .ref a0), (1, .int x1)]) : W p l e rX3_wants s m args below meth c H locs 0 0 (MQ below (va_Qi Q (BM D cA z0) (AM z0)) args s 0 0 (AM z0)) (F0 m 0 ls []) := by
  have hx := hX.1.1
  have hb := hX.1.2.1
  have hown := hX.1.2.2.2.1
  have hts := hX.1.2.2.2.2
  unfold pX3_wants at h
  refine lv_aload_n hx hb dX3_wants_0 rfl (lv_at hl 0 rfl) ?_
  obtain ⟨hT1, h⟩ := h
  refine m_get hX hw cl3 hT1 1 (by decide) k_428 (fun _ h => h) (v := .int _) rfl dX3_wants_1 ?_
  refine lv_aload_n hx hb dX3_wants_4 rfl (lv_at hl 0 rfl) ?_
  refine m_get hX hw cl3 hT1 0 (by decide) k_415 (fun x hx => u_same (hts _ k_416) x hx) (v := .int _) rfl dX3_wants_5 ?_
  refine lv_iload_n hx hb dX3_wants_8 rfl (lv_at hl 1 rfl) ?_
  refine m_ci (m_runS (rest := []) hX hw (tX3_pairWants h) mtX3_pairWants k_544 k_545 ⟨⟨rfl, rfl, Nat.le_of_ble_eq_true rfl, Nat.le_of_ble_eq_true rfl⟩, Nat.le_of_ble_eq_true rfl, Nat.le_of_ble_eq_true rfl⟩ rfl hl.1 rfl (Nat.le_of_ble_eq_true rfl) dX3_wants_9) hw (fun r2 σ3 H locs h hw => ?_)
  exact m_iret hX hlk hr hw h dX3_wants_12
theorem mtX3_wants : Mth yX3_wants cX3_wants 2 (some .int) 1 := ⟨k_543, k_56, by decide +kernel⟩
theorem tX3_wants {l : Launch} {D : va_G} {cA : Nat → ClassId} {z0 : Nat} {σ : Me} {a0 : Nat} {x1 : Int32} {Q : Int32 → Me → Prop} (h : pX3_wants σ a0 x1 Q) : Met l yX3_wants (Cond.code yX3_wants cX3_wants 2 (some .int) :: gTab) rX3_wants (PcM D cA z0 σ [.ref a0, .int x1]) (va_Qi Q (BM D cA z0) (AM z0)) 0 0 (AM z0) :=
  met_of (by decide) (Nat.le_of_ble_eq_true rfl) (fun hX hlk hr hn hw hl => wX3_wants hX hlk hr h hw hl)
abbrev rX4_turnTo : Room := { frames := 2, cells := 0, slots := 0, locals := 48 }
def pX4_turnTo (σ : Me) (a0 : Nat) (a1 : Nat) (x2 : Int32) (Q : Me → Prop) : Prop := pX11_rowsOf σ a1 x2 (fun r1 σ2 => gT σ2 a0 = 4 ∧ ∀ σ4 : Me, σ4 = sL σ2 a0 4 r1 → pX11_rowsOf σ4 a1 (x2 + ((1 : Int32))) (fun r5 σ6 => gT σ6 a0 = 4 ∧ ∀ σ8 : Me, σ8 = sL σ6 a0 3 r5 → Q σ8))
set_option maxHeartbeats 4000000 in
set_option maxRecDepth 100000 in
theorem wX4_turnTo {p : Program} {l : Launch} {e : Env} {s : State} {m : MethodId} {args : Array Value} {below : List Frame} {meth : Method} {c : Code} {D : va_G} {cA : Nat → ClassId} {z0 : Nat} (hX : Cx p m c cX4_turnTo 3 s args RX4 D cA) (hlk : meth.locks = false) (hr : meth.sig.returnType = none) {σ : Me} {a0 : Nat} {a1 : Nat} {x2 : Int32} {Q : Me → Prop} (h : pX4_turnTo σ a0 a1 x2 Q) {H : Heap} {locs : List Loc} {ls : Array Slot} (hw : wS D cA z0 s σ H locs) (hl : lv_has ls 3 [(0, .ref a0), (1, .ref a1), (2, .int x2)]) : W p l e rX4_turnTo s m args below meth c H locs 0 0 (MQ below (va_Qv Q (BM D cA z0) (AM z0)) args s 0 0 (AM z0)) (F0 m 0 ls []) := by
  have hx := hX.1.1
  have hb := hX.1.2.1
  have hown := hX.1.2.2.2.1
  have hts := hX.1.2.2.2.2
  unfold pX4_turnTo at h
  refine lv_aload_n hx hb dX4_turnTo_0 rfl (lv_at hl 0 rfl) ?_
  refine lv_aload_n hx hb dX4_turnTo_1 rfl (lv_at hl 1 rfl) ?_
  refine lv_iload_n hx hb dX4_turnTo_2 rfl (lv_at hl 2 rfl) ?_
  refine m_cl (m_runSN (rest := [_]) hX hw (tX11_rowsOf h) mtX11_rowsOf (List.mem_of_getElem? (i := 10) rfl) k_692 ⟨⟨rfl, rfl, Nat.le_of_ble_eq_true rfl, Nat.le_of_ble_eq_true rfl⟩, Nat.le_of_ble_eq_true rfl, Nat.le_of_ble_eq_true rfl⟩ rfl hl.1 rfl (Nat.le_of_ble_eq_true rfl) dX4_turnTo_3) hw (fun r1 σ2 H locs h hw => ?_)
  obtain ⟨hT3, h⟩ := h
  refine m_putL hX hw cl4 hT3 4 (by decide) k_204 (fun _ h => h) rfl rfl dX4_turnTo_6 (fun H locs hw => ?_)
  let σ4 : Me := sL σ2 a0 4 r1
  have h := h σ4 rfl
  have hw : wS D cA z0 s σ4 H locs := hw
  refine lv_aload_n hx hb dX4_turnTo_9 rfl (lv_at hl 0 rfl) ?_
  refine lv_aload_n hx hb dX4_turnTo_10 rfl (lv_at hl 1 rfl) ?_
  refine lv_iload_n hx hb dX4_turnTo_11 rfl (lv_at hl 2 rfl) ?_
  refine lv_iconst (v := 1) hx hb dX4_turnTo_12 (by decide) ?_
  refine lv_iadd hx hb dX4_turnTo_13 ?_
  refine m_cl (m_runSN (rest := [_]) hX hw (tX11_rowsOf h) mtX11_rowsOf (List.mem_of_getElem? (i := 10) rfl) k_692 ⟨⟨rfl, rfl, Nat.le_of_ble_eq_true rfl, Nat.le_of_ble_eq_true rfl⟩, Nat.le_of_ble_eq_true rfl, Nat.le_of_ble_eq_true rfl⟩ rfl hl.1 rfl (Nat.le_of_ble_eq_true rfl) dX4_turnTo_14) hw (fun r5 σ6 H locs h hw => ?_)
  obtain ⟨hT7, h⟩ := h
  refine m_putL hX hw cl4 hT7 3 (by decide) k_203 (fun _ h => h) rfl rfl dX4_turnTo_17 (fun H locs hw => ?_)
  let σ8 : Me := sL σ6 a0 3 r5
  have h := h σ8 rfl
  have hw : wS D cA z0 s σ8 H locs := hw
  exact m_vret hX hlk hr hw h dX4_turnTo_20
theorem mtX4_turnTo : Mth yX4_turnTo cX4_turnTo 3 none 2 := ⟨k_726, k_48, by decide +kernel⟩
theorem tX4_turnTo {l : Launch} {D : va_G} {cA : Nat → ClassId} {z0 : Nat} {σ : Me} {a0 : Nat} {a1 : Nat} {x2 : Int32} {Q : Me → Prop} (h : pX4_turnTo σ a0 a1 x2 Q) : Met l yX4_turnTo (Cond.code yX4_turnTo cX4_turnTo 3 none :: gTab) rX4_turnTo (PcM D cA z0 σ [.ref a0, .ref a1, .int x2]) (va_Qv Q (BM D cA z0) (AM z0)) 0 0 (AM z0) :=
  met_of (by decide) (Nat.le_of_ble_eq_true rfl) (fun hX hlk hr hn hw hl => wX4_turnTo hX hlk hr h hw hl)
abbrev rX6_reckon : Room := { frames := 3, cells := 0, slots := 0, locals := 69 }
def pX6_reckon (σ : Me) (a0 : Nat) (a1 : Nat) (Q : Me → Prop) : Prop := ∃ I2 : Nat → Me → Int32 → Prop, (∀ (n2 : Nat) (σ1 : Me) (x2_2 : Int32), I2 n2 σ1 x2_2 → (((25 : Int32)) ≤ x2_2 → Q σ1) ∧ (¬ ((25 : Int32)) ≤ x2_2 → gT σ1 a0 = 6 ∧ ∃ b6 : Nat, gP σ1 a0 7 = some b6 ∧ gT σ1 b6 = 20 ∧ vp_in x2_2 (gN σ1 b6) ∧ ∀ σ9 : Me, σ9 = sI σ1 b6 x2_2.toNatClampNeg ((0 : Int32)) → ∃ b10 : Nat, gP σ9 a0 8 = some b10 ∧ gT σ9 b10 = 20 ∧ vp_in x2_2 (gN σ9 b10) ∧ ∀ σ13 : Me, σ13 = sI σ9 b10 x2_2.toNatClampNeg ((0 : Int32)) → ∃ b14 : Nat, gP σ13 a0 9 = some b14 ∧ gT σ13 b14 = 20 ∧ vp_in x2_2 (gN σ13 b14) ∧ ∀ σ17 : Me, σ17 = sI σ13 b14 x2_2.toNatClampNeg ((0 : Int32)) → ∃ I31 : Nat → Me → Int32 → Prop, (∀ (n31 : Nat) (σ18 : Me) (x3_19 : Int32), I31 n31 σ18 x3_19 → (((7 : Int32)) ≤ x3_19 → ∀ x2_21 : Int32, x2_21 = x2_2 + 1 → ∃ m2 : Nat, m2 < n2 ∧ I2 m2 σ18 x2_21) ∧ (¬ ((7 : Int32)) ≤ x3_19 → gT σ18 a1 = 1 ∧ pX1_weightOf σ18 a1 x3_19 (fun r22 σ23 => gT σ23 a0 = 6 ∧ pX6_reckonDemand σ23 a0 x2_2 x3_19 r22 (fun σ26 => ∀ x3_28 : Int32, x3_28 = x3_19 + 1 → ∃ m31 : Nat, m31 < n31 ∧ I31 m31 σ26 x3_28)))) ∧ ∃ n31 : Nat, I31 n31 σ17 ((0 : Int32)))) ∧ ∃ n2 : Nat, I2 n2 σ ((0 : Int32))
set_option maxHeartbeats 4000000 in
set_option maxRecDepth 100000 in
theorem wX6_reckon {p : Program} {l : Launch} {e : Env} {s : State} {m : MethodId} {args : Array Value} {below : List Frame} {meth : Method} {c : Code} {D : va_G} {cA : Nat → ClassId} {z0 : Nat} (hX : Cx p m c cX6_reckon 4 s args RX6 D cA) (hlk : meth.locks = false) (hr : meth.sig.returnType = none) {σ : Me} {a0 : Nat} {a1 : Nat} {Q : Me → Prop} (h : pX6_reckon σ a0 a1 Q) {H : Heap} {locs : List Loc} {ls : Array Slot} (hw : wS D cA z0 s σ H locs) (hl : lv_has ls 4 [(0, .ref a0), (1, .ref a1)]) : W p l e rX6_reckon s m args below meth c H locs 0 0 (MQ below (va_Qv Q (BM D cA z0) (AM z0)) args s 0 0 (AM z0)) (F0 m 0 ls []) := by
  have hx := hX.1.1
  have hb := hX.1.2.1
  have hown := hX.1.2.2.2.1
  have hts := hX.1.2.2.2.2
  unfold pX6_reckon at h
  refine lv_iconst (v := 0) hx hb dX6_reckon_0 (by decide) ?_
  refine lv_istore_n (lv' := [(2, _), (0, _), (1, _)]) hx hb dX6_reckon_1 rfl hl (by decide) rfl (fun ls hl => ?_)
  obtain ⟨I2, hI2, n2, h⟩ := h
  have key2 : ∀ (n2 : Nat) (σ1 : Me) (x2_2 : Int32) (H : Heap) (locs : List Loc) (ls : Array Slot), I2 n2 σ1 x2_2 → wS D cA z0 s σ1 H locs → lv_has ls 4 [(0, .ref a0), (1, .ref a1), (2, .int x2_2)] → W p l e rX6_reckon s m args below meth c H locs 0 0 (MQ below (va_Qv Q (BM D cA z0) (AM z0)) args s 0 0 (AM z0)) (F0 m 2 ls []) := by
    intro n2
    induction n2 using Nat.strongRecOn with
    | _ n2 ih2 =>
      intro σ1 x2_2 H locs ls h hw hl
      have h := hI2 _ _ _ h
      refine lv_iload_n hx hb dX6_reckon_2 rfl (lv_at hl 2 rfl) ?_
      refine lv_bipush (v := 25) hx hb dX6_reckon_3 (by decide) ?_
      refine lv_icmp_ge (tgt := 60) hx hb dX6_reckon_5 (by decide) (fun hc4 => ?_) (fun hc4 => ?_)
      · have h := h.1 hc4
        exact m_vret hX hlk hr hw h dX6_reckon_60
      · have h := h.2 hc4
        refine lv_aload_n hx hb dX6_reckon_8 rfl (lv_at hl 0 rfl) ?_
        obtain ⟨hT5, h⟩ := h
        obtain ⟨b6, hb6, h⟩ := h
        refine m_get hX hw cl6 hT5 7 (by decide) k_94 (fun _ h => h) (v := .ref b6) (congrArg va_rf hb6) dX6_reckon_9 ?_
        refine lv_iload_n hx hb dX6_reckon_12 rfl (lv_at hl 2 rfl) ?_
        refine lv_iconst (v := 0) hx hb dX6_reckon_13 (by decide) ?_
        obtain ⟨hT7, h⟩ := h
        obtain ⟨hc8, h⟩ := h
        refine m_iast hX hw hT7 hc8 dX6_reckon_14 (fun H locs hw => ?_)
        let σ9 : Me := sI σ1 b6 x2_2.toNatClampNeg ((0 : Int32))
        have h := h σ9 rfl
        have hw : wS D cA z0 s σ9 H locs := hw
        refine lv_aload_n hx hb dX6_reckon_15 rfl (lv_at hl 0 rfl) ?_
        obtain ⟨b10, hb10, h⟩ := h
        refine m_get hX hw cl6 hT5 8 (by decide) k_95 (fun _ h => h) (v := .ref b10) (congrArg va_rf hb10) dX6_reckon_16 ?_
        refine lv_iload_n hx hb dX6_reckon_19 rfl (lv_at hl 2 rfl) ?_
        refine lv_iconst (v := 0) hx hb dX6_reckon_20 (by decide) ?_
        obtain ⟨hT11, h⟩ := h
        obtain ⟨hc12, h⟩ := h
        refine m_iast hX hw hT11 hc12 dX6_reckon_21 (fun H locs hw => ?_)
        let σ13 : Me := sI σ9 b10 x2_2.toNatClampNeg ((0 : Int32))
        have h := h σ13 rfl
        have hw : wS D cA z0 s σ13 H locs := hw
        refine lv_aload_n hx hb dX6_reckon_22 rfl (lv_at hl 0 rfl) ?_
        obtain ⟨b14, hb14, h⟩ := h
        refine m_get hX hw cl6 hT5 9 (by decide) k_96 (fun _ h => h) (v := .ref b14) (congrArg va_rf hb14) dX6_reckon_23 ?_
        refine lv_iload_n hx hb dX6_reckon_26 rfl (lv_at hl 2 rfl) ?_
        refine lv_iconst (v := 0) hx hb dX6_reckon_27 (by decide) ?_
        obtain ⟨hT15, h⟩ := h
        obtain ⟨hc16, h⟩ := h
        refine m_iast hX hw hT15 hc16 dX6_reckon_28 (fun H locs hw => ?_)
        let σ17 : Me := sI σ13 b14 x2_2.toNatClampNeg ((0 : Int32))
        have h := h σ17 rfl
        have hw : wS D cA z0 s σ17 H locs := hw
        refine lv_iconst (v := 0) hx hb dX6_reckon_29 (by decide) ?_
        refine lv_istore_n (lv' := [(3, _), (0, _), (1, _), (2, _)]) hx hb dX6_reckon_30 rfl hl (by decide) rfl (fun ls hl => ?_)
        obtain ⟨I31, hI31, n31, h⟩ := h
        have key31 : ∀ (n31 : Nat) (σ18 : Me) (x3_19 : Int32) (H : Heap) (locs : List Loc) (ls : Array Slot), I31 n31 σ18 x3_19 → wS D cA z0 s σ18 H locs → lv_has ls 4 [(0, .ref a0), (1, .ref a1), (2, .int x2_2), (3, .int x3_19)] → W p l e rX6_reckon s m args below meth c H locs 0 0 (MQ below (va_Qv Q (BM D cA z0) (AM z0)) args s 0 0 (AM z0)) (F0 m 31 ls []) := by
          intro n31
          induction n31 using Nat.strongRecOn with
          | _ n31 ih31 =>
            intro σ18 x3_19 H locs ls h hw hl
            have h := hI31 _ _ _ h
            refine lv_iload_n hx hb dX6_reckon_31 rfl (lv_at hl 3 rfl) ?_
            refine lv_bipush (v := 7) hx hb dX6_reckon_32 (by decide) ?_
            refine lv_icmp_ge (tgt := 54) hx hb dX6_reckon_34 (by decide) (fun hc20 => ?_) (fun hc20 => ?_)
            · have h := h.1 hc20
              obtain ⟨x2_21, e_x2_21⟩ : ∃ y : Int32, y = x2_2 + 1 := ⟨_, rfl⟩
              have h := h x2_21 e_x2_21
              refine lv_iinc (v := x2_21) (lv' := [(2, _), (0, _), (1, _), (3, _)]) hx hb dX6_reckon_54 hl (k := 2) rfl (by rw [e_x2_21]; rfl) (by decide) rfl (fun ls hl => ?_)
              refine lv_goto (tgt := 2) hx hb dX6_reckon_57 (by decide) ?_
              obtain ⟨m2, hm2, h⟩ := h
              exact ih2 m2 hm2 _ _ _ _ _ h hw (lv_sub hl [1, 2, 0] rfl)
            · have h := h.2 hc20
              refine lv_aload_n hx hb dX6_reckon_37 rfl (lv_at hl 0 rfl) ?_
              refine lv_iload_n hx hb dX6_reckon_38 rfl (lv_at hl 2 rfl) ?_
              refine lv_iload_n hx hb dX6_reckon_39 rfl (lv_at hl 3 rfl) ?_
              refine lv_aload_n hx hb dX6_reckon_40 rfl (lv_at hl 1 rfl) ?_
              refine lv_iload_n hx hb dX6_reckon_41 rfl (lv_at hl 3 rfl) ?_
              obtain ⟨hT24, h⟩ := h
              refine m_ci (m_runV (rest := [_, _, _]) hX hw (tX1_weightOf h) mtX1_weightOf k_588 ⟨k_589, k_590⟩ cl1 hT24 ⟨⟨rfl, rfl, Nat.le_of_ble_eq_true rfl, Nat.le_of_ble_eq_true rfl⟩, Nat.le_of_ble_eq_true rfl, Nat.le_of_ble_eq_true rfl⟩ rfl hl.1 rfl (Nat.le_of_ble_eq_true rfl) dX6_reckon_42) hw (fun r22 σ23 H locs h hw => ?_)
              obtain ⟨hT27, h⟩ := h
              refine m_cv (m_runV (rest := []) hX hw (tX6_reckonDemand h) mtX6_reckonDemand k_592 ⟨k_594, k_4⟩ cl6 hT27 ⟨⟨rfl, rfl, Nat.le_of_ble_eq_true rfl, Nat.le_of_ble_eq_true rfl⟩, Nat.le_of_ble_eq_true rfl, Nat.le_of_ble_eq_true rfl⟩ rfl hl.1 rfl (Nat.le_of_ble_eq_true rfl) dX6_reckon_45) hw (fun σ26 H locs h hw => ?_)
              obtain ⟨x3_28, e_x3_28⟩ : ∃ y : Int32, y = x3_19 + 1 := ⟨_, rfl⟩
              have h := h x3_28 e_x3_28
              refine lv_iinc (v := x3_28) (lv' := [(3, _), (0, _), (1, _), (2, _)]) hx hb dX6_reckon_48 hl (k := 3) rfl (by rw [e_x3_28]; rfl) (by decide) rfl (fun ls hl => ?_)
              refine lv_goto (tgt := 31) hx hb dX6_reckon_51 (by decide) ?_
              obtain ⟨m31, hm31, h⟩ := h
              exact ih31 m31 hm31 _ _ _ _ _ h hw (lv_sub hl [1, 2, 3, 0] rfl)
        exact key31 _ _ _ _ _ _ h hw (lv_sub hl [1, 2, 3, 0] rfl)
  exact key2 _ _ _ _ _ _ h hw (lv_sub hl [1, 2, 0] rfl)
theorem mtX6_reckon : Mth yX6_reckon cX6_reckon 4 none 1 := ⟨k_587, k_44, by decide +kernel⟩
theorem tX6_reckon {l : Launch} {D : va_G} {cA : Nat → ClassId} {z0 : Nat} {σ : Me} {a0 : Nat} {a1 : Nat} {Q : Me → Prop} (h : pX6_reckon σ a0 a1 Q) : Met l yX6_reckon (Cond.code yX6_reckon cX6_reckon 4 none :: gTab) rX6_reckon (PcM D cA z0 σ [.ref a0, .ref a1]) (va_Qv Q (BM D cA z0) (AM z0)) 0 0 (AM z0) :=
  met_of (by decide) (Nat.le_of_ble_eq_true rfl) (fun hX hlk hr hn hw hl => wX6_reckon hX hlk hr h hw hl)
abbrev rX6_priceFrom : Room := { frames := 1, cells := 0, slots := 0, locals := 20 }
def pX6_priceFrom (σ : Me) (a0 : Nat) (x1 : Int32) (Q : Int32 → Me → Prop) : Prop := pX6_isHand σ x1 (fun r1 σ2 => (r1 = 0 → Q ((0 : Int32)) σ2) ∧ (¬ r1 = 0 → gT σ2 a0 = 6 ∧ ∃ b6 : Nat, gP σ2 a0 7 = some b6 ∧ gT σ2 b6 = 20 ∧ vp_in (x1 - ((-12 : Int32))) (gN σ2 b6) ∧ Q (gI σ2 b6 (x1 - ((-12 : Int32))).toNatClampNeg) σ2))
set_option maxHeartbeats 4000000 in
set_option maxRecDepth 100000 in
theorem wX6_priceFrom {p : Program} {l : Launch} {e : Env} {s : State} {m : MethodId} {args : Array Value} {below : List Frame} {meth : Method} {c : Code} {D : va_G} {cA : Nat → ClassId} {z0 : Nat} (hX : Cx p m c cX6_priceFrom 2 s args RX6 D cA) (hlk : meth.locks = false) (hr : meth.sig.returnType = (some .int)) {σ : Me} {a0 : Nat} {x1 : Int32} {Q : Int32 → Me → Prop} (h : pX6_priceFrom σ a0 x1 Q) {H : Heap} {locs : List Loc} {ls : Array Slot} (hw : wS D cA z0 s σ H locs) (hl : lv_has ls 2 [(0, .ref a0), (1, .int x1)]) : W p l e rX6_priceFrom s m args below meth c H locs 0 0 (MQ below (va_Qi Q (BM D cA z0) (AM z0)) args s 0 0 (AM z0)) (F0 m 0 ls []) := by
  have hx := hX.1.1
  have hb := hX.1.2.1
  have hown := hX.1.2.2.2.1
  have hts := hX.1.2.2.2.2
  unfold pX6_priceFrom at h
  refine lv_iload_n hx hb dX6_priceFrom_0 rfl (lv_at hl 1 rfl) ?_
  refine m_ci (m_runS (rest := []) hX hw (tX6_isHand h) mtX6_isHand k_674 k_675 ⟨⟨rfl, rfl, Nat.le_of_ble_eq_true rfl, Nat.le_of_ble_eq_true rfl⟩, Nat.le_of_ble_eq_true rfl, Nat.le_of_ble_eq_true rfl⟩ rfl hl.1 rfl (Nat.le_of_ble_eq_true rfl) dX6_priceFrom_1) hw (fun r1 σ2 H locs h hw => ?_)
  refine lv_if_eq (tgt := 19) hx hb dX6_priceFrom_4 (by decide) (fun hc4 => ?_) (fun hc4 => ?_)
  · have h := h.1 hc4
    refine lv_iconst (v := 0) hx hb dX6_priceFrom_19 (by decide) ?_
    exact m_iret hX hlk hr hw h dX6_priceFrom_20
  · have h := h.2 hc4
    refine lv_aload_n hx hb dX6_priceFrom_7 rfl (lv_at hl 0 rfl) ?_
    obtain ⟨hT5, h⟩ := h
    obtain ⟨b6, hb6, h⟩ := h
    refine m_get hX hw cl6 hT5 7 (by decide) k_94 (fun _ h => h) (v := .ref b6) (congrArg va_rf hb6) dX6_priceFrom_8 ?_
    refine lv_iload_n hx hb dX6_priceFrom_11 rfl (lv_at hl 1 rfl) ?_
    refine lv_bipush (v := (-12)) hx hb dX6_priceFrom_12 (by decide) ?_
    refine lv_isub hx hb dX6_priceFrom_14 ?_
    obtain ⟨hT7, h⟩ := h
    obtain ⟨hc8, h⟩ := h
    refine m_iald hX hw hT7 hc8 dX6_priceFrom_15 ?_
    refine lv_goto (tgt := 20) hx hb dX6_priceFrom_16 (by decide) ?_
    exact m_iret hX hlk hr hw h dX6_priceFrom_20
theorem mtX6_priceFrom : Mth yX6_priceFrom cX6_priceFrom 2 (some .int) 1 := ⟨k_673, k_44, by decide +kernel⟩
theorem tX6_priceFrom {l : Launch} {D : va_G} {cA : Nat → ClassId} {z0 : Nat} {σ : Me} {a0 : Nat} {x1 : Int32} {Q : Int32 → Me → Prop} (h : pX6_priceFrom σ a0 x1 Q) : Met l yX6_priceFrom (Cond.code yX6_priceFrom cX6_priceFrom 2 (some .int) :: gTab) rX6_priceFrom (PcM D cA z0 σ [.ref a0, .int x1]) (va_Qi Q (BM D cA z0) (AM z0)) 0 0 (AM z0) :=
  met_of (by decide) (Nat.le_of_ble_eq_true rfl) (fun hX hlk hr hn hw hl => wX6_priceFrom hX hlk hr h hw hl)
abbrev rX6_metFrom : Room := { frames := 1, cells := 0, slots := 0, locals := 20 }
def pX6_metFrom (σ : Me) (a0 : Nat) (x1 : Int32) (Q : Int32 → Me → Prop) : Prop := pX6_isHand σ x1 (fun r1 σ2 => (r1 = 0 → Q ((0 : Int32)) σ2) ∧ (¬ r1 = 0 → gT σ2 a0 = 6 ∧ ∃ b6 : Nat, gP σ2 a0 8 = some b6 ∧ gT σ2 b6 = 20 ∧ vp_in (x1 - ((-12 : Int32))) (gN σ2 b6) ∧ Q (gI σ2 b6 (x1 - ((-12 : Int32))).toNatClampNeg) σ2))
set_option maxHeartbeats 4000000 in
set_option maxRecDepth 100000 in
theorem wX6_metFrom {p : Program} {l : Launch} {e : Env} {s : State} {m : MethodId} {args : Array Value} {below : List Frame} {meth : Method} {c : Code} {D : va_G} {cA : Nat → ClassId} {z0 : Nat} (hX : Cx p m c cX6_metFrom 2 s args RX6 D cA) (hlk : meth.locks = false) (hr : meth.sig.returnType = (some .int)) {σ : Me} {a0 : Nat} {x1 : Int32} {Q : Int32 → Me → Prop} (h : pX6_metFrom σ a0 x1 Q) {H : Heap} {locs : List Loc} {ls : Array Slot} (hw : wS D cA z0 s σ H locs) (hl : lv_has ls 2 [(0, .ref a0), (1, .int x1)]) : W p l e rX6_metFrom s m args below meth c H locs 0 0 (MQ below (va_Qi Q (BM D cA z0) (AM z0)) args s 0 0 (AM z0)) (F0 m 0 ls []) := by
  have hx := hX.1.1
  have hb := hX.1.2.1
  have hown := hX.1.2.2.2.1
  have hts := hX.1.2.2.2.2
  unfold pX6_metFrom at h
  refine lv_iload_n hx hb dX6_metFrom_0 rfl (lv_at hl 1 rfl) ?_
  refine m_ci (m_runS (rest := []) hX hw (tX6_isHand h) mtX6_isHand k_674 k_675 ⟨⟨rfl, rfl, Nat.le_of_ble_eq_true rfl, Nat.le_of_ble_eq_true rfl⟩, Nat.le_of_ble_eq_true rfl, Nat.le_of_ble_eq_true rfl⟩ rfl hl.1 rfl (Nat.le_of_ble_eq_true rfl) dX6_metFrom_1) hw (fun r1 σ2 H locs h hw => ?_)
  refine lv_if_eq (tgt := 19) hx hb dX6_metFrom_4 (by decide) (fun hc4 => ?_) (fun hc4 => ?_)
  · have h := h.1 hc4
    refine lv_iconst (v := 0) hx hb dX6_metFrom_19 (by decide) ?_
    exact m_iret hX hlk hr hw h dX6_metFrom_20
  · have h := h.2 hc4
    refine lv_aload_n hx hb dX6_metFrom_7 rfl (lv_at hl 0 rfl) ?_
    obtain ⟨hT5, h⟩ := h
    obtain ⟨b6, hb6, h⟩ := h
    refine m_get hX hw cl6 hT5 8 (by decide) k_95 (fun _ h => h) (v := .ref b6) (congrArg va_rf hb6) dX6_metFrom_8 ?_
    refine lv_iload_n hx hb dX6_metFrom_11 rfl (lv_at hl 1 rfl) ?_
    refine lv_bipush (v := (-12)) hx hb dX6_metFrom_12 (by decide) ?_
    refine lv_isub hx hb dX6_metFrom_14 ?_
    obtain ⟨hT7, h⟩ := h
    obtain ⟨hc8, h⟩ := h
    refine m_iald hX hw hT7 hc8 dX6_metFrom_15 ?_
    refine lv_goto (tgt := 20) hx hb dX6_metFrom_16 (by decide) ?_
    exact m_iret hX hlk hr hw h dX6_metFrom_20
theorem mtX6_metFrom : Mth yX6_metFrom cX6_metFrom 2 (some .int) 1 := ⟨k_680, k_44, by decide +kernel⟩
theorem tX6_metFrom {l : Launch} {D : va_G} {cA : Nat → ClassId} {z0 : Nat} {σ : Me} {a0 : Nat} {x1 : Int32} {Q : Int32 → Me → Prop} (h : pX6_metFrom σ a0 x1 Q) : Met l yX6_metFrom (Cond.code yX6_metFrom cX6_metFrom 2 (some .int) :: gTab) rX6_metFrom (PcM D cA z0 σ [.ref a0, .int x1]) (va_Qi Q (BM D cA z0) (AM z0)) 0 0 (AM z0) :=
  met_of (by decide) (Nat.le_of_ble_eq_true rfl) (fun hX hlk hr hn hw hl => wX6_metFrom hX hlk hr h hw hl)
abbrev rX6_inHandFrom : Room := { frames := 1, cells := 0, slots := 0, locals := 20 }
def pX6_inHandFrom (σ : Me) (a0 : Nat) (x1 : Int32) (Q : Int32 → Me → Prop) : Prop := pX6_isHand σ x1 (fun r1 σ2 => (r1 = 0 → Q ((0 : Int32)) σ2) ∧ (¬ r1 = 0 → gT σ2 a0 = 6 ∧ ∃ b6 : Nat, gP σ2 a0 9 = some b6 ∧ gT σ2 b6 = 20 ∧ vp_in (x1 - ((-12 : Int32))) (gN σ2 b6) ∧ Q (gI σ2 b6 (x1 - ((-12 : Int32))).toNatClampNeg) σ2))
set_option maxHeartbeats 4000000 in
set_option maxRecDepth 100000 in
theorem wX6_inHandFrom {p : Program} {l : Launch} {e : Env} {s : State} {m : MethodId} {args : Array Value} {below : List Frame} {meth : Method} {c : Code} {D : va_G} {cA : Nat → ClassId} {z0 : Nat} (hX : Cx p m c cX6_inHandFrom 2 s args RX6 D cA) (hlk : meth.locks = false) (hr : meth.sig.returnType = (some .int)) {σ : Me} {a0 : Nat} {x1 : Int32} {Q : Int32 → Me → Prop} (h : pX6_inHandFrom σ a0 x1 Q) {H : Heap} {locs : List Loc} {ls : Array Slot} (hw : wS D cA z0 s σ H locs) (hl : lv_has ls 2 [(0, .ref a0), (1, .int x1)]) : W p l e rX6_inHandFrom s m args below meth c H locs 0 0 (MQ below (va_Qi Q (BM D cA z0) (AM z0)) args s 0 0 (AM z0)) (F0 m 0 ls []) := by
  have hx := hX.1.1
  have hb := hX.1.2.1
  have hown := hX.1.2.2.2.1
  have hts := hX.1.2.2.2.2
  unfold pX6_inHandFrom at h
  refine lv_iload_n hx hb dX6_inHandFrom_0 rfl (lv_at hl 1 rfl) ?_
  refine m_ci (m_runS (rest := []) hX hw (tX6_isHand h) mtX6_isHand k_674 k_675 ⟨⟨rfl, rfl, Nat.le_of_ble_eq_true rfl, Nat.le_of_ble_eq_true rfl⟩, Nat.le_of_ble_eq_true rfl, Nat.le_of_ble_eq_true rfl⟩ rfl hl.1 rfl (Nat.le_of_ble_eq_true rfl) dX6_inHandFrom_1) hw (fun r1 σ2 H locs h hw => ?_)
  refine lv_if_eq (tgt := 19) hx hb dX6_inHandFrom_4 (by decide) (fun hc4 => ?_) (fun hc4 => ?_)
  · have h := h.1 hc4
    refine lv_iconst (v := 0) hx hb dX6_inHandFrom_19 (by decide) ?_
    exact m_iret hX hlk hr hw h dX6_inHandFrom_20
  · have h := h.2 hc4
    refine lv_aload_n hx hb dX6_inHandFrom_7 rfl (lv_at hl 0 rfl) ?_
    obtain ⟨hT5, h⟩ := h
    obtain ⟨b6, hb6, h⟩ := h
    refine m_get hX hw cl6 hT5 9 (by decide) k_96 (fun _ h => h) (v := .ref b6) (congrArg va_rf hb6) dX6_inHandFrom_8 ?_
    refine lv_iload_n hx hb dX6_inHandFrom_11 rfl (lv_at hl 1 rfl) ?_
    refine lv_bipush (v := (-12)) hx hb dX6_inHandFrom_12 (by decide) ?_
    refine lv_isub hx hb dX6_inHandFrom_14 ?_
    obtain ⟨hT7, h⟩ := h
    obtain ⟨hc8, h⟩ := h
    refine m_iald hX hw hT7 hc8 dX6_inHandFrom_15 ?_
    refine lv_goto (tgt := 20) hx hb dX6_inHandFrom_16 (by decide) ?_
    exact m_iret hX hlk hr hw h dX6_inHandFrom_20
theorem mtX6_inHandFrom : Mth yX6_inHandFrom cX6_inHandFrom 2 (some .int) 1 := ⟨k_684, k_44, by decide +kernel⟩
theorem tX6_inHandFrom {l : Launch} {D : va_G} {cA : Nat → ClassId} {z0 : Nat} {σ : Me} {a0 : Nat} {x1 : Int32} {Q : Int32 → Me → Prop} (h : pX6_inHandFrom σ a0 x1 Q) : Met l yX6_inHandFrom (Cond.code yX6_inHandFrom cX6_inHandFrom 2 (some .int) :: gTab) rX6_inHandFrom (PcM D cA z0 σ [.ref a0, .int x1]) (va_Qi Q (BM D cA z0) (AM z0)) 0 0 (AM z0) :=
  met_of (by decide) (Nat.le_of_ble_eq_true rfl) (fun hX hlk hr hn hw hl => wX6_inHandFrom hX hlk hr h hw hl)
abbrev rX8_placeAt : Room := { frames := 1, cells := 0, slots := 0, locals := 20 }
def pX8_placeAt (σ : Me) (a0 : Nat) (x1 : Int32) (Q : Int32 → Me → Prop) : Prop := pX8_isPlace σ x1 (fun r1 σ2 => (r1 = 0 → Q ((0 : Int32)) σ2) ∧ (¬ r1 = 0 → gT σ2 a0 = 8 ∧ ∃ b6 : Nat, gP σ2 a0 2 = some b6 ∧ gT σ2 b6 = 20 ∧ vp_in x1 (gN σ2 b6) ∧ Q (gI σ2 b6 x1.toNatClampNeg) σ2))
set_option maxHeartbeats 4000000 in
set_option maxRecDepth 100000 in
theorem wX8_placeAt {p : Program} {l : Launch} {e : Env} {s : State} {m : MethodId} {args : Array Value} {below : List Frame} {meth : Method} {c : Code} {D : va_G} {cA : Nat → ClassId} {z0 : Nat} (hX : Cx p m c cX8_placeAt 2 s args RX8 D cA) (hlk : meth.locks = false) (hr : meth.sig.returnType = (some .int)) {σ : Me} {a0 : Nat} {x1 : Int32} {Q : Int32 → Me → Prop} (h : pX8_placeAt σ a0 x1 Q) {H : Heap} {locs : List Loc} {ls : Array Slot} (hw : wS D cA z0 s σ H locs) (hl : lv_has ls 2 [(0, .ref a0), (1, .int x1)]) : W p l e rX8_placeAt s m args below meth c H locs 0 0 (MQ below (va_Qi Q (BM D cA z0) (AM z0)) args s 0 0 (AM z0)) (F0 m 0 ls []) := by
  have hx := hX.1.1
  have hb := hX.1.2.1
  have hown := hX.1.2.2.2.1
  have hts := hX.1.2.2.2.2
  unfold pX8_placeAt at h
  refine lv_iload_n hx hb dX8_placeAt_0 rfl (lv_at hl 1 rfl) ?_
  refine m_ci (m_runS (rest := []) hX hw (tX8_isPlace h) mtX8_isPlace k_636 k_637 ⟨⟨rfl, rfl, Nat.le_of_ble_eq_true rfl, Nat.le_of_ble_eq_true rfl⟩, Nat.le_of_ble_eq_true rfl, Nat.le_of_ble_eq_true rfl⟩ rfl hl.1 rfl (Nat.le_of_ble_eq_true rfl) dX8_placeAt_1) hw (fun r1 σ2 H locs h hw => ?_)
  refine lv_if_eq (tgt := 16) hx hb dX8_placeAt_4 (by decide) (fun hc4 => ?_) (fun hc4 => ?_)
  · have h := h.1 hc4
    refine lv_iconst (v := 0) hx hb dX8_placeAt_16 (by decide) ?_
    exact m_iret hX hlk hr hw h dX8_placeAt_17
  · have h := h.2 hc4
    refine lv_aload_n hx hb dX8_placeAt_7 rfl (lv_at hl 0 rfl) ?_
    obtain ⟨hT5, h⟩ := h
    obtain ⟨b6, hb6, h⟩ := h
    refine m_get hX hw cl8 hT5 2 (by decide) k_142 (fun _ h => h) (v := .ref b6) (congrArg va_rf hb6) dX8_placeAt_8 ?_
    refine lv_iload_n hx hb dX8_placeAt_11 rfl (lv_at hl 1 rfl) ?_
    obtain ⟨hT7, h⟩ := h
    obtain ⟨hc8, h⟩ := h
    refine m_iald hX hw hT7 hc8 dX8_placeAt_12 ?_
    refine lv_goto (tgt := 17) hx hb dX8_placeAt_13 (by decide) ?_
    exact m_iret hX hlk hr hw h dX8_placeAt_17
theorem mtX8_placeAt : Mth yX8_placeAt cX8_placeAt 2 (some .int) 1 := ⟨k_635, k_46, by decide +kernel⟩
theorem tX8_placeAt {l : Launch} {D : va_G} {cA : Nat → ClassId} {z0 : Nat} {σ : Me} {a0 : Nat} {x1 : Int32} {Q : Int32 → Me → Prop} (h : pX8_placeAt σ a0 x1 Q) : Met l yX8_placeAt (Cond.code yX8_placeAt cX8_placeAt 2 (some .int) :: gTab) rX8_placeAt (PcM D cA z0 σ [.ref a0, .int x1]) (va_Qi Q (BM D cA z0) (AM z0)) 0 0 (AM z0) :=
  met_of (by decide) (Nat.le_of_ble_eq_true rfl) (fun hX hlk hr hn hw hl => wX8_placeAt hX hlk hr h hw hl)
abbrev rX8_weightAt : Room := { frames := 1, cells := 0, slots := 0, locals := 20 }
def pX8_weightAt (σ : Me) (a0 : Nat) (x1 : Int32) (Q : Int64 → Me → Prop) : Prop := pX8_isPlace σ x1 (fun r1 σ2 => (r1 = 0 → Q ((0 : Int64)) σ2) ∧ (¬ r1 = 0 → gT σ2 a0 = 8 ∧ ∃ b6 : Nat, gP σ2 a0 0 = some b6 ∧ gT σ2 b6 = 21 ∧ vp_in x1 (gN σ2 b6) ∧ Q (gL σ2 b6 x1.toNatClampNeg) σ2))
set_option maxHeartbeats 4000000 in
set_option maxRecDepth 100000 in
theorem wX8_weightAt {p : Program} {l : Launch} {e : Env} {s : State} {m : MethodId} {args : Array Value} {below : List Frame} {meth : Method} {c : Code} {D : va_G} {cA : Nat → ClassId} {z0 : Nat} (hX : Cx p m c cX8_weightAt 2 s args RX8 D cA) (hlk : meth.locks = false) (hr : meth.sig.returnType = (some .long)) {σ : Me} {a0 : Nat} {x1 : Int32} {Q : Int64 → Me → Prop} (h : pX8_weightAt σ a0 x1 Q) {H : Heap} {locs : List Loc} {ls : Array Slot} (hw : wS D cA z0 s σ H locs) (hl : lv_has ls 2 [(0, .ref a0), (1, .int x1)]) : W p l e rX8_weightAt s m args below meth c H locs 0 0 (MQ below (va_Ql Q (BM D cA z0) (AM z0)) args s 0 0 (AM z0)) (F0 m 0 ls []) := by
  have hx := hX.1.1
  have hb := hX.1.2.1
  have hown := hX.1.2.2.2.1
  have hts := hX.1.2.2.2.2
  unfold pX8_weightAt at h
  refine lv_iload_n hx hb dX8_weightAt_0 rfl (lv_at hl 1 rfl) ?_
  refine m_ci (m_runS (rest := []) hX hw (tX8_isPlace h) mtX8_isPlace k_636 k_637 ⟨⟨rfl, rfl, Nat.le_of_ble_eq_true rfl, Nat.le_of_ble_eq_true rfl⟩, Nat.le_of_ble_eq_true rfl, Nat.le_of_ble_eq_true rfl⟩ rfl hl.1 rfl (Nat.le_of_ble_eq_true rfl) dX8_weightAt_1) hw (fun r1 σ2 H locs h hw => ?_)
  refine lv_if_eq (tgt := 16) hx hb dX8_weightAt_4 (by decide) (fun hc4 => ?_) (fun hc4 => ?_)
  · have h := h.1 hc4
    refine lv_lconst (v := 0) hx hb dX8_weightAt_16 (by decide) ?_
    exact m_lret hX hlk hr hw h dX8_weightAt_17
  · have h := h.2 hc4
    refine lv_aload_n hx hb dX8_weightAt_7 rfl (lv_at hl 0 rfl) ?_
    obtain ⟨hT5, h⟩ := h
    obtain ⟨b6, hb6, h⟩ := h
    refine m_get hX hw cl8 hT5 0 (by decide) k_140 (fun _ h => h) (v := .ref b6) (congrArg va_rf hb6) dX8_weightAt_8 ?_
    refine lv_iload_n hx hb dX8_weightAt_11 rfl (lv_at hl 1 rfl) ?_
    obtain ⟨hT7, h⟩ := h
    obtain ⟨hc8, h⟩ := h
    refine m_lald hX hw hT7 hc8 dX8_weightAt_12 ?_
    refine lv_goto (tgt := 17) hx hb dX8_weightAt_13 (by decide) ?_
    exact m_lret hX hlk hr hw h dX8_weightAt_17
theorem mtX8_weightAt : Mth yX8_weightAt cX8_weightAt 2 (some .long) 1 := ⟨k_665, k_46, by decide +kernel⟩
theorem tX8_weightAt {l : Launch} {D : va_G} {cA : Nat → ClassId} {z0 : Nat} {σ : Me} {a0 : Nat} {x1 : Int32} {Q : Int64 → Me → Prop} (h : pX8_weightAt σ a0 x1 Q) : Met l yX8_weightAt (Cond.code yX8_weightAt cX8_weightAt 2 (some .long) :: gTab) rX8_weightAt (PcM D cA z0 σ [.ref a0, .int x1]) (va_Ql Q (BM D cA z0) (AM z0)) 0 0 (AM z0) :=
  met_of (by decide) (Nat.le_of_ble_eq_true rfl) (fun hX hlk hr hn hw hl => wX8_weightAt hX hlk hr h hw hl)
abbrev rX8_weightOfAll : Room := { frames := 2, cells := 0, slots := 0, locals := 41 }
def pX8_weightOfAll (σ : Me) (a0 : Nat) (Q : Int64 → Me → Prop) : Prop := ∃ I4 : Nat → Me → Int64 → Int32 → Prop, (∀ (n4 : Nat) (σ1 : Me) (x1_2 : Int64) (x3_3 : Int32), I4 n4 σ1 x1_2 x3_3 → gT σ1 a0 = 8 ∧ ((gI σ1 a0 4) ≤ x3_3 → Q x1_2 σ1) ∧ (¬ (gI σ1 a0 4) ≤ x3_3 → pX8_placeAt σ1 a0 x3_3 (fun r6 σ7 => gT σ7 a0 = 8 ∧ pX8_weightAt σ7 a0 r6 (fun r8 σ9 => ∀ x1_11 : Int64, x1_11 = (x1_2 + r8) → ∀ x3_12 : Int32, x3_12 = x3_3 + 1 → ∃ m4 : Nat, m4 < n4 ∧ I4 m4 σ9 x1_11 x3_12)))) ∧ ∃ n4 : Nat, I4 n4 σ ((0 : Int64)) ((0 : Int32))
set_option maxHeartbeats 4000000 in
set_option maxRecDepth 100000 in
theorem wX8_weightOfAll {p : Program} {l : Launch} {e : Env} {s : State} {m : MethodId} {args : Array Value} {below : List Frame} {meth : Method} {c : Code} {D : va_G} {cA : Nat → ClassId} {z0 : Nat} (hX : Cx p m c cX8_weightOfAll 4 s args RX8 D cA) (hlk : meth.locks = false) (hr : meth.sig.returnType = (some .long)) {σ : Me} {a0 : Nat} {Q : Int64 → Me → Prop} (h : pX8_weightOfAll σ a0 Q) {H : Heap} {locs : List Loc} {ls : Array Slot} (hw : wS D cA z0 s σ H locs) (hl : lv_has ls 4 [(0, .ref a0)]) : W p l e rX8_weightOfAll s m args below meth c H locs 0 0 (MQ below (va_Ql Q (BM D cA z0) (AM z0)) args s 0 0 (AM z0)) (F0 m 0 ls []) := by
  have hx := hX.1.1
  have hb := hX.1.2.1
  have hown := hX.1.2.2.2.1
  have hts := hX.1.2.2.2.2
  unfold pX8_weightOfAll at h
  refine lv_lconst (v := 0) hx hb dX8_weightOfAll_0 (by decide) ?_
  refine lv_lstore_n (lv' := [(1, _), (0, _)]) hx hb dX8_weightOfAll_1 rfl hl (by decide) rfl (fun ls hl => ?_)
  refine lv_iconst (v := 0) hx hb dX8_weightOfAll_2 (by decide) ?_
  refine lv_istore_n (lv' := [(3, _), (1, _), (0, _)]) hx hb dX8_weightOfAll_3 rfl hl (by decide) rfl (fun ls hl => ?_)
  obtain ⟨I4, hI4, n4, h⟩ := h
  have key4 : ∀ (n4 : Nat) (σ1 : Me) (x1_2 : Int64) (x3_3 : Int32) (H : Heap) (locs : List Loc) (ls : Array Slot), I4 n4 σ1 x1_2 x3_3 → wS D cA z0 s σ1 H locs → lv_has ls 4 [(0, .ref a0), (1, .long x1_2), (3, .int x3_3)] → W p l e rX8_weightOfAll s m args below meth c H locs 0 0 (MQ below (va_Ql Q (BM D cA z0) (AM z0)) args s 0 0 (AM z0)) (F0 m 4 ls []) := by
    intro n4
    induction n4 using Nat.strongRecOn with
    | _ n4 ih4 =>
      intro σ1 x1_2 x3_3 H locs ls h hw hl
      have h := hI4 _ _ _ _ h
      refine lv_iload_n hx hb dX8_weightOfAll_4 rfl (lv_at hl 2 rfl) ?_
      refine lv_aload_n hx hb dX8_weightOfAll_5 rfl (lv_at hl 0 rfl) ?_
      obtain ⟨hT4, h⟩ := h
      refine m_get hX hw cl8 hT4 4 (by decide) k_144 (fun _ h => h) (v := .int _) rfl dX8_weightOfAll_6 ?_
      refine lv_icmp_ge (tgt := 30) hx hb dX8_weightOfAll_9 (by decide) (fun hc5 => ?_) (fun hc5 => ?_)
      · have h := h.1 hc5
        refine lv_lload_n hx hb dX8_weightOfAll_30 rfl (lv_at hl 1 rfl) ?_
        exact m_lret hX hlk hr hw h dX8_weightOfAll_31
      · have h := h.2 hc5
        refine lv_lload_n hx hb dX8_weightOfAll_12 rfl (lv_at hl 1 rfl) ?_
        refine lv_aload_n hx hb dX8_weightOfAll_13 rfl (lv_at hl 0 rfl) ?_
        refine lv_aload_n hx hb dX8_weightOfAll_14 rfl (lv_at hl 0 rfl) ?_
        refine lv_iload_n hx hb dX8_weightOfAll_15 rfl (lv_at hl 2 rfl) ?_
        refine m_ci (m_runV (rest := [_, _]) hX hw (tX8_placeAt h) mtX8_placeAt k_632 ⟨k_633, k_634⟩ cl8 hT4 ⟨⟨rfl, rfl, Nat.le_of_ble_eq_true rfl, Nat.le_of_ble_eq_true rfl⟩, Nat.le_of_ble_eq_true rfl, Nat.le_of_ble_eq_true rfl⟩ rfl hl.1 rfl (Nat.le_of_ble_eq_true rfl) dX8_weightOfAll_16) hw (fun r6 σ7 H locs h hw => ?_)
        obtain ⟨hT10, h⟩ := h
        refine m_cl (m_runV (rest := [_]) hX hw (tX8_weightAt h) mtX8_weightAt k_714 ⟨k_663, k_664⟩ cl8 hT10 ⟨⟨rfl, rfl, Nat.le_of_ble_eq_true rfl, Nat.le_of_ble_eq_true rfl⟩, Nat.le_of_ble_eq_true rfl, Nat.le_of_ble_eq_true rfl⟩ rfl hl.1 rfl (Nat.le_of_ble_eq_true rfl) dX8_weightOfAll_19) hw (fun r8 σ9 H locs h hw => ?_)
        refine lv_ladd hx hb dX8_weightOfAll_22 ?_
        refine lv_topl (fun x1_11 e_x1_11 => ?_)
        have h := h x1_11 e_x1_11
        refine lv_lstore_n (lv' := [(1, _), (0, _), (3, _)]) hx hb dX8_weightOfAll_23 rfl hl (by decide) rfl (fun ls hl => ?_)
        obtain ⟨x3_12, e_x3_12⟩ : ∃ y : Int32, y = x3_3 + 1 := ⟨_, rfl⟩
        have h := h x3_12 e_x3_12
        refine lv_iinc (v := x3_12) (lv' := [(3, _), (1, _), (0, _)]) hx hb dX8_weightOfAll_24 hl (k := 2) rfl (by rw [e_x3_12]; rfl) (by decide) rfl (fun ls hl => ?_)
        refine lv_goto (tgt := 4) hx hb dX8_weightOfAll_27 (by decide) ?_
        obtain ⟨m4, hm4, h⟩ := h
        exact ih4 m4 hm4 _ _ _ _ _ _ h hw (lv_sub hl [2, 1, 0] rfl)
  exact key4 _ _ _ _ _ _ _ h hw (lv_sub hl [2, 1, 0] rfl)
theorem mtX8_weightOfAll : Mth yX8_weightOfAll cX8_weightOfAll 4 (some .long) 0 := ⟨k_713, k_46, by decide +kernel⟩
theorem tX8_weightOfAll {l : Launch} {D : va_G} {cA : Nat → ClassId} {z0 : Nat} {σ : Me} {a0 : Nat} {Q : Int64 → Me → Prop} (h : pX8_weightOfAll σ a0 Q) : Met l yX8_weightOfAll (Cond.code yX8_weightOfAll cX8_weightOfAll 4 (some .long) :: gTab) rX8_weightOfAll (PcM D cA z0 σ [.ref a0]) (va_Ql Q (BM D cA z0) (AM z0)) 0 0 (AM z0) :=
  met_of (by decide) (Nat.le_of_ble_eq_true rfl) (fun hX hlk hr hn hw hl => wX8_weightOfAll hX hlk hr h hw hl)
abbrev rX9_wants : Room := { frames := 1, cells := 0, slots := 0, locals := 22 }
def pX9_wants (σ : Me) (a0 : Nat) (x1 : Int32) (Q : Int32 → Me → Prop) : Prop := ∀ x2_1 : Int32, x2_1 = (x1 - ((-12 : Int32))) → gT σ a0 = 9 ∧ ∃ b3 : Nat, gP σ a0 0 = some b3 ∧ gT σ b3 = 23 ∧ pX11_isWithin σ x2_1 ((0 : Int32)) ((nI (gN σ b3)) - ((1 : Int32))) (fun r5 σ6 => (r5 = 0 → Q ((0 : Int32)) σ6) ∧ (¬ r5 = 0 → gT σ6 a0 = 9 ∧ ∃ b10 : Nat, gP σ6 a0 0 = some b10 ∧ gT σ6 b10 = 23 ∧ vp_in x2_1 (gN σ6 b10) ∧ Q (gI σ6 b10 x2_1.toNatClampNeg) σ6))
set_option maxHeartbeats 4000000 in
set_option maxRecDepth 100000 in
theorem wX9_wants {p : Program} {l : Launch} {e : Env} {s : State} {m : MethodId} {args : Array Value} {below : List Frame} {meth : Method} {c : Code} {D : va_G} {cA : Nat → ClassId} {z0 : Nat} (hX : Cx p m c cX9_wants 3 s args RX9 D cA) (hlk : meth.locks = false) (hr : meth.sig.returnType = (some .int)) {σ : Me} {a0 : Nat} {x1 : Int32} {Q : Int32 → Me → Prop} (h : pX9_wants σ a0 x1 Q) {H : Heap} {locs : List Loc} {ls : Array Slot} (hw : wS D cA z0 s σ H locs) (hl : lv_has ls 3 [(0, .ref a0), (1, .int x1)]) : W p l e rX9_wants s m args below meth c H locs 0 0 (MQ below (va_Qi Q (BM D cA z0) (AM z0)) args s 0 0 (AM z0)) (F0 m 0 ls []) := by
  have hx := hX.1.1
  have hb := hX.1.2.1
  have hown := hX.1.2.2.2.1
  have hts := hX.1.2.2.2.2
  unfold pX9_wants at h
  refine lv_iload_n hx hb dX9_wants_0 rfl (lv_at hl 1 rfl) ?_
  refine lv_bipush (v := (-12)) hx hb dX9_wants_1 (by decide) ?_
  refine lv_isub hx hb dX9_wants_3 ?_
  refine lv_topi (fun x2_1 e_x2_1 => ?_)
  have h := h x2_1 e_x2_1
  refine lv_istore_n (lv' := [(2, _), (0, _), (1, _)]) hx hb dX9_wants_4 rfl hl (by decide) rfl (fun ls hl => ?_)
  refine lv_iload_n hx hb dX9_wants_5 rfl (lv_at hl 0 rfl) ?_
  refine lv_iconst (v := 0) hx hb dX9_wants_6 (by decide) ?_
  refine lv_aload_n hx hb dX9_wants_7 rfl (lv_at hl 1 rfl) ?_
  obtain ⟨hT2, h⟩ := h
  obtain ⟨b3, hb3, h⟩ := h
  refine m_get hX hw cl9 hT2 0 (by decide) k_393 (fun _ h => h) (v := .ref b3) (congrArg va_rf hb3) dX9_wants_8 ?_
  obtain ⟨hT4, h⟩ := h
  refine m_alen hX hw (t := 3) (by decide) hT4 dX9_wants_11 ?_
  refine lv_iconst (v := 1) hx hb dX9_wants_12 (by decide) ?_
  refine lv_isub hx hb dX9_wants_13 ?_
  refine m_ci (m_runSN (rest := []) hX hw (tX11_isWithin h) mtX11_isWithin (List.mem_of_getElem? (i := 6) rfl) k_312 ⟨⟨rfl, rfl, Nat.le_of_ble_eq_true rfl, Nat.le_of_ble_eq_true rfl⟩, Nat.le_of_ble_eq_true rfl, Nat.le_of_ble_eq_true rfl⟩ rfl hl.1 rfl (Nat.le_of_ble_eq_true rfl) dX9_wants_14) hw (fun r5 σ6 H locs h hw => ?_)
  refine lv_if_eq (tgt := 29) hx hb dX9_wants_17 (by decide) (fun hc8 => ?_) (fun hc8 => ?_)
  · have h := h.1 hc8
    refine lv_iconst (v := 0) hx hb dX9_wants_29 (by decide) ?_
    exact m_iret hX hlk hr hw h dX9_wants_30
  · have h := h.2 hc8
    refine lv_aload_n hx hb dX9_wants_20 rfl (lv_at hl 1 rfl) ?_
    obtain ⟨hT9, h⟩ := h
    obtain ⟨b10, hb10, h⟩ := h
    refine m_get hX hw cl9 hT9 0 (by decide) k_393 (fun _ h => h) (v := .ref b10) (congrArg va_rf hb10) dX9_wants_21 ?_
    refine lv_iload_n hx hb dX9_wants_24 rfl (lv_at hl 0 rfl) ?_
    obtain ⟨hT11, h⟩ := h
    obtain ⟨hc12, h⟩ := h
    refine m_bald hX hw hT11 hc12 dX9_wants_25 ?_
    refine lv_goto (tgt := 30) hx hb dX9_wants_26 (by decide) ?_
    exact m_iret hX hlk hr hw h dX9_wants_30
theorem mtX9_wants : Mth yX9_wants cX9_wants 3 (some .int) 1 := ⟨k_549, k_53, by decide +kernel⟩
theorem tX9_wants {l : Launch} {D : va_G} {cA : Nat → ClassId} {z0 : Nat} {σ : Me} {a0 : Nat} {x1 : Int32} {Q : Int32 → Me → Prop} (h : pX9_wants σ a0 x1 Q) : Met l yX9_wants (Cond.code yX9_wants cX9_wants 3 (some .int) :: gTab) rX9_wants (PcM D cA z0 σ [.ref a0, .int x1]) (va_Qi Q (BM D cA z0) (AM z0)) 0 0 (AM z0) :=
  met_of (by decide) (Nat.le_of_ble_eq_true rfl) (fun hX hlk hr hn hw hl => wX9_wants hX hlk hr h hw hl)
abbrev rX10_usePair : Room := { frames := 2, cells := 0, slots := 0, locals := 41 }
def pX10_usePair (σ : Me) (a0 : Nat) (x1 : Int32) (x2 : Int32) (Q : Me → Prop) : Prop := ∃ I2 : Nat → Me → Int32 → Prop, (∀ (n2 : Nat) (σ1 : Me) (x3_2 : Int32), I2 n2 σ1 x3_2 → gT σ1 a0 = 10 ∧ ∃ b4 : Nat, gP σ1 a0 2 = some b4 ∧ gT σ1 b4 = 20 ∧ ((nI (gN σ1 b4)) ≤ x3_2 → Q σ1) ∧ (¬ (nI (gN σ1 b4)) ≤ x3_2 → pX3_pairWants σ1 x1 x2 (x3_2 + ((-12 : Int32))) (fun r7 σ8 => pX11_cutOrder σ8 r7 (fun r9 σ10 => gT σ10 b4 = 20 ∧ vp_in x3_2 (gN σ10 b4) ∧ ∀ σ13 : Me, σ13 = sI σ10 b4 x3_2.toNatClampNeg r9 → ∀ x3_14 : Int32, x3_14 = x3_2 + 1 → ∃ m2 : Nat, m2 < n2 ∧ I2 m2 σ13 x3_14)))) ∧ ∃ n2 : Nat, I2 n2 σ ((0 : Int32))
set_option maxHeartbeats 4000000 in
set_option maxRecDepth 100000 in
theorem wX10_usePair {p : Program} {l : Launch} {e : Env} {s : State} {m : MethodId} {args : Array Value} {below : List Frame} {meth : Method} {c : Code} {D : va_G} {cA : Nat → ClassId} {z0 : Nat} (hX : Cx p m c cX10_usePair 4 s args RX10 D cA) (hlk : meth.locks = false) (hr : meth.sig.returnType = none) {σ : Me} {a0 : Nat} {x1 : Int32} {x2 : Int32} {Q : Me → Prop} (h : pX10_usePair σ a0 x1 x2 Q) {H : Heap} {locs : List Loc} {ls : Array Slot} (hw : wS D cA z0 s σ H locs) (hl : lv_has ls 4 [(0, .ref a0), (1, .int x1), (2, .int x2)]) : W p l e rX10_usePair s m args below meth c H locs 0 0 (MQ below (va_Qv Q (BM D cA z0) (AM z0)) args s 0 0 (AM z0)) (F0 m 0 ls []) := by
  have hx := hX.1.1
  have hb := hX.1.2.1
  have hown := hX.1.2.2.2.1
  have hts := hX.1.2.2.2.2
  unfold pX10_usePair at h
  refine lv_iconst (v := 0) hx hb dX10_usePair_0 (by decide) ?_
  refine lv_istore_n (lv' := [(3, _), (0, _), (1, _), (2, _)]) hx hb dX10_usePair_1 rfl hl (by decide) rfl (fun ls hl => ?_)
  obtain ⟨I2, hI2, n2, h⟩ := h
  have key2 : ∀ (n2 : Nat) (σ1 : Me) (x3_2 : Int32) (H : Heap) (locs : List Loc) (ls : Array Slot), I2 n2 σ1 x3_2 → wS D cA z0 s σ1 H locs → lv_has ls 4 [(0, .ref a0), (1, .int x1), (2, .int x2), (3, .int x3_2)] → W p l e rX10_usePair s m args below meth c H locs 0 0 (MQ below (va_Qv Q (BM D cA z0) (AM z0)) args s 0 0 (AM z0)) (F0 m 2 ls []) := by
    intro n2
    induction n2 using Nat.strongRecOn with
    | _ n2 ih2 =>
      intro σ1 x3_2 H locs ls h hw hl
      have h := hI2 _ _ _ h
      refine lv_iload_n hx hb dX10_usePair_2 rfl (lv_at hl 3 rfl) ?_
      refine lv_aload_n hx hb dX10_usePair_3 rfl (lv_at hl 0 rfl) ?_
      obtain ⟨hT3, h⟩ := h
      obtain ⟨b4, hb4, h⟩ := h
      refine m_get hX hw cl10 hT3 2 (by decide) k_168 (fun _ h => h) (v := .ref b4) (congrArg va_rf hb4) dX10_usePair_4 ?_
      obtain ⟨hT5, h⟩ := h
      refine m_alen hX hw (t := 0) (by decide) hT5 dX10_usePair_7 ?_
      refine lv_icmp_ge (tgt := 35) hx hb dX10_usePair_8 (by decide) (fun hc6 => ?_) (fun hc6 => ?_)
      · have h := h.1 hc6
        exact m_vret hX hlk hr hw h dX10_usePair_35
      · have h := h.2 hc6
        refine lv_aload_n hx hb dX10_usePair_11 rfl (lv_at hl 0 rfl) ?_
        refine m_get hX hw cl10 hT3 2 (by decide) k_168 (fun _ h => h) (v := .ref b4) (congrArg va_rf hb4) dX10_usePair_12 ?_
        refine lv_iload_n hx hb dX10_usePair_15 rfl (lv_at hl 3 rfl) ?_
        refine lv_iload_n hx hb dX10_usePair_16 rfl (lv_at hl 1 rfl) ?_
        refine lv_iload_n hx hb dX10_usePair_17 rfl (lv_at hl 2 rfl) ?_
        refine lv_iload_n hx hb dX10_usePair_18 rfl (lv_at hl 3 rfl) ?_
        refine lv_bipush (v := (-12)) hx hb dX10_usePair_19 (by decide) ?_
        refine lv_iadd hx hb dX10_usePair_21 ?_
        refine m_ci (m_runS (rest := [_, _]) hX hw (tX3_pairWants h) mtX3_pairWants k_773 k_545 ⟨⟨rfl, rfl, Nat.le_of_ble_eq_true rfl, Nat.le_of_ble_eq_true rfl⟩, Nat.le_of_ble_eq_true rfl, Nat.le_of_ble_eq_true rfl⟩ rfl hl.1 rfl (Nat.le_of_ble_eq_true rfl) dX10_usePair_22) hw (fun r7 σ8 H locs h hw => ?_)
        refine m_ci (m_runSN (rest := [_, _]) hX hw (tX11_cutOrder h) mtX11_cutOrder (List.mem_of_getElem? (i := 7) rfl) k_552 ⟨⟨rfl, rfl, Nat.le_of_ble_eq_true rfl, Nat.le_of_ble_eq_true rfl⟩, Nat.le_of_ble_eq_true rfl, Nat.le_of_ble_eq_true rfl⟩ rfl hl.1 rfl (Nat.le_of_ble_eq_true rfl) dX10_usePair_25) hw (fun r9 σ10 H locs h hw => ?_)
        obtain ⟨hT11, h⟩ := h
        obtain ⟨hc12, h⟩ := h
        refine m_iast hX hw hT11 hc12 dX10_usePair_28 (fun H locs hw => ?_)
        let σ13 : Me := sI σ10 b4 x3_2.toNatClampNeg r9
        have h := h σ13 rfl
        have hw : wS D cA z0 s σ13 H locs := hw
        obtain ⟨x3_14, e_x3_14⟩ : ∃ y : Int32, y = x3_2 + 1 := ⟨_, rfl⟩
        have h := h x3_14 e_x3_14
        refine lv_iinc (v := x3_14) (lv' := [(3, _), (0, _), (1, _), (2, _)]) hx hb dX10_usePair_29 hl (k := 3) rfl (by rw [e_x3_14]; rfl) (by decide) rfl (fun ls hl => ?_)
        refine lv_goto (tgt := 2) hx hb dX10_usePair_32 (by decide) ?_
        obtain ⟨m2, hm2, h⟩ := h
        exact ih2 m2 hm2 _ _ _ _ _ h hw (lv_sub hl [1, 2, 3, 0] rfl)
  exact key2 _ _ _ _ _ _ h hw (lv_sub hl [1, 2, 3, 0] rfl)
theorem mtX10_usePair : Mth yX10_usePair cX10_usePair 4 none 2 := ⟨k_772, k_47, by decide +kernel⟩
theorem tX10_usePair {l : Launch} {D : va_G} {cA : Nat → ClassId} {z0 : Nat} {σ : Me} {a0 : Nat} {x1 : Int32} {x2 : Int32} {Q : Me → Prop} (h : pX10_usePair σ a0 x1 x2 Q) : Met l yX10_usePair (Cond.code yX10_usePair cX10_usePair 4 none :: gTab) rX10_usePair (PcM D cA z0 σ [.ref a0, .int x1, .int x2]) (va_Qv Q (BM D cA z0) (AM z0)) 0 0 (AM z0) :=
  met_of (by decide) (Nat.le_of_ble_eq_true rfl) (fun hX hlk hr hn hw hl => wX10_usePair hX hlk hr h hw hl)
abbrev rX10_hasReached : Room := { frames := 2, cells := 0, slots := 0, locals := 42 }
def pX10_hasReached (σ : Me) (a0 : Nat) (x1 : Int32) (Q : Int32 → Me → Prop) : Prop := pX11_isPosition σ x1 (fun r1 σ2 => (r1 = 0 → Q ((0 : Int32)) σ2) ∧ (¬ r1 = 0 → gT σ2 a0 = 10 ∧ ∃ b6 : Nat, gP σ2 a0 3 = some b6 ∧ gT σ2 b6 = 22 ∧ vp_in (x1 - ((-12 : Int32))) (gN σ2 b6) ∧ ∀ v_9 : Int32, v_9 = (if (gI σ2 b6 (x1 - ((-12 : Int32))).toNatClampNeg) = 0 then ((0 : Int32)) else ((1 : Int32))) → (v_9 = 0 ∨ v_9 = 1) ∧ Q v_9 σ2))
set_option maxHeartbeats 4000000 in
set_option maxRecDepth 100000 in
theorem wX10_hasReached {p : Program} {l : Launch} {e : Env} {s : State} {m : MethodId} {args : Array Value} {below : List Frame} {meth : Method} {c : Code} {D : va_G} {cA : Nat → ClassId} {z0 : Nat} (hX : Cx p m c cX10_hasReached 2 s args RX10 D cA) (hlk : meth.locks = false) (hr : meth.sig.returnType = (some .boolean)) {σ : Me} {a0 : Nat} {x1 : Int32} {Q : Int32 → Me → Prop} (h : pX10_hasReached σ a0 x1 Q) {H : Heap} {locs : List Loc} {ls : Array Slot} (hw : wS D cA z0 s σ H locs) (hl : lv_has ls 2 [(0, .ref a0), (1, .int x1)]) : W p l e rX10_hasReached s m args below meth c H locs 0 0 (MQ below (va_Qi Q (BM D cA z0) (AM z0)) args s 0 0 (AM z0)) (F0 m 0 ls []) := by
  have hx := hX.1.1
  have hb := hX.1.2.1
  have hown := hX.1.2.2.2.1
  have hts := hX.1.2.2.2.2
  unfold pX10_hasReached at h
  refine lv_iload_n hx hb dX10_hasReached_0 rfl (lv_at hl 1 rfl) ?_
  refine m_ci (m_runSN (rest := []) hX hw (tX11_isPosition h) mtX11_isPosition (List.mem_of_getElem? (i := 8) rfl) k_530 ⟨⟨rfl, rfl, Nat.le_of_ble_eq_true rfl, Nat.le_of_ble_eq_true rfl⟩, Nat.le_of_ble_eq_true rfl, Nat.le_of_ble_eq_true rfl⟩ rfl hl.1 rfl (Nat.le_of_ble_eq_true rfl) dX10_hasReached_1) hw (fun r1 σ2 H locs h hw => ?_)
  refine lv_if_eq (tgt := 23) hx hb dX10_hasReached_4 (by decide) (fun hc4 => ?_) (fun hc4 => ?_)
  · have h := h.1 hc4
    refine lv_iconst (v := 0) hx hb dX10_hasReached_23 (by decide) ?_
    exact m_zret hX hlk hr hw (by decide) h dX10_hasReached_24
  · have h := h.2 hc4
    refine lv_aload_n hx hb dX10_hasReached_7 rfl (lv_at hl 0 rfl) ?_
    obtain ⟨hT5, h⟩ := h
    obtain ⟨b6, hb6, h⟩ := h
    refine m_get hX hw cl10 hT5 3 (by decide) k_169 (fun _ h => h) (v := .ref b6) (congrArg va_rf hb6) dX10_hasReached_8 ?_
    refine lv_iload_n hx hb dX10_hasReached_11 rfl (lv_at hl 1 rfl) ?_
    refine lv_bipush (v := (-12)) hx hb dX10_hasReached_12 (by decide) ?_
    refine lv_isub hx hb dX10_hasReached_14 ?_
    obtain ⟨hT7, h⟩ := h
    obtain ⟨hc8, h⟩ := h
    refine m_zald hX hw hT7 hc8 dX10_hasReached_15 ?_
    have kM10 : ∀ (v_9 : Int32) (ls : Array Slot), v_9 = (if (gI σ2 b6 (x1 - ((-12 : Int32))).toNatClampNeg) = 0 then ((0 : Int32)) else ((1 : Int32))) → lv_has ls 2 [] → W p l e rX10_hasReached s m args below meth c H locs 0 0 (MQ below (va_Qi Q (BM D cA z0) (AM z0)) args s 0 0 (AM z0)) (F0 m 24 ls [.int v_9]) := by
      intro v_9 ls e_v_9 hl
      have h := h v_9 e_v_9
      exact m_zret hX hlk hr hw h.1 h.2 dX10_hasReached_24
    refine lv_if_eq (tgt := 23) hx hb dX10_hasReached_16 (by decide) (fun hc11 => ?_) (fun hc11 => ?_)
    · refine lv_iconst (v := 0) hx hb dX10_hasReached_23 (by decide) ?_
      exact kM10 _ _ (by first | rfl | rw [if_pos hc11] | simp only [if_pos hc11]) (lv_sub hl [] rfl)
    · refine lv_iconst (v := 1) hx hb dX10_hasReached_19 (by decide) ?_
      refine lv_goto (tgt := 24) hx hb dX10_hasReached_20 (by decide) ?_
      exact kM10 _ _ (by first | rfl | rw [if_neg hc11] | simp only [if_neg hc11]) (lv_sub hl [] rfl)
theorem mtX10_hasReached : Mth yX10_hasReached cX10_hasReached 2 (some .boolean) 1 := ⟨k_768, k_47, by decide +kernel⟩
theorem tX10_hasReached {l : Launch} {D : va_G} {cA : Nat → ClassId} {z0 : Nat} {σ : Me} {a0 : Nat} {x1 : Int32} {Q : Int32 → Me → Prop} (h : pX10_hasReached σ a0 x1 Q) : Met l yX10_hasReached (Cond.code yX10_hasReached cX10_hasReached 2 (some .boolean) :: gTab) rX10_hasReached (PcM D cA z0 σ [.ref a0, .int x1]) (va_Qi Q (BM D cA z0) (AM z0)) 0 0 (AM z0) :=
  met_of (by decide) (Nat.le_of_ble_eq_true rfl) (fun hX hlk hr hn hw hl => wX10_hasReached hX hlk hr h hw hl)
