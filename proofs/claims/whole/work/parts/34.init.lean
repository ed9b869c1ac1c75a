theorem gT_mz (σ : Me) : gT (mz σ) (gz σ) = 26 := by simp [gT, mz, gz]
def AO3 (s : State) : Prop := va_AO "SendForMore$Book" s ∧ va_AO "SendForMore$Rule" s ∧ aoS s
abbrev rX11_init : Room := { frames := 2, cells := 35, slots := 2959, locals := 42 }
def pX11_init (σ : Me) (a0 : Nat) (Q : Me → Prop) : Prop := ∀ (b1 : Nat) (σ2 : Me), b1 = gz σ → σ2 = nw σ 24 4 → gT σ2 a0 = 11 ∧ ∀ σ4 : Me, σ4 = sP σ2 a0 0 (some b1) → ∀ (b5 : Nat) (σ6 : Me), b5 = gz σ4 → σ6 = mz σ4 → gT σ6 a0 = 11 ∧ ∀ σ8 : Me, σ8 = sP σ6 a0 1 (some b5) → ∀ (b9 : Nat) (σ10 : Me), b9 = gz σ8 → σ10 = nw σ8 20 4 → gT σ10 a0 = 11 ∧ ∀ σ12 : Me, σ12 = sP σ10 a0 2 (some b9) → ∀ (b13 : Nat) (σ14 : Me), b13 = gz σ12 → σ14 = nw σ12 25 12 → gT σ14 a0 = 11 ∧ ∀ σ16 : Me, σ16 = sP σ14 a0 3 (some b13) → ∀ (b17 : Nat) (σ18 : Me), b17 = gz σ16 → σ18 = nw σ16 6 0 → pX6_init σ18 b17 (fun σ20 => gT σ20 a0 = 11 ∧ ∀ σ22 : Me, σ22 = sP σ20 a0 5 (some b17) → ∀ (b23 : Nat) (σ24 : Me), b23 = gz σ22 → σ24 = nw σ22 20 6 → gT σ24 a0 = 11 ∧ ∀ σ26 : Me, σ26 = sP σ24 a0 12 (some b23) → ∀ σ27 : Me, σ27 = sL σ26 a0 14 ((0 : Int64)) → ∀ σ28 : Me, σ28 = sL σ27 a0 15 ((1 : Int64)) → ∀ (b29 : Nat) (σ30 : Me), b29 = gz σ28 → σ30 = nw σ28 20 6 → gT σ30 a0 = 11 ∧ ∀ σ32 : Me, σ32 = sP σ30 a0 17 (some b29) → ∃ b33 : Nat, gP σ32 a0 0 = some b33 ∧ gT σ32 b33 = 24 ∧ ¬ (nI (gN σ32 b33)) ≤ ((0 : Int32)) ∧ ∀ (b36 : Nat) (σ37 : Me), b36 = gz σ32 → σ37 = nw σ32 1 0 → pX1_init σ37 b36 (fun σ39 => gT σ39 b33 = 24 ∧ vp_in ((0 : Int32)) (gN σ39 b33) ∧ gT σ39 b36 = 1 ∧ ∀ σ43 : Me, σ43 = sP σ39 b33 ((0 : Int32)).toNatClampNeg (some b36) → ∀ x1_44 : Int32, x1_44 = (0 : Int32) + (1 : Int32) → gT σ43 a0 = 11 ∧ ∃ b46 : Nat, gP σ43 a0 0 = some b46 ∧ gT σ43 b46 = 24 ∧ ¬ (nI (gN σ43 b46)) ≤ x1_44 ∧ ∀ (b49 : Nat) (σ50 : Me), b49 = gz σ43 → σ50 = nw σ43 1 0 → pX1_init σ50 b49 (fun σ52 => gT σ52 b46 = 24 ∧ vp_in x1_44 (gN σ52 b46) ∧ gT σ52 b49 = 1 ∧ ∀ σ56 : Me, σ56 = sP σ52 b46 x1_44.toNatClampNeg (some b49) → ∀ x1_57 : Int32, x1_57 = x1_44 + 1 → gT σ56 a0 = 11 ∧ ∃ b59 : Nat, gP σ56 a0 0 = some b59 ∧ gT σ56 b59 = 24 ∧ ¬ (nI (gN σ56 b59)) ≤ x1_57 ∧ ∀ (b62 : Nat) (σ63 : Me), b62 = gz σ56 → σ63 = nw σ56 1 0 → pX1_init σ63 b62 (fun σ65 => gT σ65 b59 = 24 ∧ vp_in x1_57 (gN σ65 b59) ∧ gT σ65 b62 = 1 ∧ ∀ σ69 : Me, σ69 = sP σ65 b59 x1_57.toNatClampNeg (some b62) → ∀ x1_70 : Int32, x1_70 = x1_57 + 1 → gT σ69 a0 = 11 ∧ ∃ b72 : Nat, gP σ69 a0 0 = some b72 ∧ gT σ69 b72 = 24 ∧ ¬ (nI (gN σ69 b72)) ≤ x1_70 ∧ ∀ (b75 : Nat) (σ76 : Me), b75 = gz σ69 → σ76 = nw σ69 1 0 → pX1_init σ76 b75 (fun σ78 => gT σ78 b72 = 24 ∧ vp_in x1_70 (gN σ78 b72) ∧ gT σ78 b75 = 1 ∧ ∀ σ82 : Me, σ82 = sP σ78 b72 x1_70.toNatClampNeg (some b75) → ∀ x1_83 : Int32, x1_83 = x1_70 + 1 → gT σ82 a0 = 11 ∧ ∃ b85 : Nat, gP σ82 a0 0 = some b85 ∧ gT σ82 b85 = 24 ∧ (nI (gN σ82 b85)) ≤ x1_83 ∧ ∃ I108 : Nat → Me → Int32 → Prop, (∀ (n108 : Nat) (σ88 : Me) (x1_89 : Int32), I108 n108 σ88 x1_89 → gT σ88 a0 = 11 ∧ ∃ b91 : Nat, gP σ88 a0 2 = some b91 ∧ gT σ88 b91 = 20 ∧ ((nI (gN σ88 b91)) ≤ x1_89 → ∀ (b98 : Nat) (σ99 : Me), b98 = gz σ88 → σ99 = nw σ88 8 0 → pX8_init σ99 b98 (fun σ101 => ∀ (b102 : Nat) (σ103 : Me), b102 = gz σ101 → σ103 = nw σ101 10 0 → gT σ103 a0 = 11 ∧ ∃ b105 : Nat, gP σ103 a0 5 = some b105 ∧ pX10_init σ103 b102 b105 b98 (fun σ107 => gT σ107 a0 = 11 ∧ ∀ σ109 : Me, σ109 = sP σ107 a0 6 (some b102) → ∀ (b110 : Nat) (σ111 : Me), b110 = gz σ109 → σ111 = nw σ109 4 0 → gT σ111 a0 = 11 ∧ ∃ b113 : Nat, gP σ111 a0 5 = some b113 ∧ pX4_init σ111 b110 b113 (fun σ115 => gT σ115 a0 = 11 ∧ ∀ σ117 : Me, σ117 = sP σ115 a0 7 (some b110) → ∀ (b118 : Nat) (σ119 : Me), b118 = gz σ117 → σ119 = nw σ117 7 0 → pX7_init σ119 b118 b98 (fun σ121 => gT σ121 a0 = 11 ∧ ∀ σ123 : Me, σ123 = sP σ121 a0 8 (some b118) → Q σ123))))) ∧ (¬ (nI (gN σ88 b91)) ≤ x1_89 → vp_in x1_89 (gN σ88 b91) ∧ ∀ σ125 : Me, σ125 = sI σ88 b91 x1_89.toNatClampNeg ((-1 : Int32)) → ∀ x1_126 : Int32, x1_126 = x1_89 + 1 → ∃ m108 : Nat, m108 < n108 ∧ I108 m108 σ125 x1_126)) ∧ ∃ n108 : Nat, I108 n108 σ82 ((0 : Int32)))))))
set_option maxHeartbeats 4000000 in
set_option maxRecDepth 100000 in
theorem wX11_init {p : Program} {l : Launch} {e : Env} {s : State} {m : MethodId} {args : Array Value} {below : List Frame} {meth : Method} {c : Code} {D : va_G} {cA : Nat → ClassId} {z0 : Nat} (hX : Cx p m c cX11_init 2 s args RX11 D cA) (hlk : meth.locks = false) (hr : meth.sig.returnType = none) (hin : meth.name = "<init>") (hao : AO3 s) {σ : Me} {a0 : Nat} {Q : Me → Prop} (h : pX11_init σ a0 Q) {H : Heap} {locs : List Loc} {ls : Array Slot} (hw : wS D cA z0 s σ H locs) (hl : lv_has ls 2 [(0, .ref a0)]) : W p l e rX11_init s m args below meth c H locs 0 0 (MQ below (va_Qv Q (BM D cA z0) (AM z0)) args s 35 2959 (AM z0)) (F0 m 0 ls []) := by
  have hx := hX.1.1
  have hb := hX.1.2.1
  have hown := hX.1.2.2.2.1
  have hts := hX.1.2.2.2.2
  unfold pX11_init at h
  refine lv_aload_n hx hb dX11_init_0 rfl (lv_at hl 0 rfl) ?_
  refine m_objInit hX k_63 hl.1 dX11_init_1 (Nat.le_of_ble_eq_true rfl) (Nat.le_of_ble_eq_true rfl) ?_
  refine lv_aload_n hx hb dX11_init_4 rfl (lv_at hl 0 rfl) ?_
  refine lv_iconst (v := 4) hx hb dX11_init_5 (by decide) ?_
  refine m_newq hX hw (t := 4) rfl (by decide) k_66 hao.1 (N' := 4) (by decide) (by decide) (by decide) ⟨Nat.le_of_ble_eq_true rfl, Nat.le_of_ble_eq_true rfl⟩ dX11_init_6 (fun H hw => ?_)
  let b1 : Nat := gz σ
  let σ2 : Me := nw σ 24 4
  have h := h b1 σ2 rfl rfl
  have hw : wS D cA z0 s σ2 H locs := hw
  obtain ⟨hT3, h⟩ := h
  refine m_putFP hX hin hw cl11 hT3 0 (by decide) k_249 (fun _ h => h) rfl rfl rfl rfl rfl dX11_init_9 (fun H locs hw => ?_)
  let σ4 : Me := sP σ2 a0 0 (some b1)
  have h := h σ4 rfl
  have hw : wS D cA z0 s σ4 H locs := hw
  refine lv_aload_n hx hb dX11_init_12 rfl (lv_at hl 0 rfl) ?_
  refine lv_iconst (v := 4) hx hb dX11_init_13 (by decide) ?_
  refine lv_bipush (v := 25) hx hb dX11_init_14 (by decide) ?_
  refine m_multi hX hw k_68 hao.2.2 k_118 ⟨Nat.le_of_ble_eq_true rfl, Nat.le_of_ble_eq_true rfl⟩ dX11_init_16 (fun H locs hw => ?_)
  let b5 : Nat := gz σ4
  let σ6 : Me := mz σ4
  have h := h b5 σ6 rfl rfl
  have hw : wS D cA z0 s σ6 H locs := hw
  obtain ⟨hT7, h⟩ := h
  refine m_putFP hX hin hw cl11 hT7 1 (by decide) k_250 (fun _ h => h) rfl rfl rfl rfl rfl dX11_init_20 (fun H locs hw => ?_)
  let σ8 : Me := sP σ6 a0 1 (some b5)
  have h := h σ8 rfl
  have hw : wS D cA z0 s σ8 H locs := hw
  refine lv_aload_n hx hb dX11_init_23 rfl (lv_at hl 0 rfl) ?_
  refine lv_iconst (v := 4) hx hb dX11_init_24 (by decide) ?_
  refine m_newa hX hw (t := 0) (by decide) rfl k_119 (N' := 4) (by decide) (by decide) (by decide) ⟨Nat.le_of_ble_eq_true rfl, Nat.le_of_ble_eq_true rfl⟩ dX11_init_25 (fun H hw => ?_)
  let b9 : Nat := gz σ8
  let σ10 : Me := nw σ8 20 4
  have h := h b9 σ10 rfl rfl
  have hw : wS D cA z0 s σ10 H locs := hw
  obtain ⟨hT11, h⟩ := h
  refine m_putFP hX hin hw cl11 hT11 2 (by decide) k_251 (fun _ h => h) rfl rfl rfl rfl rfl dX11_init_27 (fun H locs hw => ?_)
  let σ12 : Me := sP σ10 a0 2 (some b9)
  have h := h σ12 rfl
  have hw : wS D cA z0 s σ12 H locs := hw
  refine lv_aload_n hx hb dX11_init_30 rfl (lv_at hl 0 rfl) ?_
  refine lv_bipush (v := 12) hx hb dX11_init_31 (by decide) ?_
  refine m_newq hX hw (t := 5) rfl (by decide) k_70 hao.2.1 (N' := 12) (by decide) (by decide) (by decide) ⟨Nat.le_of_ble_eq_true rfl, Nat.le_of_ble_eq_true rfl⟩ dX11_init_33 (fun H hw => ?_)
  let b13 : Nat := gz σ12
  let σ14 : Me := nw σ12 25 12
  have h := h b13 σ14 rfl rfl
  have hw : wS D cA z0 s σ14 H locs := hw
  obtain ⟨hT15, h⟩ := h
  refine m_putFP hX hin hw cl11 hT15 3 (by decide) k_252 (fun _ h => h) rfl rfl rfl rfl rfl dX11_init_36 (fun H locs hw => ?_)
  let σ16 : Me := sP σ14 a0 3 (some b13)
  have h := h σ16 rfl
  have hw : wS D cA z0 s σ16 H locs := hw
  refine lv_aload_n hx hb dX11_init_39 rfl (lv_at hl 0 rfl) ?_
  refine m_new hX hw cl6 (by decide) k_72 k_73 k_44 ⟨Nat.le_of_ble_eq_true rfl, Nat.le_of_ble_eq_true rfl⟩ dX11_init_40 (fun H hw => ?_)
  let b17 : Nat := gz σ16
  let σ18 : Me := nw σ16 6 0
  have h := h b17 σ18 rfl rfl
  have hw : wS D cA z0 s σ18 H locs := hw
  refine lv_dup hx hb dX11_init_43 rfl ?_
  refine m_cv (m_runIN (rest := [_, _]) hX hw (tX6_init h) mtX6_init (List.mem_of_getElem? (i := 0) rfl) k_75 rfl ⟨⟨rfl, rfl, Nat.le_of_ble_eq_true rfl, Nat.le_of_ble_eq_true rfl⟩, Nat.le_of_ble_eq_true rfl, Nat.le_of_ble_eq_true rfl⟩ rfl hl.1 rfl (Nat.le_of_ble_eq_true rfl) dX11_init_44) hw (fun σ20 H locs h hw => ?_)
  obtain ⟨hT21, h⟩ := h
  refine m_putFP hX hin hw cl11 hT21 5 (by decide) k_254 (fun _ h => h) rfl rfl rfl rfl rfl dX11_init_47 (fun H locs hw => ?_)
  let σ22 : Me := sP σ20 a0 5 (some b17)
  have h := h σ22 rfl
  have hw : wS D cA z0 s σ22 H locs := hw
  refine lv_aload_n hx hb dX11_init_50 rfl (lv_at hl 0 rfl) ?_
  refine lv_bipush (v := 6) hx hb dX11_init_51 (by decide) ?_
  refine m_newa hX hw (t := 0) (by decide) rfl k_119 (N' := 6) (by decide) (by decide) (by decide) ⟨Nat.le_of_ble_eq_true rfl, Nat.le_of_ble_eq_true rfl⟩ dX11_init_53 (fun H hw => ?_)
  let b23 : Nat := gz σ22
  let σ24 : Me := nw σ22 20 6
  have h := h b23 σ24 rfl rfl
  have hw : wS D cA z0 s σ24 H locs := hw
  obtain ⟨hT25, h⟩ := h
  refine m_putFP hX hin hw cl11 hT25 12 (by decide) k_261 (fun _ h => h) rfl rfl rfl rfl rfl dX11_init_55 (fun H locs hw => ?_)
  let σ26 : Me := sP σ24 a0 12 (some b23)
  have h := h σ26 rfl
  have hw : wS D cA z0 s σ26 H locs := hw
  refine lv_aload_n hx hb dX11_init_58 rfl (lv_at hl 0 rfl) ?_
  refine lv_lconst (v := 0) hx hb dX11_init_59 (by decide) ?_
  refine m_putL hX hw cl11 hT25 14 (by decide) k_263 (fun _ h => h) rfl rfl dX11_init_60 (fun H locs hw => ?_)
  let σ27 : Me := sL σ26 a0 14 ((0 : Int64))
  have h := h σ27 rfl
  have hw : wS D cA z0 s σ27 H locs := hw
  refine lv_aload_n hx hb dX11_init_63 rfl (lv_at hl 0 rfl) ?_
  refine lv_lconst (v := 1) hx hb dX11_init_64 (by decide) ?_
  refine m_putL hX hw cl11 hT25 15 (by decide) k_264 (fun _ h => h) rfl rfl dX11_init_65 (fun H locs hw => ?_)
  let σ28 : Me := sL σ27 a0 15 ((1 : Int64))
  have h := h σ28 rfl
  have hw : wS D cA z0 s σ28 H locs := hw
  refine lv_aload_n hx hb dX11_init_68 rfl (lv_at hl 0 rfl) ?_
  refine lv_bipush (v := 6) hx hb dX11_init_69 (by decide) ?_
  refine m_newa hX hw (t := 0) (by decide) rfl k_119 (N' := 6) (by decide) (by decide) (by decide) ⟨Nat.le_of_ble_eq_true rfl, Nat.le_of_ble_eq_true rfl⟩ dX11_init_71 (fun H hw => ?_)
  let b29 : Nat := gz σ28
  let σ30 : Me := nw σ28 20 6
  have h := h b29 σ30 rfl rfl
  have hw : wS D cA z0 s σ30 H locs := hw
  obtain ⟨hT31, h⟩ := h
  refine m_putFP hX hin hw cl11 hT31 17 (by decide) k_266 (fun _ h => h) rfl rfl rfl rfl rfl dX11_init_73 (fun H locs hw => ?_)
  let σ32 : Me := sP σ30 a0 17 (some b29)
  have h := h σ32 rfl
  have hw : wS D cA z0 s σ32 H locs := hw
  refine lv_iconst (v := 0) hx hb dX11_init_76 (by decide) ?_
  refine lv_istore_n (lv' := [(1, _), (0, _)]) hx hb dX11_init_77 rfl hl (by decide) rfl (fun ls hl => ?_)
  refine lv_iload_n hx hb dX11_init_78 rfl (lv_at hl 0 rfl) ?_
  refine lv_aload_n hx hb dX11_init_79 rfl (lv_at hl 1 rfl) ?_
  obtain ⟨b33, hb33, h⟩ := h
  refine m_get hX hw cl11 hT31 0 (by decide) k_249 (fun _ h => h) (v := .ref b33) (congrArg va_rf hb33) dX11_init_80 ?_
  obtain ⟨hT34, h⟩ := h
  refine m_alen hX hw (t := 4) (by decide) hT34 dX11_init_83 ?_
  obtain ⟨hc35, h⟩ := h
  refine lv_icmp_ge (tgt := 106) hx hb dX11_init_84 (by decide) (fun q => absurd q hc35) (fun _ => ?_)
  refine lv_aload_n hx hb dX11_init_87 rfl (lv_at hl 1 rfl) ?_
  refine m_get hX hw cl11 hT31 0 (by decide) k_249 (fun _ h => h) (v := .ref b33) (congrArg va_rf hb33) dX11_init_88 ?_
  refine lv_iload_n hx hb dX11_init_91 rfl (lv_at hl 0 rfl) ?_
  refine m_new hX hw cl1 (by decide) k_66 k_120 k_45 ⟨Nat.le_of_ble_eq_true rfl, Nat.le_of_ble_eq_true rfl⟩ dX11_init_92 (fun H hw => ?_)
  let b36 : Nat := gz σ32
  let σ37 : Me := nw σ32 1 0
  have h := h b36 σ37 rfl rfl
  have hw : wS D cA z0 s σ37 H locs := hw
  refine lv_dup hx hb dX11_init_95 rfl ?_
  refine m_cv (m_runIN (rest := [_, _, _]) hX hw (tX1_init h) mtX1_init (List.mem_of_getElem? (i := 1) rfl) k_122 rfl ⟨⟨rfl, rfl, Nat.le_of_ble_eq_true rfl, Nat.le_of_ble_eq_true rfl⟩, Nat.le_of_ble_eq_true rfl, Nat.le_of_ble_eq_true rfl⟩ rfl hl.1 rfl (Nat.le_of_ble_eq_true rfl) dX11_init_96) hw (fun σ39 H locs h hw => ?_)
  obtain ⟨hT40, h⟩ := h
  obtain ⟨hc41, h⟩ := h
  obtain ⟨hT42, h⟩ := h
  refine m_aastB hX hw hT40 hT42 hc41 dX11_init_99 (fun H locs hw => ?_)
  let σ43 : Me := sP σ39 b33 ((0 : Int32)).toNatClampNeg (some b36)
  have h := h σ43 rfl
  have hw : wS D cA z0 s σ43 H locs := hw
  obtain ⟨x1_44, e_x1_44⟩ : ∃ y : Int32, y = (0 : Int32) + (1 : Int32) := ⟨_, rfl⟩
  have h := h x1_44 e_x1_44
  refine lv_iinc (v := x1_44) (lv' := [(1, _), (0, _)]) hx hb dX11_init_100 hl (k := 0) rfl (by rw [e_x1_44]; rfl) (by decide) rfl (fun ls hl => ?_)
  refine lv_goto (tgt := 78) hx hb dX11_init_103 (by decide) ?_
  refine lv_iload_n hx hb dX11_init_78 rfl (lv_at hl 0 rfl) ?_
  refine lv_aload_n hx hb dX11_init_79 rfl (lv_at hl 1 rfl) ?_
  obtain ⟨hT45, h⟩ := h
  obtain ⟨b46, hb46, h⟩ := h
  refine m_get hX hw cl11 hT45 0 (by decide) k_249 (fun _ h => h) (v := .ref b46) (congrArg va_rf hb46) dX11_init_80 ?_
  obtain ⟨hT47, h⟩ := h
  refine m_alen hX hw (t := 4) (by decide) hT47 dX11_init_83 ?_
  obtain ⟨hc48, h⟩ := h
  refine lv_icmp_ge (tgt := 106) hx hb dX11_init_84 (by decide) (fun q => absurd q hc48) (fun _ => ?_)
  refine lv_aload_n hx hb dX11_init_87 rfl (lv_at hl 1 rfl) ?_
  refine m_get hX hw cl11 hT45 0 (by decide) k_249 (fun _ h => h) (v := .ref b46) (congrArg va_rf hb46) dX11_init_88 ?_
  refine lv_iload_n hx hb dX11_init_91 rfl (lv_at hl 0 rfl) ?_
  refine m_new hX hw cl1 (by decide) k_66 k_120 k_45 ⟨Nat.le_of_ble_eq_true rfl, Nat.le_of_ble_eq_true rfl⟩ dX11_init_92 (fun H hw => ?_)
  let b49 : Nat := gz σ43
  let σ50 : Me := nw σ43 1 0
  have h := h b49 σ50 rfl rfl
  have hw : wS D cA z0 s σ50 H locs := hw
  refine lv_dup hx hb dX11_init_95 rfl ?_
  refine m_cv (m_runIN (rest := [_, _, _]) hX hw (tX1_init h) mtX1_init (List.mem_of_getElem? (i := 1) rfl) k_122 rfl ⟨⟨rfl, rfl, Nat.le_of_ble_eq_true rfl, Nat.le_of_ble_eq_true rfl⟩, Nat.le_of_ble_eq_true rfl, Nat.le_of_ble_eq_true rfl⟩ rfl hl.1 rfl (Nat.le_of_ble_eq_true rfl) dX11_init_96) hw (fun σ52 H locs h hw => ?_)
  obtain ⟨hT53, h⟩ := h
  obtain ⟨hc54, h⟩ := h
  obtain ⟨hT55, h⟩ := h
  refine m_aastB hX hw hT53 hT55 hc54 dX11_init_99 (fun H locs hw => ?_)
  let σ56 : Me := sP σ52 b46 x1_44.toNatClampNeg (some b49)
  have h := h σ56 rfl
  have hw : wS D cA z0 s σ56 H locs := hw
  obtain ⟨x1_57, e_x1_57⟩ : ∃ y : Int32, y = x1_44 + 1 := ⟨_, rfl⟩
  have h := h x1_57 e_x1_57
  refine lv_iinc (v := x1_57) (lv' := [(1, _), (0, _)]) hx hb dX11_init_100 hl (k := 0) rfl (by rw [e_x1_57]; rfl) (by decide) rfl (fun ls hl => ?_)
  refine lv_goto (tgt := 78) hx hb dX11_init_103 (by decide) ?_
  refine lv_iload_n hx hb dX11_init_78 rfl (lv_at hl 0 rfl) ?_
  refine lv_aload_n hx hb dX11_init_79 rfl (lv_at hl 1 rfl) ?_
  obtain ⟨hT58, h⟩ := h
  obtain ⟨b59, hb59, h⟩ := h
  refine m_get hX hw cl11 hT58 0 (by decide) k_249 (fun _ h => h) (v := .ref b59) (congrArg va_rf hb59) dX11_init_80 ?_
  obtain ⟨hT60, h⟩ := h
  refine m_alen hX hw (t := 4) (by decide) hT60 dX11_init_83 ?_
  obtain ⟨hc61, h⟩ := h
  refine lv_icmp_ge (tgt := 106) hx hb dX11_init_84 (by decide) (fun q => absurd q hc61) (fun _ => ?_)
  refine lv_aload_n hx hb dX11_init_87 rfl (lv_at hl 1 rfl) ?_
  refine m_get hX hw cl11 hT58 0 (by decide) k_249 (fun _ h => h) (v := .ref b59) (congrArg va_rf hb59) dX11_init_88 ?_
  refine lv_iload_n hx hb dX11_init_91 rfl (lv_at hl 0 rfl) ?_
  refine m_new hX hw cl1 (by decide) k_66 k_120 k_45 ⟨Nat.le_of_ble_eq_true rfl, Nat.le_of_ble_eq_true rfl⟩ dX11_init_92 (fun H hw => ?_)
  let b62 : Nat := gz σ56
  let σ63 : Me := nw σ56 1 0
  have h := h b62 σ63 rfl rfl
  have hw : wS D cA z0 s σ63 H locs := hw
  refine lv_dup hx hb dX11_init_95 rfl ?_
  refine m_cv (m_runIN (rest := [_, _, _]) hX hw (tX1_init h) mtX1_init (List.mem_of_getElem? (i := 1) rfl) k_122 rfl ⟨⟨rfl, rfl, Nat.le_of_ble_eq_true rfl, Nat.le_of_ble_eq_true rfl⟩, Nat.le_of_ble_eq_true rfl, Nat.le_of_ble_eq_true rfl⟩ rfl hl.1 rfl (Nat.le_of_ble_eq_true rfl) dX11_init_96) hw (fun σ65 H locs h hw => ?_)
  obtain ⟨hT66, h⟩ := h
  obtain ⟨hc67, h⟩ := h
  obtain ⟨hT68, h⟩ := h
  refine m_aastB hX hw hT66 hT68 hc67 dX11_init_99 (fun H locs hw => ?_)
  let σ69 : Me := sP σ65 b59 x1_57.toNatClampNeg (some b62)
  have h := h σ69 rfl
  have hw : wS D cA z0 s σ69 H locs := hw
  obtain ⟨x1_70, e_x1_70⟩ : ∃ y : Int32, y = x1_57 + 1 := ⟨_, rfl⟩
  have h := h x1_70 e_x1_70
  refine lv_iinc (v := x1_70) (lv' := [(1, _), (0, _)]) hx hb dX11_init_100 hl (k := 0) rfl (by rw [e_x1_70]; rfl) (by decide) rfl (fun ls hl => ?_)
  refine lv_goto (tgt := 78) hx hb dX11_init_103 (by decide) ?_
  refine lv_iload_n hx hb dX11_init_78 rfl (lv_at hl 0 rfl) ?_
  refine lv_aload_n hx hb dX11_init_79 rfl (lv_at hl 1 rfl) ?_
  obtain ⟨hT71, h⟩ := h
  obtain ⟨b72, hb72, h⟩ := h
  refine m_get hX hw cl11 hT71 0 (by decide) k_249 (fun _ h => h) (v := .ref b72) (congrArg va_rf hb72) dX11_init_80 ?_
  obtain ⟨hT73, h⟩ := h
  refine m_alen hX hw (t := 4) (by decide) hT73 dX11_init_83 ?_
  obtain ⟨hc74, h⟩ := h
  refine lv_icmp_ge (tgt := 106) hx hb dX11_init_84 (by decide) (fun q => absurd q hc74) (fun _ => ?_)
  refine lv_aload_n hx hb dX11_init_87 rfl (lv_at hl 1 rfl) ?_
  refine m_get hX hw cl11 hT71 0 (by decide) k_249 (fun _ h => h) (v := .ref b72) (congrArg va_rf hb72) dX11_init_88 ?_
  refine lv_iload_n hx hb dX11_init_91 rfl (lv_at hl 0 rfl) ?_
  refine m_new hX hw cl1 (by decide) k_66 k_120 k_45 ⟨Nat.le_of_ble_eq_true rfl, Nat.le_of_ble_eq_true rfl⟩ dX11_init_92 (fun H hw => ?_)
  let b75 : Nat := gz σ69
  let σ76 : Me := nw σ69 1 0
  have h := h b75 σ76 rfl rfl
  have hw : wS D cA z0 s σ76 H locs := hw
  refine lv_dup hx hb dX11_init_95 rfl ?_
  refine m_cv (m_runIN (rest := [_, _, _]) hX hw (tX1_init h) mtX1_init (List.mem_of_getElem? (i := 1) rfl) k_122 rfl ⟨⟨rfl, rfl, Nat.le_of_ble_eq_true rfl, Nat.le_of_ble_eq_true rfl⟩, Nat.le_of_ble_eq_true rfl, Nat.le_of_ble_eq_true rfl⟩ rfl hl.1 rfl (Nat.le_of_ble_eq_true rfl) dX11_init_96) hw (fun σ78 H locs h hw => ?_)
  obtain ⟨hT79, h⟩ := h
  obtain ⟨hc80, h⟩ := h
  obtain ⟨hT81, h⟩ := h
  refine m_aastB hX hw hT79 hT81 hc80 dX11_init_99 (fun H locs hw => ?_)
  let σ82 : Me := sP σ78 b72 x1_70.toNatClampNeg (some b75)
  have h := h σ82 rfl
  have hw : wS D cA z0 s σ82 H locs := hw
  obtain ⟨x1_83, e_x1_83⟩ : ∃ y : Int32, y = x1_70 + 1 := ⟨_, rfl⟩
  have h := h x1_83 e_x1_83
  refine lv_iinc (v := x1_83) (lv' := [(1, _), (0, _)]) hx hb dX11_init_100 hl (k := 0) rfl (by rw [e_x1_83]; rfl) (by decide) rfl (fun ls hl => ?_)
  refine lv_goto (tgt := 78) hx hb dX11_init_103 (by decide) ?_
  refine lv_iload_n hx hb dX11_init_78 rfl (lv_at hl 0 rfl) ?_
  refine lv_aload_n hx hb dX11_init_79 rfl (lv_at hl 1 rfl) ?_
  obtain ⟨hT84, h⟩ := h
  obtain ⟨b85, hb85, h⟩ := h
  refine m_get hX hw cl11 hT84 0 (by decide) k_249 (fun _ h => h) (v := .ref b85) (congrArg va_rf hb85) dX11_init_80 ?_
  obtain ⟨hT86, h⟩ := h
  refine m_alen hX hw (t := 4) (by decide) hT86 dX11_init_83 ?_
  obtain ⟨hc87, h⟩ := h
  refine lv_icmp_ge (tgt := 106) hx hb dX11_init_84 (by decide) (fun _ => ?_) (fun q => absurd hc87 q)
  refine lv_iconst (v := 0) hx hb dX11_init_106 (by decide) ?_
  refine lv_istore_n (lv' := [(1, _), (0, _)]) hx hb dX11_init_107 rfl hl (by decide) rfl (fun ls hl => ?_)
  obtain ⟨I108, hI108, n108, h⟩ := h
  have key108 : ∀ (n108 : Nat) (σ88 : Me) (x1_89 : Int32) (H : Heap) (locs : List Loc) (ls : Array Slot), I108 n108 σ88 x1_89 → wS D cA z0 s σ88 H locs → lv_has ls 2 [(0, .ref a0), (1, .int x1_89)] → W p l e rX11_init s m args below meth c H locs 22 257 (MQ below (va_Qv Q (BM D cA z0) (AM z0)) args s 35 2959 (AM z0)) (F0 m 108 ls []) := by
    intro n108
    induction n108 using Nat.strongRecOn with
    | _ n108 ih108 =>
      intro σ88 x1_89 H locs ls h hw hl
      have h := hI108 _ _ _ h
      refine lv_iload_n hx hb dX11_init_108 rfl (lv_at hl 1 rfl) ?_
      refine lv_aload_n hx hb dX11_init_109 rfl (lv_at hl 0 rfl) ?_
      obtain ⟨hT90, h⟩ := h
      obtain ⟨b91, hb91, h⟩ := h
      refine m_get hX hw cl11 hT90 2 (by decide) k_251 (fun _ h => h) (v := .ref b91) (congrArg va_rf hb91) dX11_init_110 ?_
      obtain ⟨hT92, h⟩ := h
      refine m_alen hX hw (t := 0) (by decide) hT92 dX11_init_113 ?_
      refine lv_icmp_ge (tgt := 130) hx hb dX11_init_114 (by decide) (fun hc97 => ?_) (fun hc97 => ?_)
      · have h := h.1 hc97
        refine m_new hX hw cl8 (by decide) k_134 k_135 k_46 ⟨Nat.le_of_ble_eq_true rfl, Nat.le_of_ble_eq_true rfl⟩ dX11_init_130 (fun H hw => ?_)
        let b98 : Nat := gz σ88
        let σ99 : Me := nw σ88 8 0
        have h := h b98 σ99 rfl rfl
        have hw : wS D cA z0 s σ99 H locs := hw
        refine lv_dup hx hb dX11_init_133 rfl ?_
        refine m_cv (m_runIN (rest := [_]) hX hw (tX8_init h) mtX8_init (List.mem_of_getElem? (i := 2) rfl) k_137 rfl ⟨⟨rfl, rfl, Nat.le_of_ble_eq_true rfl, Nat.le_of_ble_eq_true rfl⟩, Nat.le_of_ble_eq_true rfl, Nat.le_of_ble_eq_true rfl⟩ rfl hl.1 rfl (Nat.le_of_ble_eq_true rfl) dX11_init_134) hw (fun σ101 H locs h hw => ?_)
        refine lv_astore_n (lv' := [(1, _), (0, _)]) hx hb dX11_init_137 rfl hl (by decide) rfl (fun ls hl => ?_)
        refine lv_aload_n hx hb dX11_init_138 rfl (lv_at hl 1 rfl) ?_
        refine m_new hX hw cl10 (by decide) k_160 k_161 k_47 ⟨Nat.le_of_ble_eq_true rfl, Nat.le_of_ble_eq_true rfl⟩ dX11_init_139 (fun H hw => ?_)
        let b102 : Nat := gz σ101
        let σ103 : Me := nw σ101 10 0
        have h := h b102 σ103 rfl rfl
        have hw : wS D cA z0 s σ103 H locs := hw
        refine lv_dup hx hb dX11_init_142 rfl ?_
        refine lv_aload_n hx hb dX11_init_143 rfl (lv_at hl 1 rfl) ?_
        obtain ⟨hT104, h⟩ := h
        obtain ⟨b105, hb105, h⟩ := h
        refine m_get hX hw cl11 hT104 5 (by decide) k_254 (fun _ h => h) (v := .ref b105) (congrArg va_rf hb105) dX11_init_144 ?_
        refine lv_aload_n hx hb dX11_init_147 rfl (lv_at hl 0 rfl) ?_
        refine m_cv (m_runI (rest := [_, _]) hX hw (tX10_init h) mtX10_init k_162 k_163 rfl ⟨⟨rfl, rfl, Nat.le_of_ble_eq_true rfl, Nat.le_of_ble_eq_true rfl⟩, Nat.le_of_ble_eq_true rfl, Nat.le_of_ble_eq_true rfl⟩ rfl hl.1 rfl (Nat.le_of_ble_eq_true rfl) dX11_init_148) hw (fun σ107 H locs h hw => ?_)
        obtain ⟨hT108, h⟩ := h
        refine m_putFP hX hin hw cl11 hT108 6 (by decide) k_255 (fun _ h => h) rfl rfl rfl rfl rfl dX11_init_151 (fun H locs hw => ?_)
        let σ109 : Me := sP σ107 a0 6 (some b102)
        have h := h σ109 rfl
        have hw : wS D cA z0 s σ109 H locs := hw
        refine lv_aload_n hx hb dX11_init_154 rfl (lv_at hl 1 rfl) ?_
        refine m_new hX hw cl4 (by decide) k_194 k_195 k_48 ⟨Nat.le_of_ble_eq_true rfl, Nat.le_of_ble_eq_true rfl⟩ dX11_init_155 (fun H hw => ?_)
        let b110 : Nat := gz σ109
        let σ111 : Me := nw σ109 4 0
        have h := h b110 σ111 rfl rfl
        have hw : wS D cA z0 s σ111 H locs := hw
        refine lv_dup hx hb dX11_init_158 rfl ?_
        refine lv_aload_n hx hb dX11_init_159 rfl (lv_at hl 1 rfl) ?_
        obtain ⟨hT112, h⟩ := h
        obtain ⟨b113, hb113, h⟩ := h
        refine m_get hX hw cl11 hT112 5 (by decide) k_254 (fun _ h => h) (v := .ref b113) (congrArg va_rf hb113) dX11_init_160 ?_
        refine m_cv (m_runI (rest := [_, _]) hX hw (tX4_init h) mtX4_init k_196 k_197 rfl ⟨⟨rfl, rfl, Nat.le_of_ble_eq_true rfl, Nat.le_of_ble_eq_true rfl⟩, Nat.le_of_ble_eq_true rfl, Nat.le_of_ble_eq_true rfl⟩ rfl hl.1 rfl (Nat.le_of_ble_eq_true rfl) dX11_init_163) hw (fun σ115 H locs h hw => ?_)
        obtain ⟨hT116, h⟩ := h
        refine m_putFP hX hin hw cl11 hT116 7 (by decide) k_256 (fun _ h => h) rfl rfl rfl rfl rfl dX11_init_166 (fun H locs hw => ?_)
        let σ117 : Me := sP σ115 a0 7 (some b110)
        have h := h σ117 rfl
        have hw : wS D cA z0 s σ117 H locs := hw
        refine lv_aload_n hx hb dX11_init_169 rfl (lv_at hl 1 rfl) ?_
        refine m_new hX hw cl7 (by decide) k_224 k_225 k_49 ⟨Nat.le_of_ble_eq_true rfl, Nat.le_of_ble_eq_true rfl⟩ dX11_init_170 (fun H hw => ?_)
        let b118 : Nat := gz σ117
        let σ119 : Me := nw σ117 7 0
        have h := h b118 σ119 rfl rfl
        have hw : wS D cA z0 s σ119 H locs := hw
        refine lv_dup hx hb dX11_init_173 rfl ?_
        refine lv_aload_n hx hb dX11_init_174 rfl (lv_at hl 0 rfl) ?_
        refine m_cv (m_runI (rest := [_, _]) hX hw (tX7_init h) mtX7_init k_226 k_227 rfl ⟨⟨rfl, rfl, Nat.le_of_ble_eq_true rfl, Nat.le_of_ble_eq_true rfl⟩, Nat.le_of_ble_eq_true rfl, Nat.le_of_ble_eq_true rfl⟩ rfl hl.1 rfl (Nat.le_of_ble_eq_true rfl) dX11_init_175) hw (fun σ121 H locs h hw => ?_)
        obtain ⟨hT122, h⟩ := h
        refine m_putFP hX hin hw cl11 hT122 8 (by decide) k_257 (fun _ h => h) rfl rfl rfl rfl rfl dX11_init_178 (fun H locs hw => ?_)
        let σ123 : Me := sP σ121 a0 8 (some b118)
        have h := h σ123 rfl
        have hw : wS D cA z0 s σ123 H locs := hw
        refine W.widen (k := 35) (n := 2959) (Nat.le_of_ble_eq_true rfl) (Nat.le_of_ble_eq_true rfl) ?_
        exact m_vret hX hlk hr hw h dX11_init_181
      · have h := h.2 hc97
        refine lv_aload_n hx hb dX11_init_117 rfl (lv_at hl 0 rfl) ?_
        refine m_get hX hw cl11 hT90 2 (by decide) k_251 (fun _ h => h) (v := .ref b91) (congrArg va_rf hb91) dX11_init_118 ?_
        refine lv_iload_n hx hb dX11_init_121 rfl (lv_at hl 1 rfl) ?_
        refine lv_iconst (v := (-1)) hx hb dX11_init_122 (by decide) ?_
        obtain ⟨hc124, h⟩ := h
        refine m_iast hX hw hT92 hc124 dX11_init_123 (fun H locs hw => ?_)
        let σ125 : Me := sI σ88 b91 x1_89.toNatClampNeg ((-1 : Int32))
        have h := h σ125 rfl
        have hw : wS D cA z0 s σ125 H locs := hw
        obtain ⟨x1_126, e_x1_126⟩ : ∃ y : Int32, y = x1_89 + 1 := ⟨_, rfl⟩
        have h := h x1_126 e_x1_126
        refine lv_iinc (v := x1_126) (lv' := [(1, _), (0, _)]) hx hb dX11_init_124 hl (k := 1) rfl (by rw [e_x1_126]; rfl) (by decide) rfl (fun ls hl => ?_)
        refine lv_goto (tgt := 108) hx hb dX11_init_127 (by decide) ?_
        obtain ⟨m108, hm108, h⟩ := h
        exact ih108 m108 hm108 _ _ _ _ _ h hw (lv_sub hl [1, 0] rfl)
  exact key108 _ _ _ _ _ _ h hw (lv_sub hl [1, 0] rfl)
theorem mtX11_init : Mth yX11_init cX11_init 2 none 0 := ⟨k_62, k_43, by decide +kernel⟩
