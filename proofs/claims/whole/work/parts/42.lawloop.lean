def sp_0 (ax am : Nat) (σ : Me) (x1 x2 x3 x4 x5 : Int32) (Post : Me → Prop) : Prop := (pX11_book σ ax x1 (fun r σ1 => gT σ1 am = 12 ∧ pX12_book σ1 am x1 (fun r2 σ2 => r = r2 ∧ Post σ2)))
def sp_1 (ax am : Nat) (σ : Me) (x1 x2 x3 x4 x5 : Int32) (Post : Me → Prop) : Prop := (pX11_weigh σ ax x1 x2 x3 (fun r σ1 => gT σ1 am = 12 ∧ pX12_weigh σ1 am x1 x2 x3 (fun r2 σ2 => r = r2 ∧ Post σ2)))
def sp_2 (ax am : Nat) (σ : Me) (x1 x2 x3 x4 x5 : Int32) (Post : Me → Prop) : Prop := (pX11_close σ ax x1 (fun r σ1 => gT σ1 am = 12 ∧ pX12_close σ1 am x1 (fun r2 σ2 => r = r2 ∧ Post σ2)))
def sp_3 (ax am : Nat) (σ : Me) (x1 x2 x3 x4 x5 : Int32) (Post : Me → Prop) : Prop := (pX11_copy σ ax x1 x2 x3 x4 x5 (fun r σ1 => gT σ1 am = 12 ∧ pX12_copy σ1 am x1 x2 x3 x4 x5 (fun r2 σ2 => r = r2 ∧ Post σ2)))
def sp_4 (ax am : Nat) (σ : Me) (x1 x2 x3 x4 x5 : Int32) (Post : Me → Prop) : Prop := (pX11_mean σ ax x1 (fun r σ1 => gT σ1 am = 12 ∧ pX12_mean σ1 am x1 (fun r2 σ2 => r = r2 ∧ Post σ2)))
def sp_5 (ax am : Nat) (σ : Me) (x1 x2 x3 x4 x5 : Int32) (Post : Me → Prop) : Prop := (pX11_sheet σ ax x1 x2 (fun r σ1 => gT σ1 am = 12 ∧ pX12_sheet σ1 am x1 x2 (fun r2 σ2 => r = r2 ∧ Post σ2)))
def sp_6 (ax am : Nat) (σ : Me) (x1 x2 x3 x4 x5 : Int32) (Post : Me → Prop) : Prop := (pX11_lay σ ax x1 x2 x3 (fun r σ1 => gT σ1 am = 12 ∧ pX12_lay σ1 am x1 x2 x3 (fun r2 σ2 => r = r2 ∧ Post σ2)))
def sp_7 (ax am : Nat) (σ : Me) (x1 x2 x3 x4 x5 : Int32) (Post : Me → Prop) : Prop := (pX11_tear σ ax x1 (fun r σ1 => gT σ1 am = 12 ∧ pX12_tear σ1 am x1 (fun r2 σ2 => r = r2 ∧ Post σ2)))
def sp_8 (ax am : Nat) (σ : Me) (x1 x2 x3 x4 x5 : Int32) (Post : Me → Prop) : Prop := (pX11_table σ ax x1 (fun r σ1 => gT σ1 am = 12 ∧ pX12_table σ1 am x1 (fun r2 σ2 => r = r2 ∧ Post σ2)))
def sp_9 (ax am : Nat) (σ : Me) (x1 x2 x3 x4 x5 : Int32) (Post : Me → Prop) : Prop := (pX11_rule σ ax x1 x2 x3 (fun r σ1 => gT σ1 am = 12 ∧ pX12_rule σ1 am x1 x2 x3 (fun r2 σ2 => r = r2 ∧ Post σ2)))
def sp_10 (ax am : Nat) (σ : Me) (x1 x2 x3 x4 x5 : Int32) (Post : Me → Prop) : Prop := (pX11_drop σ ax x1 (fun r σ1 => gT σ1 am = 12 ∧ pX12_drop σ1 am x1 (fun r2 σ2 => r = r2 ∧ Post σ2)))
def sp_11 (ax am : Nat) (σ : Me) (x1 x2 x3 x4 x5 : Int32) (Post : Me → Prop) : Prop := (pX11_told σ ax x1 x2 (fun r σ1 => gT σ1 am = 12 ∧ pX12_told σ1 am x1 x2 (fun r2 σ2 => r = r2 ∧ Post σ2)))
def sp_12 (ax am : Nat) (σ : Me) (x1 x2 x3 x4 x5 : Int32) (Post : Me → Prop) : Prop := (pX11_mark σ ax x1 x2 (fun r σ1 => gT σ1 am = 12 ∧ pX12_mark σ1 am x1 x2 (fun r2 σ2 => r = r2 ∧ Post σ2)))
def sp_13 (ax am : Nat) (σ : Me) (x1 x2 x3 x4 x5 : Int32) (Post : Me → Prop) : Prop := (pX11_order σ ax x1 x2 (fun r σ1 => gT σ1 am = 12 ∧ pX12_order σ1 am x1 x2 (fun r2 σ2 => r = r2 ∧ Post σ2)))
def sp_14 (ax am : Nat) (σ : Me) (x1 x2 x3 x4 x5 : Int32) (Post : Me → Prop) : Prop := (pX11_shop σ ax x1 x2 (if x3 = 0 then (0 : Int32) else (1 : Int32)) (fun r σ1 => gT σ1 am = 12 ∧ pX12_shop σ1 am x1 x2 (if x3 = 0 then (0 : Int32) else (1 : Int32)) (fun r2 σ2 => r = r2 ∧ Post σ2)))
def sp_15 (ax am : Nat) (σ : Me) (x1 x2 x3 x4 x5 : Int32) (Post : Me → Prop) : Prop := (pX11_costs σ ax x1 x2 x3 x4 (fun r σ1 => gT σ1 am = 12 ∧ pX12_costs σ1 am x1 x2 x3 x4 (fun r2 σ2 => r = r2 ∧ Post σ2)))
def sp_16 (ax am : Nat) (σ : Me) (x1 x2 x3 x4 x5 : Int32) (Post : Me → Prop) : Prop := (pX11_cost σ ax x1 x2 x3 x4 (fun r σ1 => gT σ1 am = 12 ∧ pX12_cost σ1 am x1 x2 x3 x4 (fun r2 σ2 => r = r2 ∧ Post σ2)))
def sp_17 (ax am : Nat) (σ : Me) (x1 x2 x3 x4 x5 : Int32) (Post : Me → Prop) : Prop := (pX11_service σ ax x1 x2 x3 x4 x5 (fun r σ1 => gT σ1 am = 12 ∧ pX12_service σ1 am x1 x2 x3 x4 x5 (fun r2 σ2 => r = r2 ∧ Post σ2)))
def sp_18 (ax am : Nat) (σ : Me) (x1 x2 x3 x4 x5 : Int32) (Post : Me → Prop) : Prop := (pX11_best σ ax x1 x2 x3 (fun r σ1 => gT σ1 am = 12 ∧ pX12_best σ1 am x1 x2 x3 (fun r2 σ2 => r = r2 ∧ Post σ2)))
def sp_19 (ax am : Nat) (σ : Me) (x1 x2 x3 x4 x5 : Int32) (Post : Me → Prop) : Prop := (pX11_bestPair σ ax x1 x2 x3 (fun r σ1 => gT σ1 am = 12 ∧ pX12_bestPair σ1 am x1 x2 x3 (fun r2 σ2 => r = r2 ∧ Post σ2)))
def sp_20 (ax am : Nat) (σ : Me) (x1 x2 x3 x4 x5 : Int32) (Post : Me → Prop) : Prop := (pX11_pairTold σ ax x1 (fun r σ1 => gT σ1 am = 12 ∧ pX12_pairTold σ1 am x1 (fun r2 σ2 => r = r2 ∧ Post σ2)))
def sp_21 (ax am : Nat) (σ : Me) (x1 x2 x3 x4 x5 : Int32) (Post : Me → Prop) : Prop := (pX11_spoilt σ ax x1 x2 x3 x4 (if x5 = 0 then (0 : Int32) else (1 : Int32)) (fun r σ1 => gT σ1 am = 12 ∧ pX12_spoilt σ1 am x1 x2 x3 x4 (if x5 = 0 then (0 : Int32) else (1 : Int32)) (fun r2 σ2 => r = r2 ∧ Post σ2)))
def sp_22 (ax am : Nat) (σ : Me) (x1 x2 x3 x4 x5 : Int32) (Post : Me → Prop) : Prop := (pX11_see σ ax x1 (fun r σ1 => gT σ1 am = 12 ∧ pX12_see σ1 am x1 (fun r2 σ2 => r = r2 ∧ Post σ2)))
def sp_23 (ax am : Nat) (σ : Me) (x1 x2 x3 x4 x5 : Int32) (Post : Me → Prop) : Prop := (pX11_forget σ ax (fun r σ1 => gT σ1 am = 12 ∧ pX12_forget σ1 am (fun r2 σ2 => r = r2 ∧ Post σ2)))
def sp_24 (ax am : Nat) (σ : Me) (x1 x2 x3 x4 x5 : Int32) (Post : Me → Prop) : Prop := (pX11_doubt σ ax x1 x2 x3 x4 (fun r σ1 => gT σ1 am = 12 ∧ pX12_doubt σ1 am x1 x2 x3 x4 (fun r2 σ2 => r = r2 ∧ Post σ2)))
def sp_25 (ax am : Nat) (σ : Me) (x1 x2 x3 x4 x5 : Int32) (Post : Me → Prop) : Prop := (pX11_upper σ ax (fun r σ1 => gT σ1 am = 12 ∧ pX12_upper σ1 am (fun r2 σ2 => r = r2 ∧ Post σ2)))
def sp_26 (ax am : Nat) (σ : Me) (x1 x2 x3 x4 x5 : Int32) (Post : Me → Prop) : Prop := (pX11_lower σ ax (fun r σ1 => gT σ1 am = 12 ∧ pX12_lower σ1 am (fun r2 σ2 => r = r2 ∧ Post σ2)))
def sp_27 (ax am : Nat) (σ : Me) (x1 x2 x3 x4 x5 : Int32) (Post : Me → Prop) : Prop := (pX11_count σ ax x1 (fun r σ1 => gT σ1 am = 12 ∧ pX12_count σ1 am x1 (fun r2 σ2 => r = r2 ∧ Post σ2)))
def sp_28 (ax am : Nat) (σ : Me) (x1 x2 x3 x4 x5 : Int32) (Post : Me → Prop) : Prop := (pX11_finding σ ax (fun r σ1 => gT σ1 am = 12 ∧ pX12_finding σ1 am (fun r2 σ2 => r = r2 ∧ Post σ2)))
def sp_29 (ax am : Nat) (σ : Me) (x1 x2 x3 x4 x5 : Int32) (Post : Me → Prop) : Prop := (pX11_findings σ ax x1 (fun r σ1 => gT σ1 am = 12 ∧ pX12_findings σ1 am x1 (fun r2 σ2 => r = r2 ∧ Post σ2)))
def sp_30 (ax am : Nat) (σ : Me) (x1 x2 x3 x4 x5 : Int32) (Post : Me → Prop) : Prop := (pX11_digest σ ax (fun r σ1 => gT σ1 am = 12 ∧ pX12_digest σ1 am (fun r2 σ2 => r = r2 ∧ Post σ2)))
/-- what each call of the law asks, from a memory with Inv n to one with Inv (n + 1) -/
def Step (Inv : Nat → Me → Prop) (ax am : Nat) : Prop := ∀ (n : Nat) (σ : Me), n < 512 → Inv n σ → ∀ (x1 x2 x3 x4 x5 : Int32), sp_0 ax am σ x1 x2 x3 x4 x5 (Inv (n + 1)) ∧ sp_1 ax am σ x1 x2 x3 x4 x5 (Inv (n + 1)) ∧ sp_2 ax am σ x1 x2 x3 x4 x5 (Inv (n + 1)) ∧ sp_3 ax am σ x1 x2 x3 x4 x5 (Inv (n + 1)) ∧ sp_4 ax am σ x1 x2 x3 x4 x5 (Inv (n + 1)) ∧ sp_5 ax am σ x1 x2 x3 x4 x5 (Inv (n + 1)) ∧ sp_6 ax am σ x1 x2 x3 x4 x5 (Inv (n + 1)) ∧ sp_7 ax am σ x1 x2 x3 x4 x5 (Inv (n + 1)) ∧ sp_8 ax am σ x1 x2 x3 x4 x5 (Inv (n + 1)) ∧ sp_9 ax am σ x1 x2 x3 x4 x5 (Inv (n + 1)) ∧ sp_10 ax am σ x1 x2 x3 x4 x5 (Inv (n + 1)) ∧ sp_11 ax am σ x1 x2 x3 x4 x5 (Inv (n + 1)) ∧ sp_12 ax am σ x1 x2 x3 x4 x5 (Inv (n + 1)) ∧ sp_13 ax am σ x1 x2 x3 x4 x5 (Inv (n + 1)) ∧ sp_14 ax am σ x1 x2 x3 x4 x5 (Inv (n + 1)) ∧ sp_15 ax am σ x1 x2 x3 x4 x5 (Inv (n + 1)) ∧ sp_16 ax am σ x1 x2 x3 x4 x5 (Inv (n + 1)) ∧ sp_17 ax am σ x1 x2 x3 x4 x5 (Inv (n + 1)) ∧ sp_18 ax am σ x1 x2 x3 x4 x5 (Inv (n + 1)) ∧ sp_19 ax am σ x1 x2 x3 x4 x5 (Inv (n + 1)) ∧ sp_20 ax am σ x1 x2 x3 x4 x5 (Inv (n + 1)) ∧ sp_21 ax am σ x1 x2 x3 x4 x5 (Inv (n + 1)) ∧ sp_22 ax am σ x1 x2 x3 x4 x5 (Inv (n + 1)) ∧ sp_23 ax am σ x1 x2 x3 x4 x5 (Inv (n + 1)) ∧ sp_24 ax am σ x1 x2 x3 x4 x5 (Inv (n + 1)) ∧ sp_25 ax am σ x1 x2 x3 x4 x5 (Inv (n + 1)) ∧ sp_26 ax am σ x1 x2 x3 x4 x5 (Inv (n + 1)) ∧ sp_27 ax am σ x1 x2 x3 x4 x5 (Inv (n + 1)) ∧ sp_28 ax am σ x1 x2 x3 x4 x5 (Inv (n + 1)) ∧ sp_29 ax am σ x1 x2 x3 x4 x5 (Inv (n + 1)) ∧ sp_30 ax am σ x1 x2 x3 x4 x5 (Inv (n + 1))
set_option maxHeartbeats 4000000 in
set_option maxRecDepth 100000 in
theorem law_loop {p : Program} {l : Launch} {e : Env} {s : State} {m : MethodId} {below : List Frame} {meth : Method} {c : Code} {D : va_G} {cA : Nat → ClassId} {b L : Nat} {xs : Nat → Int32} (hL : L ≤ 3072) (C0 : lw_At p s m meth c b L xs) (hKN : KN D cA s) {Inv : Nat → Me → Prop} {ax am c1 s1 : Nat} (hc1 : c1 + 1026 ≤ 600000 ∧ s1 + 13338 ≤ 7302250) (hT : ∀ n σ, Inv n σ → gT σ ax = 11) (hM : ∀ n σ, Inv n σ → Inv (n + 1) σ) (hSt : Step Inv ax am) :
    ∀ (k i : Nat), 513 ≤ i + k → 6 * i ≤ L → ∀ (σ : Me) (H : Heap) (locs : List Loc) (ls : Array Slot) (x3 : Int32), x3 = nI (6 * i) → Inv i σ → wS D cA s.heap.size s σ H locs → lv_has ls 4 [(0, .ref b), (1, .ref ax), (2, .ref am), (3, .int x3)] → W p l e room_1 s m #[Value.ref b] below meth c H locs (c1 + 2 * i) (s1 + 26 * i) (lw_Z below #[Value.ref b] s) (F0 m 18 ls []) := by
  obtain ⟨hx, hb, hr, hml, hown, hts, hXs, hbl, hlocks, hgv⟩ := C0
  have hX : Cx p m c code 4 s #[Value.ref b] R_law D cA := ⟨⟨hx, hb, hml, hown, fun w hw => hts w (List.mem_filter.mp hw).1⟩, hKN⟩
  have hbA : ¬ s.heap.size ≤ b := Nat.not_le.mpr hbl
  intro k
  induction k with
  | zero =>
    intro i h1 h2
    exact absurd h2 (by omega)
  | succ k ih =>
    intro i h1 h2 σ H locs ls x3 ex hI hw hl
    refine lv_iload_n hx hb dL_law_18 rfl (lv_at hl 3 rfl) ?_
    refine lv_aload_n hx hb dL_law_19 rfl (lv_at hl 0 rfl) ?_
    refine va_slen hx hb hXs hbl hbA hw.2 dL_law_20 ?_
    refine lv_bipush (v := 6) hx hb dL_law_21 (by decide) ?_
    refine lv_isub hx hb dL_law_23 ?_
    have e1 : (Int32.ofNat L - 6).toInt = (L : Int) - 6 := by
      have e6 : (6 : Int32) = nI 6 := by decide
      have eL : Int32.ofNat L = nI L := rfl
      rw [eL, e6]
      exact pk_sub_toInt (by omega) (by omega)
    have e2 : x3.toInt = ((6 * i : Nat) : Int) := by rw [ex]; exact nI_toInt (by omega)
    refine lv_icmp_gt (tgt := 1246) hx hb dL_law_24 (by decide) (fun hc => ?_) (fun hc => ?_)
    · refine lv_iconst (v := 1) hx hb dL_law_1246 (by decide) ?_
      refine va_forget (fun q hq => hw.2.2.2 q hq) ?_
      refine W.widen (k := 600000) (n := 7302250) (by omega) (by omega) ?_
      exact lw_ret hx hb hr hlocks dL_law_1247
    · have hle : 6 * i + 6 ≤ L := by
        have h3 : ¬ (Int32.ofNat L - 6).toInt < x3.toInt := fun q => hc (Int32.lt_iff_toInt_lt.mpr q)
        rw [e1, e2] at h3
        omega
      have hin : ∀ j : Nat, j < 6 → vp_in (x3 + nI j) L := fun j hj => by
        rw [ex, nI_add]
        exact vp_in_nI (by omega) (by omega)
      have hi0 : vp_in x3 L := by rw [ex]; exact vp_in_nI (by omega) (by omega)
      have hi1 : vp_in (x3 + 1) L := hin 1 (by omega)
      have hi2 : vp_in (x3 + 2) L := hin 2 (by omega)
      have hi3 : vp_in (x3 + 3) L := hin 3 (by omega)
      have hi4 : vp_in (x3 + 4) L := hin 4 (by omega)
      have hi5 : vp_in (x3 + 5) L := hin 5 (by omega)
      have hlt : i < 512 := by omega
      have hk : ∀ (σ2 : Me) (H : Heap) (locs : List Loc) (cc sc : Nat), cc ≤ c1 + 2 * (i + 1) → sc ≤ s1 + 26 * (i + 1) → Inv (i + 1) σ2 → wS D cA s.heap.size s σ2 H locs → W p l e room_1 s m #[Value.ref b] below meth c H locs cc sc (lw_Z below #[Value.ref b] s) (F0 m 1240 ls []) := by
        intro σ2 H locs cc sc h3 h4 hI hw
        refine W.widen (k := c1 + 2 * (i + 1)) (n := s1 + 26 * (i + 1)) h3 h4 ?_
        refine lv_iinc (v := x3 + 6) (lv' := [(3, _), (0, _), (1, _), (2, _)]) hx hb dL_law_1240 hl (k := 3) rfl rfl (by decide) rfl (fun ls hl => ?_)
        refine lv_goto (tgt := 18) hx hb dL_law_1243 (by decide) ?_
        exact ih (i + 1) (by omega) (by omega) σ2 H locs ls (x3 + 6) (by rw [ex, show (6 : Int32) = nI 6 by decide, nI_add, Nat.mul_add]) hI hw (lv_sub hl [1, 2, 3, 0] rfl)
      have hSx := hSt i σ hlt hI (xs (x3 + 1).toNatClampNeg) (xs (x3 + 2).toNatClampNeg) (xs (x3 + 3).toNatClampNeg) (xs (x3 + 4).toNatClampNeg) (xs (x3 + 5).toNatClampNeg)
      refine lv_aload_n hx hb dL_law_27 rfl (lv_at hl 0 rfl) ?_
      refine lv_iload_n hx hb dL_law_28 rfl (lv_at hl 3 rfl) ?_
      refine va_sld hx hb hXs hbl hbA hw.2 hi0 dL_law_29 ?_
      refine lv_bipush (v := 31) hx hb dL_law_30 (by decide) ?_
      refine lv_iand hx hb dL_law_32 ?_
      generalize xs x3.toNatClampNeg &&& 31 = sw
      by_cases hs0 : sw = 0
      · refine lv_tableIn (off := 139) (tgt := 172) hx hb dL_law_33 (by rw [hs0]; decide) (by rw [hs0]; decide) (by rw [hs0]; rfl) (by decide) ?_
        exact law_0 hX hXs hbl hi1 hi2 hi3 hi4 hi5 (hT i σ hI) hSx.1 ⟨(show _ ≤ 600000 by omega), (show _ ≤ 7302250 by omega)⟩ hw hl (fun σ2 H locs hI hw => hk σ2 H locs _ _ (by omega) (by omega) hI hw)
      by_cases hs1 : sw = 1
      · refine lv_tableIn (off := 162) (tgt := 195) hx hb dL_law_33 (by rw [hs1]; decide) (by rw [hs1]; decide) (by rw [hs1]; rfl) (by decide) ?_
        exact law_1 hX hXs hbl hi1 hi2 hi3 hi4 hi5 (hT i σ hI) hSx.2.1 ⟨(show _ ≤ 600000 by omega), (show _ ≤ 7302250 by omega)⟩ hw hl (fun σ2 H locs hI hw => hk σ2 H locs _ _ (by omega) (by omega) hI hw)
      by_cases hs2 : sw = 2
      · refine lv_tableIn (off := 205) (tgt := 238) hx hb dL_law_33 (by rw [hs2]; decide) (by rw [hs2]; decide) (by rw [hs2]; rfl) (by decide) ?_
        exact law_2 hX hXs hbl hi1 hi2 hi3 hi4 hi5 (hT i σ hI) hSx.2.2.1 ⟨(show _ ≤ 600000 by omega), (show _ ≤ 7302250 by omega)⟩ hw hl (fun σ2 H locs hI hw => hk σ2 H locs _ _ (by omega) (by omega) hI hw)
      by_cases hs3 : sw = 3
      · refine lv_tableIn (off := 228) (tgt := 261) hx hb dL_law_33 (by rw [hs3]; decide) (by rw [hs3]; decide) (by rw [hs3]; rfl) (by decide) ?_
        exact law_3 hX hXs hbl hi1 hi2 hi3 hi4 hi5 (hT i σ hI) hSx.2.2.2.1 ⟨(show _ ≤ 600000 by omega), (show _ ≤ 7302250 by omega)⟩ hw hl (fun σ2 H locs hI hw => hk σ2 H locs _ _ (by omega) (by omega) hI hw)
      by_cases hs4 : sw = 4
      · refine lv_tableIn (off := 291) (tgt := 324) hx hb dL_law_33 (by rw [hs4]; decide) (by rw [hs4]; decide) (by rw [hs4]; rfl) (by decide) ?_
        exact law_4 hX hXs hbl hi1 hi2 hi3 hi4 hi5 (hT i σ hI) hSx.2.2.2.2.1 ⟨(show _ ≤ 600000 by omega), (show _ ≤ 7302250 by omega)⟩ hw hl (fun σ2 H locs hI hw => hk σ2 H locs _ _ (by omega) (by omega) hI hw)
      by_cases hs5 : sw = 5
      · refine lv_tableIn (off := 314) (tgt := 347) hx hb dL_law_33 (by rw [hs5]; decide) (by rw [hs5]; decide) (by rw [hs5]; rfl) (by decide) ?_
        exact law_5 hX hXs hbl hi1 hi2 hi3 hi4 hi5 (hT i σ hI) hSx.2.2.2.2.2.1 ⟨(show _ ≤ 600000 by omega), (show _ ≤ 7302250 by omega)⟩ hw hl (fun σ2 H locs hI hw => hk σ2 H locs _ _ (by omega) (by omega) hI hw)
      by_cases hs6 : sw = 6
      · refine lv_tableIn (off := 347) (tgt := 380) hx hb dL_law_33 (by rw [hs6]; decide) (by rw [hs6]; decide) (by rw [hs6]; rfl) (by decide) ?_
        exact law_6 hX hXs hbl hi1 hi2 hi3 hi4 hi5 (hT i σ hI) hSx.2.2.2.2.2.2.1 ⟨(show _ ≤ 600000 by omega), (show _ ≤ 7302250 by omega)⟩ hw hl (fun σ2 H locs hI hw => hk σ2 H locs _ _ (by omega) (by omega) hI hw)
      by_cases hs7 : sw = 7
      · refine lv_tableIn (off := 390) (tgt := 423) hx hb dL_law_33 (by rw [hs7]; decide) (by rw [hs7]; decide) (by rw [hs7]; rfl) (by decide) ?_
        exact law_7 hX hXs hbl hi1 hi2 hi3 hi4 hi5 (hT i σ hI) hSx.2.2.2.2.2.2.2.1 ⟨(show _ ≤ 600000 by omega), (show _ ≤ 7302250 by omega)⟩ hw hl (fun σ2 H locs hI hw => hk σ2 H locs _ _ (by omega) (by omega) hI hw)
      by_cases hs8 : sw = 8
      · refine lv_tableIn (off := 413) (tgt := 446) hx hb dL_law_33 (by rw [hs8]; decide) (by rw [hs8]; decide) (by rw [hs8]; rfl) (by decide) ?_
        exact law_8 hX hXs hbl hi1 hi2 hi3 hi4 hi5 (hT i σ hI) hSx.2.2.2.2.2.2.2.2.1 ⟨(show _ ≤ 600000 by omega), (show _ ≤ 7302250 by omega)⟩ hw hl (fun σ2 H locs hI hw => hk σ2 H locs _ _ (by omega) (by omega) hI hw)
      by_cases hs9 : sw = 9
      · refine lv_tableIn (off := 436) (tgt := 469) hx hb dL_law_33 (by rw [hs9]; decide) (by rw [hs9]; decide) (by rw [hs9]; rfl) (by decide) ?_
        exact law_9 hX hXs hbl hi1 hi2 hi3 hi4 hi5 (hT i σ hI) hSx.2.2.2.2.2.2.2.2.2.1 ⟨(show _ ≤ 600000 by omega), (show _ ≤ 7302250 by omega)⟩ hw hl (fun σ2 H locs hI hw => hk σ2 H locs _ _ (by omega) (by omega) hI hw)
      by_cases hs10 : sw = 10
      · refine lv_tableIn (off := 479) (tgt := 512) hx hb dL_law_33 (by rw [hs10]; decide) (by rw [hs10]; decide) (by rw [hs10]; rfl) (by decide) ?_
        exact law_10 hX hXs hbl hi1 hi2 hi3 hi4 hi5 (hT i σ hI) hSx.2.2.2.2.2.2.2.2.2.2.1 ⟨(show _ ≤ 600000 by omega), (show _ ≤ 7302250 by omega)⟩ hw hl (fun σ2 H locs hI hw => hk σ2 H locs _ _ (by omega) (by omega) hI hw)
      by_cases hs11 : sw = 11
      · refine lv_tableIn (off := 502) (tgt := 535) hx hb dL_law_33 (by rw [hs11]; decide) (by rw [hs11]; decide) (by rw [hs11]; rfl) (by decide) ?_
        exact law_11 hX hXs hbl hi1 hi2 hi3 hi4 hi5 (hT i σ hI) hSx.2.2.2.2.2.2.2.2.2.2.2.1 ⟨(show _ ≤ 600000 by omega), (show _ ≤ 7302250 by omega)⟩ hw hl (fun σ2 H locs hI hw => hk σ2 H locs _ _ (by omega) (by omega) hI hw)
      by_cases hs12 : sw = 12
      · refine lv_tableIn (off := 535) (tgt := 568) hx hb dL_law_33 (by rw [hs12]; decide) (by rw [hs12]; decide) (by rw [hs12]; rfl) (by decide) ?_
        exact law_12 hX hXs hbl hi1 hi2 hi3 hi4 hi5 (hT i σ hI) hSx.2.2.2.2.2.2.2.2.2.2.2.2.1 ⟨(show _ ≤ 600000 by omega), (show _ ≤ 7302250 by omega)⟩ hw hl (fun σ2 H locs hI hw => hk σ2 H locs _ _ (by omega) (by omega) hI hw)
      by_cases hs13 : sw = 13
      · refine lv_tableIn (off := 568) (tgt := 601) hx hb dL_law_33 (by rw [hs13]; decide) (by rw [hs13]; decide) (by rw [hs13]; rfl) (by decide) ?_
        exact law_13 hX hXs hbl hi1 hi2 hi3 hi4 hi5 (hT i σ hI) hSx.2.2.2.2.2.2.2.2.2.2.2.2.2.1 ⟨(show _ ≤ 600000 by omega), (show _ ≤ 7302250 by omega)⟩ hw hl (fun σ2 H locs hI hw => hk σ2 H locs _ _ (by omega) (by omega) hI hw)
      by_cases hs14 : sw = 14
      · refine lv_tableIn (off := 601) (tgt := 634) hx hb dL_law_33 (by rw [hs14]; decide) (by rw [hs14]; decide) (by rw [hs14]; rfl) (by decide) ?_
        exact law_14 hX hXs hbl hi1 hi2 hi3 hi4 hi5 (hT i σ hI) hSx.2.2.2.2.2.2.2.2.2.2.2.2.2.2.1 ⟨(show _ ≤ 600000 by omega), (show _ ≤ 7302250 by omega)⟩ hw hl (fun σ2 H locs hI hw => hk σ2 H locs _ _ (by omega) (by omega) hI hw)
      by_cases hs15 : sw = 15
      · refine lv_tableIn (off := 660) (tgt := 693) hx hb dL_law_33 (by rw [hs15]; decide) (by rw [hs15]; decide) (by rw [hs15]; rfl) (by decide) ?_
        exact law_15 hX hXs hbl hi1 hi2 hi3 hi4 hi5 (hT i σ hI) hSx.2.2.2.2.2.2.2.2.2.2.2.2.2.2.2.1 ⟨(show _ ≤ 600000 by omega), (show _ ≤ 7302250 by omega)⟩ hw hl (fun σ2 H locs hI hw => hk σ2 H locs _ _ (by omega) (by omega) hI hw)
      by_cases hs16 : sw = 16
      · refine lv_tableIn (off := 713) (tgt := 746) hx hb dL_law_33 (by rw [hs16]; decide) (by rw [hs16]; decide) (by rw [hs16]; rfl) (by decide) ?_
        exact law_16 hX hXs hbl hi1 hi2 hi3 hi4 hi5 (hT i σ hI) hSx.2.2.2.2.2.2.2.2.2.2.2.2.2.2.2.2.1 ⟨(show _ ≤ 600000 by omega), (show _ ≤ 7302250 by omega)⟩ hw hl (fun σ2 H locs hI hw => hk σ2 H locs _ _ (by omega) (by omega) hI hw)
      by_cases hs17 : sw = 17
      · refine lv_tableIn (off := 766) (tgt := 799) hx hb dL_law_33 (by rw [hs17]; decide) (by rw [hs17]; decide) (by rw [hs17]; rfl) (by decide) ?_
        exact law_17 hX hXs hbl hi1 hi2 hi3 hi4 hi5 (hT i σ hI) hSx.2.2.2.2.2.2.2.2.2.2.2.2.2.2.2.2.2.1 ⟨(show _ ≤ 600000 by omega), (show _ ≤ 7302250 by omega)⟩ hw hl (fun σ2 H locs hI hw => hk σ2 H locs _ _ (by omega) (by omega) hI hw)
      by_cases hs18 : sw = 18
      · refine lv_tableIn (off := 829) (tgt := 862) hx hb dL_law_33 (by rw [hs18]; decide) (by rw [hs18]; decide) (by rw [hs18]; rfl) (by decide) ?_
        exact law_18 hX hXs hbl hi1 hi2 hi3 hi4 hi5 (hT i σ hI) hSx.2.2.2.2.2.2.2.2.2.2.2.2.2.2.2.2.2.2.1 ⟨(show _ ≤ 600000 by omega), (show _ ≤ 7302250 by omega)⟩ hw hl (fun σ2 H locs hI hw => hk σ2 H locs _ _ (by omega) (by omega) hI hw)
      by_cases hs19 : sw = 19
      · refine lv_tableIn (off := 872) (tgt := 905) hx hb dL_law_33 (by rw [hs19]; decide) (by rw [hs19]; decide) (by rw [hs19]; rfl) (by decide) ?_
        exact law_19 hX hXs hbl hi1 hi2 hi3 hi4 hi5 (hT i σ hI) hSx.2.2.2.2.2.2.2.2.2.2.2.2.2.2.2.2.2.2.2.1 ⟨(show _ ≤ 600000 by omega), (show _ ≤ 7302250 by omega)⟩ hw hl (fun σ2 H locs hI hw => hk σ2 H locs _ _ (by omega) (by omega) hI hw)
      by_cases hs20 : sw = 20
      · refine lv_tableIn (off := 915) (tgt := 948) hx hb dL_law_33 (by rw [hs20]; decide) (by rw [hs20]; decide) (by rw [hs20]; rfl) (by decide) ?_
        exact law_20 hX hXs hbl hi1 hi2 hi3 hi4 hi5 (hT i σ hI) hSx.2.2.2.2.2.2.2.2.2.2.2.2.2.2.2.2.2.2.2.2.1 ⟨(show _ ≤ 600000 by omega), (show _ ≤ 7302250 by omega)⟩ hw hl (fun σ2 H locs hI hw => hk σ2 H locs _ _ (by omega) (by omega) hI hw)
      by_cases hs21 : sw = 21
      · refine lv_tableIn (off := 938) (tgt := 971) hx hb dL_law_33 (by rw [hs21]; decide) (by rw [hs21]; decide) (by rw [hs21]; rfl) (by decide) ?_
        exact law_21 hX hXs hbl hi1 hi2 hi3 hi4 hi5 (hT i σ hI) hSx.2.2.2.2.2.2.2.2.2.2.2.2.2.2.2.2.2.2.2.2.2.1 ⟨(show _ ≤ 600000 by omega), (show _ ≤ 7302250 by omega)⟩ hw hl (fun σ2 H locs hI hw => hk σ2 H locs _ _ (by omega) (by omega) hI hw)
      by_cases hs22 : sw = 22
      · refine lv_tableIn (off := 1017) (tgt := 1050) hx hb dL_law_33 (by rw [hs22]; decide) (by rw [hs22]; decide) (by rw [hs22]; rfl) (by decide) ?_
        exact law_22 hX hXs hbl hi1 hi2 hi3 hi4 hi5 (hT i σ hI) hSx.2.2.2.2.2.2.2.2.2.2.2.2.2.2.2.2.2.2.2.2.2.2.1 ⟨(show _ ≤ 600000 by omega), (show _ ≤ 7302250 by omega)⟩ hw hl (fun σ2 H locs hI hw => hk σ2 H locs _ _ (by omega) (by omega) hI hw)
      by_cases hs23 : sw = 23
      · refine lv_tableIn (off := 1040) (tgt := 1073) hx hb dL_law_33 (by rw [hs23]; decide) (by rw [hs23]; decide) (by rw [hs23]; rfl) (by decide) ?_
        exact law_23 hX hXs hbl hi1 hi2 hi3 hi4 hi5 (hT i σ hI) hSx.2.2.2.2.2.2.2.2.2.2.2.2.2.2.2.2.2.2.2.2.2.2.2.1 ⟨(show _ ≤ 600000 by omega), (show _ ≤ 7302250 by omega)⟩ hw hl (fun σ2 H locs hI hw => hk σ2 H locs _ _ (by omega) (by omega) hI hw)
      by_cases hs24 : sw = 24
      · refine lv_tableIn (off := 1053) (tgt := 1086) hx hb dL_law_33 (by rw [hs24]; decide) (by rw [hs24]; decide) (by rw [hs24]; rfl) (by decide) ?_
        exact law_24 hX hXs hbl hi1 hi2 hi3 hi4 hi5 (hT i σ hI) hSx.2.2.2.2.2.2.2.2.2.2.2.2.2.2.2.2.2.2.2.2.2.2.2.2.1 ⟨(show _ ≤ 600000 by omega), (show _ ≤ 7302250 by omega)⟩ hw hl (fun σ2 H locs hI hw => hk σ2 H locs _ _ (by omega) (by omega) hI hw)
      by_cases hs25 : sw = 25
      · refine lv_tableIn (off := 1106) (tgt := 1139) hx hb dL_law_33 (by rw [hs25]; decide) (by rw [hs25]; decide) (by rw [hs25]; rfl) (by decide) ?_
        exact law_25 hX hXs hbl hi1 hi2 hi3 hi4 hi5 (hT i σ hI) hSx.2.2.2.2.2.2.2.2.2.2.2.2.2.2.2.2.2.2.2.2.2.2.2.2.2.1 ⟨(show _ ≤ 600000 by omega), (show _ ≤ 7302250 by omega)⟩ hw hl (fun σ2 H locs hI hw => hk σ2 H locs _ _ (by omega) (by omega) hI hw)
      by_cases hs26 : sw = 26
      · refine lv_tableIn (off := 1120) (tgt := 1153) hx hb dL_law_33 (by rw [hs26]; decide) (by rw [hs26]; decide) (by rw [hs26]; rfl) (by decide) ?_
        exact law_26 hX hXs hbl hi1 hi2 hi3 hi4 hi5 (hT i σ hI) hSx.2.2.2.2.2.2.2.2.2.2.2.2.2.2.2.2.2.2.2.2.2.2.2.2.2.2.1 ⟨(show _ ≤ 600000 by omega), (show _ ≤ 7302250 by omega)⟩ hw hl (fun σ2 H locs hI hw => hk σ2 H locs _ _ (by omega) (by omega) hI hw)
      by_cases hs27 : sw = 27
      · refine lv_tableIn (off := 1134) (tgt := 1167) hx hb dL_law_33 (by rw [hs27]; decide) (by rw [hs27]; decide) (by rw [hs27]; rfl) (by decide) ?_
        exact law_27 hX hXs hbl hi1 hi2 hi3 hi4 hi5 (hT i σ hI) hSx.2.2.2.2.2.2.2.2.2.2.2.2.2.2.2.2.2.2.2.2.2.2.2.2.2.2.2.1 ⟨(show _ ≤ 600000 by omega), (show _ ≤ 7302250 by omega)⟩ hw hl (fun σ2 H locs hI hw => hk σ2 H locs _ _ (by omega) (by omega) hI hw)
      by_cases hs28 : sw = 28
      · refine lv_tableIn (off := 1157) (tgt := 1190) hx hb dL_law_33 (by rw [hs28]; decide) (by rw [hs28]; decide) (by rw [hs28]; rfl) (by decide) ?_
        exact law_28 hX hXs hbl hi1 hi2 hi3 hi4 hi5 (hT i σ hI) hSx.2.2.2.2.2.2.2.2.2.2.2.2.2.2.2.2.2.2.2.2.2.2.2.2.2.2.2.2.1 ⟨(show _ ≤ 600000 by omega), (show _ ≤ 7302250 by omega)⟩ hw hl (fun σ2 H locs hI hw => hk σ2 H locs _ _ (by omega) (by omega) hI hw)
      by_cases hs29 : sw = 29
      · refine lv_tableIn (off := 1170) (tgt := 1203) hx hb dL_law_33 (by rw [hs29]; decide) (by rw [hs29]; decide) (by rw [hs29]; rfl) (by decide) ?_
        exact law_29 hX hXs hbl hi1 hi2 hi3 hi4 hi5 (hT i σ hI) hSx.2.2.2.2.2.2.2.2.2.2.2.2.2.2.2.2.2.2.2.2.2.2.2.2.2.2.2.2.2.1 ⟨(show _ ≤ 600000 by omega), (show _ ≤ 7302250 by omega)⟩ hw hl (fun σ2 H locs hI hw => hk σ2 H locs _ _ (by omega) (by omega) hI hw)
      by_cases hs30 : sw = 30
      · refine lv_tableIn (off := 1193) (tgt := 1226) hx hb dL_law_33 (by rw [hs30]; decide) (by rw [hs30]; decide) (by rw [hs30]; rfl) (by decide) ?_
        exact law_30 hX hXs hbl hi1 hi2 hi3 hi4 hi5 (hT i σ hI) hSx.2.2.2.2.2.2.2.2.2.2.2.2.2.2.2.2.2.2.2.2.2.2.2.2.2.2.2.2.2.2 ⟨(show _ ≤ 600000 by omega), (show _ ≤ 7302250 by omega)⟩ hw hl (fun σ2 H locs hI hw => hk σ2 H locs _ _ (by omega) (by omega) hI hw)
      refine lv_tableOut (tgt := 1240) hx hb dL_law_33 (by have q0 := lv_neT hs0 (show (0 : Int32).toInt = 0 by decide); have q1 := lv_neT hs1 (show (1 : Int32).toInt = 1 by decide); have q2 := lv_neT hs2 (show (2 : Int32).toInt = 2 by decide); have q3 := lv_neT hs3 (show (3 : Int32).toInt = 3 by decide); have q4 := lv_neT hs4 (show (4 : Int32).toInt = 4 by decide); have q5 := lv_neT hs5 (show (5 : Int32).toInt = 5 by decide); have q6 := lv_neT hs6 (show (6 : Int32).toInt = 6 by decide); have q7 := lv_neT hs7 (show (7 : Int32).toInt = 7 by decide); have q8 := lv_neT hs8 (show (8 : Int32).toInt = 8 by decide); have q9 := lv_neT hs9 (show (9 : Int32).toInt = 9 by decide); have q10 := lv_neT hs10 (show (10 : Int32).toInt = 10 by decide); have q11 := lv_neT hs11 (show (11 : Int32).toInt = 11 by decide); have q12 := lv_neT hs12 (show (12 : Int32).toInt = 12 by decide); have q13 := lv_neT hs13 (show (13 : Int32).toInt = 13 by decide); have q14 := lv_neT hs14 (show (14 : Int32).toInt = 14 by decide); have q15 := lv_neT hs15 (show (15 : Int32).toInt = 15 by decide); have q16 := lv_neT hs16 (show (16 : Int32).toInt = 16 by decide); have q17 := lv_neT hs17 (show (17 : Int32).toInt = 17 by decide); have q18 := lv_neT hs18 (show (18 : Int32).toInt = 18 by decide); have q19 := lv_neT hs19 (show (19 : Int32).toInt = 19 by decide); have q20 := lv_neT hs20 (show (20 : Int32).toInt = 20 by decide); have q21 := lv_neT hs21 (show (21 : Int32).toInt = 21 by decide); have q22 := lv_neT hs22 (show (22 : Int32).toInt = 22 by decide); have q23 := lv_neT hs23 (show (23 : Int32).toInt = 23 by decide); have q24 := lv_neT hs24 (show (24 : Int32).toInt = 24 by decide); have q25 := lv_neT hs25 (show (25 : Int32).toInt = 25 by decide); have q26 := lv_neT hs26 (show (26 : Int32).toInt = 26 by decide); have q27 := lv_neT hs27 (show (27 : Int32).toInt = 27 by decide); have q28 := lv_neT hs28 (show (28 : Int32).toInt = 28 by decide); have q29 := lv_neT hs29 (show (29 : Int32).toInt = 29 by decide); have q30 := lv_neT hs30 (show (30 : Int32).toInt = 30 by decide); omega) (by decide) ?_
      exact hk σ H locs _ _ (by omega) (by omega) (hM i σ hI) hw
